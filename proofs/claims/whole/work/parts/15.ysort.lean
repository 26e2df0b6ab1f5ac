/-- the order that the reference sorts by -/
def ag_R (o a b : Int32) : Prop := (a = o ∧ b ≠ o) ∨ (a ≠ o ∧ b ≠ o ∧ 0 < gm_tr o a b)
theorem ag_nz {S : Int32 → Prop} (hS : ∀ r, S r → gm_P r) {o a b : Int32} (hm : gm_mn S o) (ha : S a) (hb : S b) (ea : gm_E S a) (eb : gm_E S b) (na : a ≠ o) (nb : b ≠ o) (ne : a ≠ b) : gm_tr o a b ≠ 0 := by
  have key : ∀ {a b : Int32}, S a → S b → gm_E S a → a ≠ o → b ≠ o → gm_la a < gm_la b → gm_tr o a b ≠ 0 := by
    intro a b ha hb ea na nb l z
    have la := hm.2 a ha na
    have lb := hm.2 b hb nb
    have a1 := gm_Eseg ea hm.1 hb na.symm (fun e => by rw [e] at l; omega) (by rw [gm_swq]; omega)
    have a2 := (gm_seg (a := 64) (b := 1) (c := o) (u := b) (r := a) (by rw [gm_phl]; omega) (by rw [gm_phl]; omega) (by rw [gm_swp]; omega)).mpr (by rw [gm_phl, gm_phl]; omega)
    omega
  rcases Int.lt_trichotomy (gm_la a) (gm_la b) with l | l | l
  · exact key ha hb ea na nb l
  · exact absurd (gm_laext (hS a ha) (hS b hb) l) ne
  · intro z
    exact key hb ha eb nb na l (by rw [gm_swp]; omega)
theorem ag_tr {S : Int32 → Prop} {o a b c : Int32} (hm : gm_mn S o) (ha : S a) (hb : S b) (hc : S c) (h1 : ag_R o a b) (h2 : ag_R o b c) : ag_R o a c := by
  rcases h2 with ⟨e, _⟩ | ⟨nb, nc, t2⟩
  · rcases h1 with ⟨_, n⟩ | ⟨_, n, _⟩
    · exact absurd e n
    · exact absurd e n
  · rcases h1 with ⟨e, _⟩ | ⟨na, _, t1⟩
    · exact Or.inl ⟨e, nc⟩
    · exact Or.inr ⟨na, nc, gm_srt (hm.2 a ha na) (hm.2 b hb nb) (hm.2 c hc nc) t1 t2⟩
def ag_I (S : Int32 → Prop) (L : Nat → Int32) (m : Nat) : Prop := (∀ p, (S p ∧ gm_E S p) ↔ ∃ i, i < m ∧ L i = p) ∧ (∀ i j, i < j → j < m → L i ≠ L j)
theorem ag_swap {S : Int32 → Prop} {L : Nat → Int32} {m j : Nat} (h : ag_I S L m) (hj : j + 1 < m) : ag_I S (upd (upd L j (L (j + 1))) (j + 1) (L j)) m := by
  have e0 : upd (upd L j (L (j + 1))) (j + 1) (L j) j = L (j + 1) := by rw [pk_un (by omega), pk_us]
  have e1 : upd (upd L j (L (j + 1))) (j + 1) (L j) (j + 1) = L j := pk_us
  have e2 : ∀ k, k ≠ j → k ≠ j + 1 → upd (upd L j (L (j + 1))) (j + 1) (L j) k = L k := fun k h1 h2 => by rw [pk_un h2, pk_un h1]
  refine ⟨fun p => ?_, fun a b hab hb => ?_⟩
  · rw [h.1 p]
    constructor
    · rintro ⟨i, hi, e⟩
      by_cases c : i = j
      · exact ⟨j + 1, hj, by rw [e1, ← c, e]⟩
      by_cases d : i = j + 1
      · exact ⟨j, by omega, by rw [e0, ← d, e]⟩
      · exact ⟨i, hi, by rw [e2 i c d, e]⟩
    · rintro ⟨i, hi, e⟩
      by_cases c : i = j
      · rw [c, e0] at e; exact ⟨j + 1, hj, e⟩
      by_cases d : i = j + 1
      · rw [d, e1] at e; exact ⟨j, by omega, e⟩
      · rw [e2 i c d] at e; exact ⟨i, hi, e⟩
  · by_cases a1 : a = j
    · by_cases b1 : b = j + 1
      · rw [a1, b1, e0, e1]; exact (h.2 j (j + 1) (by omega) hj).symm
      · rw [a1, e0, e2 b (by omega) b1]; exact h.2 (j + 1) b (by omega) hb
    by_cases a2 : a = j + 1
    · rw [a2, e1, e2 b (by omega) (by omega)]; exact h.2 j b (by omega) hb
    rw [e2 a a1 a2]
    by_cases b1 : b = j
    · rw [b1, e0]; exact h.2 a (j + 1) (by omega) hj
    by_cases b2 : b = j + 1
    · rw [b2, e1]; exact h.2 a j (by omega) (by omega)
    rw [e2 b b1 b2]; exact h.2 a b hab hb
theorem ag_ref {S : Int32 → Prop} {L : Nat → Int32} {m : Nat} {o : Int32} (hm : gm_mn S o) (h : ag_I S L m) (hs : ∀ a b, a < b → b < m → ag_R o (L a) (L b)) : gm_ref S L m := by
  obtain ⟨k, hk, ek⟩ := (h.1 o).mp ⟨hm.1, gm_mnE hm⟩
  have l0 : L 0 = o := by
    by_cases c : k = 0
    · rw [← c]; exact ek
    · rcases hs 0 k (by omega) hk with q | q
      · exact q.1
      · exact absurd ek q.2.1
  refine ⟨h.1, fun _ => l0 ▸ hm, fun i h0 hi => (h.2 0 i h0 hi).symm, fun i j h0 hij hj => ?_⟩
  rcases hs i j hij hj with q | q
  · exact absurd (q.1.trans l0.symm) (h.2 0 i h0 (by omega)).symm
  · rw [l0]; exact q.2.2
theorem wy_arrange {post : SY → Prop} {sp lf li : Nat → Int32} {S : Int32 → Prop} (hS : ∀ r, S r → gm_P r) {m : Nat} {o : Int32} (hm24 : m ≤ 24) (hm : 0 < m → gm_mn S o) (h : ag_I S li m)
    (hp : ∀ L, gm_ref S L m → post (nI m, sp, lf, L)) : wpY_arrange post (nI m, sp, lf, li) o := by
  by_cases m0 : m = 0
  · subst m0
    exact ⟨1, br_t (by decide) (hp li ⟨h.1, fun q => by omega, fun i _ q => by omega, fun i j _ _ q => by omega⟩)⟩
  have hm := hm (by omega)
  have mem : ∀ {L : Nat → Int32}, ag_I S L m → ∀ i, i < m → S (L i) ∧ gm_E S (L i) := fun hL i hi => (hL.1 _).mpr ⟨i, hi, rfl⟩
  have key : ∀ d i, i + d = m → ∀ L, ag_I S L m → (∀ a b, a < i → a < b → b < m → ag_R o (L a) (L b)) → wY_arrange_2 post o (nI m) (d + 1) (nI i) sp lf L := by
    intro d
    induction d with
    | zero =>
      intro i hi L hL hR
      exact br_t (nI_le (by omega) (by omega)) (hp L (ag_ref hm hL (fun a b hab hb => hR a b (by omega) hab hb)))
    | succ d ih =>
      intro i hi L hL hR
      refine br_f (nI_ge (by omega) (by omega)) (nm_r (show nI m - 1 = nI (m - 1) from pk_sub (b := 1) (by omega)) ?_)
      have inner : ∀ t, i + t + 1 ≤ m → ∀ L, ag_I S L m → (∀ a b, a < i → a < b → b < m → ag_R o (L a) (L b)) → (∀ b, i + t < b → b < m → ag_R o (L (i + t)) (L b)) →
          wY_arrange_17 post (wY_arrange_2 post o (nI m) (d + 1)) o (nI i) (nI m) (t + 1) (nI (i + t)) sp lf L := by
        intro t
        induction t with
        | zero =>
          intro ht L hL hR hT
          refine br_t (nI_le (by omega) (by omega)) (nm_r (nI_1 i) (ih (i + 1) (by omega) L hL fun a b ha hab hb => ?_))
          by_cases ea : a = i
          · rw [ea]; exact hT b (by omega) hb
          · exact hR a b (by omega) hab hb
        | succ t iht =>
          intro ht L hL hR hT
          have ma := mem hL (i + t) (by omega)
          have mb := mem hL (i + t + 1) (by omega)
          have ne := hL.2 (i + t) (i + t + 1) (by omega) (by omega)
          have Bd := gm_trB (hS _ hm.1) (hS _ ma.1) (hS _ mb.1)
          have e1 := i3_ge0 (i := gm_tr o (L (i + t)) (L (i + t + 1))) (by omega)
          have v0 : vp_in (nI (i + t)) 24 := vp_in_nI (by omega) (by omega)
          have v1 : vp_in (nI (i + t + 1)) 24 := vp_in_nI (by omega) (by omega)
          have keep : ag_R o (L (i + t)) (L (i + t + 1)) → wY_arrange_68 post (wY_arrange_2 post o (nI m) (d + 1)) (wY_arrange_17 post (wY_arrange_2 post o (nI m) (d + 1)) o (nI i) (nI m) (t + 1)) o (nI i) (nI (i + t + 1)) (L (i + t)) (L (i + t + 1)) (nI m) sp lf L := by
            intro hk
            refine br_t rfl ?_
            unfold wY_arrange_90
            rw [nI_pred]
            refine ⟨v0, nm_e (br_t rfl ⟨v1, nm_e (nm_r (pk_m1 (i + t)) ?_)⟩)⟩
            rw [nI_clamp (n := i + t) (by omega), nI_clamp (n := i + t + 1) (by omega)]
            have eL : upd (upd L (i + t) (L (i + t))) (i + t + 1) (L (i + t + 1)) = L := by
              funext z
              unfold upd
              by_cases c : z = i + t + 1
              · rw [if_pos c, c]
              · rw [if_neg c]
                by_cases c' : z = i + t
                · rw [if_pos c', c']
                · rw [if_neg c']
            rw [eL]
            refine iht (by omega) L hL hR fun b hb hbm => ?_
            by_cases eb : b = i + t + 1
            · rw [eb]; exact hk
            · exact ag_tr hm ma.1 mb.1 (mem hL b hbm).1 hk (hT b (by omega) hbm)
          have swap : ag_R o (L (i + t + 1)) (L (i + t)) → wY_arrange_64 post (wY_arrange_2 post o (nI m) (d + 1)) (wY_arrange_17 post (wY_arrange_2 post o (nI m) (d + 1)) o (nI i) (nI m) (t + 1)) o (nI i) (nI (i + t + 1)) (L (i + t)) (L (i + t + 1)) (nI m) sp lf L := by
            intro hk
            refine br_f (by decide) ?_
            unfold wY_arrange_90
            rw [nI_pred]
            refine ⟨v0, nm_e (br_f (by decide) ⟨v1, nm_e (nm_r (pk_m1 (i + t)) ?_)⟩)⟩
            rw [nI_clamp (n := i + t) (by omega), nI_clamp (n := i + t + 1) (by omega)]
            have e0 : upd (upd L (i + t) (L (i + t + 1))) (i + t + 1) (L (i + t)) (i + t) = L (i + t + 1) := by rw [pk_un (by omega), pk_us]
            have e1 : upd (upd L (i + t) (L (i + t + 1))) (i + t + 1) (L (i + t)) (i + t + 1) = L (i + t) := pk_us
            have e2 : ∀ k, k ≠ i + t → k ≠ i + t + 1 → upd (upd L (i + t) (L (i + t + 1))) (i + t + 1) (L (i + t)) k = L k := fun k h1 h2 => by rw [pk_un h2, pk_un h1]
            refine iht (by omega) _ (ag_swap hL (by omega)) (fun a b ha hab hbm => ?_) (fun b hb hbm => ?_)
            · rw [e2 a (by omega) (by omega)]
              by_cases b1 : b = i + t
              · rw [b1, e0]; exact hR a _ ha (by omega) (by omega)
              by_cases b2 : b = i + t + 1
              · rw [b2, e1]; exact hR a _ ha (by omega) (by omega)
              rw [e2 b b1 b2]; exact hR a b ha hab hbm
            · rw [e0]
              by_cases b2 : b = i + t + 1
              · rw [b2, e1]; exact hk
              · rw [e2 b (by omega) b2]; exact hT b (by omega) hbm
          refine br_f (nI_ge (by omega) (by omega)) ?_
          rw [show i + (t + 1) = i + t + 1 by omega, nI_pred]
          refine ⟨v0, nm_e ⟨v1, nm_e ?_⟩⟩
          rw [nI_clamp (n := i + t) (by omega), nI_clamp (n := i + t + 1) (by omega)]
          refine ⟨fun eb => swap (Or.inl ⟨eb, fun ea => ne (ea.trans eb.symm)⟩), fun eb => ⟨fun ea => keep (Or.inl ⟨ea, eb⟩), fun ea => wy_turn (hS _ hm.1) (hS _ ma.1) (hS _ mb.1) ⟨fun hg => keep ?_, fun hg => swap ?_⟩⟩⟩
          · have nz := ag_nz hS hm ma.1 mb.1 ma.2 mb.2 ea eb ne
            have := e1.mp hg
            exact Or.inr ⟨ea, eb, by omega⟩
          · have := mt e1.mpr hg
            refine Or.inr ⟨eb, ea, ?_⟩
            rw [gm_swp]
            omega
      have q := inner (m - 1 - i) (by omega) L hL hR (fun b h1 h2 => by omega)
      rw [show i + (m - 1 - i) = m - 1 by omega] at q
      exact ⟨_, q⟩
  exact ⟨_, key m 0 (by omega) li h (fun a b ha _ _ => by omega)⟩
theorem wy_lt {a b : Int32} (ha : gm_P a) (hb : gm_P b) : (a - a / 64 * 64 < b - b / 64 * 64 ↔ gm_x a < gm_x b) ∧ (a - a / 64 * 64 = b - b / 64 * 64 ↔ gm_x a = gm_x b) ∧ (b ≤ a ↔ b.toInt ≤ a.toInt) := by
  rw [wy_rem ha, wy_rem hb]
  exact ⟨Int32.lt_iff_toInt_lt, Int32.toInt_inj.symm, Int32.le_iff_toInt_le⟩
theorem wy_find {post : SY → Prop} {fm : Int32} {sp lf li : Nat → Int32} {x : Int32} {a0 : Nat → Int32} (h : yc_R x a0 sp lf)
    (hp : ∀ m L, m ≤ 24 → gm_ref (pl_S x a0 24) L m → post (nI m, sp, lf, L)) : wpY_findCorners post (fm, sp, lf, li) := by
  have hS := yc_S h
  have bz : ∀ {j}, j < 24 → ¬ lf j = 0 → bt x j = true := by
    intro j hj c
    have := mt (yc_0 h hj).mpr c
    simpa using this
  have k2 : ∀ o, ((∀ j, j < 24 → bt x j = false) ∨ gm_mn (pl_S x a0 24) o) → ∀ d i, i + d = 24 → ∀ L m, m ≤ i → (∀ k, k < m → ∃ j, j < i ∧ bt x j = true ∧ L k = a0 j ∧ gm_E (pl_S x a0 24) (a0 j)) →
      (∀ j, j < i → bt x j = true → gm_E (pl_S x a0 24) (a0 j) → ∃ k, k < m ∧ L k = a0 j) → (∀ a b, a < b → b < m → L a ≠ L b) →
      wY_findCorners_90 post o (d + 1) (nI i) (nI m) sp lf L := by
    intro o ho d
    induction d with
    | zero =>
      intro i hi L m hm c1 c2 c3
      have e24 : i = 24 := by omega
      subst e24
      refine br_t (nI_le (a := 24) (by omega) (by omega)) (wy_arrange hS (S := pl_S x a0 24) hm (fun m0 => ?_) ⟨fun p => ?_, c3⟩ (fun M hM => hp m M hm hM))
      · rcases ho with ho | ho
        · obtain ⟨j, hj, hb, _⟩ := c1 0 m0
          rw [ho j hj] at hb
          exact absurd hb (by decide)
        · exact ho
      · constructor
        · rintro ⟨⟨j, hj, hb, rfl⟩, hE⟩
          exact c2 j hj hb hE
        · rintro ⟨k, hk, e⟩
          obtain ⟨j, hj, hb, e', hE⟩ := c1 k hk
          have q : a0 j = p := e'.symm.trans e
          exact ⟨⟨j, hj, hb, q⟩, q ▸ hE⟩
    | succ d ih =>
      intro i hi L m hm c1 c2 c3
      have vin : vp_in (nI i) 24 := vp_in_nI (by omega) (by omega)
      refine br_f (nI_ge (b := 24) (by omega) (by omega)) ?_
      have no : (bt x i = true → gm_E (pl_S x a0 24) (a0 i) → ∃ k, k < m ∧ L k = a0 i) → ∀ y : Int32, y = nI i + 1 → wY_findCorners_90 post o (d + 1) y (nI m) sp lf L := by
        intro hno
        refine nm_r (nI_1 i) (ih (i + 1) (by omega) L m (by omega) (fun k hk => ?_) (fun j hj hb hE => ?_) c3)
        · obtain ⟨j, hj, q⟩ := c1 k hk
          exact ⟨j, by omega, q⟩
        · by_cases ej : j = i
          · rw [ej] at hb hE ⊢; exact hno hb hE
          · exact c2 j (by omega) hb hE
      by_cases hb : bt x i = true
      · refine wy_corn h (by omega) hb (fun hq => br_f (by decide) ⟨vin, vp_in_nI (by omega) (by omega), nm_e (nm_r (nI_1 m) (nm_r (nI_1 i) ?_))⟩) (fun hq => br_t rfl (no fun _ hE => ?_))
        · rw [nI_clamp (n := i) (by omega), nI_clamp (n := m) (by omega), yc_1 h (by omega) hb]
          refine ih (i + 1) (by omega) _ (m + 1) (by omega) (fun k hk => ?_) (fun j hj hbj hEj => ?_) (fun a b hab hbm => ?_)
          · by_cases ek : k = m
            · exact ⟨i, by omega, hb, by rw [ek, pk_us], hq.1⟩
            · obtain ⟨j, hj, q1, q2, q3⟩ := c1 k (by omega)
              exact ⟨j, by omega, q1, by rw [pk_un ek, q2], q3⟩
          · by_cases ej : j = i
            · exact ⟨m, by omega, by rw [pk_us, ej]⟩
            · obtain ⟨k, hk, e⟩ := c2 j (by omega) hbj hEj
              exact ⟨k, by omega, by rw [pk_un (by omega), e]⟩
          · by_cases eb : b = m
            · rw [eb, pk_us, pk_un (by omega)]
              obtain ⟨j, hj, q1, q2, q3⟩ := c1 a (by omega)
              rw [q2]; exact hq.2 j hj q1
            · rw [pk_un eb, pk_un (by omega)]; exact c3 a b hab (by omega)
        · have : ∃ j, j < i ∧ bt x j = true ∧ a0 j = a0 i := by
            apply Classical.byContradiction
            intro hn
            exact hq ⟨hE, fun j hj hbj e => hn ⟨j, hj, hbj, e⟩⟩
          obtain ⟨j, hj, hbj, e⟩ := this
          obtain ⟨k, hk, e'⟩ := c2 j hj hbj (e ▸ hE)
          exact ⟨k, hk, e'.trans e⟩
      · have hb' : bt x i = false := by simpa using hb
        exact wy_cornA (by omega) ((yc_0 h (by omega)).mpr hb') (br_t rfl (no fun q => absurd q hb))
  have k1 : ∀ d i, i + d = 24 → ∀ o : Int32, ((o = -1 ∧ ∀ j, j < i → bt x j = false) ∨ (∃ j, j < i ∧ bt x j = true ∧ o = a0 j ∧ ∀ j', j' < i → bt x j' = true → gm_la o ≤ gm_la (a0 j'))) → wY_findCorners_9 post 0 sp lf li (d + 1) o (nI i) := by
    intro d
    induction d with
    | zero =>
      intro i hi o ho
      have e24 : i = 24 := by omega
      subst e24
      refine br_t (nI_le (a := 24) (by omega) (by omega)) ⟨_, k2 o ?_ 24 0 (by omega) li 0 (by omega) (fun k hk => by omega) (fun j hj => by omega) (fun a b _ hb => by omega)⟩
      rcases ho with ⟨_, ho⟩ | ⟨j, hj, hb, e, hl⟩
      · exact Or.inl ho
      · refine Or.inr ⟨⟨j, hj, hb, e.symm⟩, ?_⟩
        rintro r ⟨j', hj', hb', rfl⟩ hn
        have q := hl j' hj' hb'
        have q' : gm_la o ≠ gm_la (a0 j') := fun z => hn (gm_laext (h.1 j' hj') (e ▸ h.1 j hj) z.symm)
        omega
    | succ d ih =>
      intro i hi o ho
      have vin : vp_in (nI i) 24 := vp_in_nI (by omega) (by omega)
      refine br_f (nI_ge (b := 24) (by omega) (by omega)) ⟨vin, nm_e ⟨vin, ?_⟩⟩
      rw [nI_clamp (by omega)]
      refine ⟨fun c => br_t rfl (nm_r (nI_1 i) (ih (i + 1) (by omega) o ?_)), fun c => ?_⟩
      · have hb := (yc_0 h (by omega)).mp c
        rcases ho with ⟨e, ho⟩ | ⟨j, hj, hbj, e, hl⟩
        · refine Or.inl ⟨e, fun j hj => ?_⟩
          by_cases ej : j = i
          · rw [ej]; exact hb
          · exact ho j (by omega)
        · refine Or.inr ⟨j, by omega, hbj, e, fun j' hj' hb' => ?_⟩
          by_cases ej : j' = i
          · rw [ej, hb] at hb'; exact absurd hb' (by decide)
          · exact hl j' (by omega) hb'
      have hb := bz (j := i) (by omega) c
      have hPi := h.1 i (by omega)
      rw [yc_1 h (by omega) hb]
      have take : (∀ j', j' < i → bt x j' = true → gm_la (a0 i) ≤ gm_la (a0 j')) → wY_findCorners_64 post (wY_findCorners_9 post 0 sp lf li (d + 1)) o (nI i) (a0 i) 0 sp lf li := by
        intro hl
        refine br_f (by decide) (nm_r (nI_1 i) (ih (i + 1) (by omega) (a0 i) (Or.inr ⟨i, by omega, hb, rfl, fun j' hj' hb' => ?_⟩)))
        by_cases ej : j' = i
        · rw [ej]; exact Int.le_refl _
        · exact hl j' (by omega) hb'
      rcases ho with ⟨e, ho⟩ | ⟨j, hj, hbj, e, hl⟩
      · rw [e]
        rw [e] at take
        refine br_t (by decide) (take fun j' hj' hb' => ?_)
        rw [ho j' hj'] at hb'; exact absurd hb' (by decide)
      · have hPo : gm_P o := e ▸ h.1 j (by omega)
        have keep : gm_la o ≤ gm_la (a0 i) → wY_findCorners_68 post (wY_findCorners_9 post 0 sp lf li (d + 1)) o (nI i) (a0 i) 0 sp lf li := by
          intro hle
          refine br_t rfl (nm_r (nI_1 i) (ih (i + 1) (by omega) o (Or.inr ⟨j, by omega, hbj, e, fun j' hj' hb' => ?_⟩)))
          by_cases ej : j' = i
          · rw [ej]; exact hle
          · exact hl j' (by omega) hb'
        have take' : gm_la (a0 i) ≤ gm_la o → wY_findCorners_64 post (wY_findCorners_9 post 0 sp lf li (d + 1)) o (nI i) (a0 i) 0 sp lf li := by
          intro hle
          exact take fun j' hj' hb' => Int.le_trans hle (hl j' hj' hb')
        obtain ⟨q1, q2, q3⟩ := wy_lt hPi hPo
        have ci := gm_co hPi
        have co := gm_co hPo
        unfold gm_la at keep take'
        have o0 : ¬ o < 0 := fun z => by
          have := Int32.lt_iff_toInt_lt.mp z
          have z0 : (0 : Int32).toInt = 0 := rfl
          have := hPo.1
          omega
        refine br_f o0 ⟨wy_64, wy_64, fun l => take' ?_, fun l => ⟨wy_64, wy_64, fun l2 => ⟨fun l3 => keep ?_, fun l3 => take' ?_⟩, fun l2 => keep ?_⟩⟩
        · have := q1.mp l; omega
        · have := q2.mp l2; have := q3.mp l3; omega
        · have := q2.mp l2; have := mt q3.mpr l3; omega
        · have := mt q1.mpr l; have := mt q2.mpr l2; omega
  exact ⟨_, k1 24 0 (by omega) (-1) (Or.inl ⟨rfl, fun j hj => by omega⟩)⟩
/-- the relation of the two states: X's bits and places against Y's spots -/
def rl_R (fp : Int32) (a0 sp : Nat → Int32) : Prop := (∀ k, k < 24 → gm_P (a0 k)) ∧ (∀ i, 24 ≤ i → i < 32 → bt fp i = false) ∧ (∀ k, k < 24 → sp k = if bt fp k = true then a0 k + 1 else 0)
theorem rl_n0 {p : Int32} (h : gm_P p) : p + 1 ≠ 0 := by
  obtain ⟨j, hj, rfl⟩ := gm_Pn h
  rw [nI_1]
  exact nI_ne0 (by omega) (by omega)
theorem rl_0 {fp : Int32} {a0 sp : Nat → Int32} (h : rl_R fp a0 sp) {k : Nat} (hk : k < 24) : sp k = 0 ↔ bt fp k = false := by
  rw [h.2.2 k hk]
  by_cases c : bt fp k = true
  · rw [if_pos c, c]
    exact ⟨fun z => absurd z (rl_n0 (h.1 k hk)), fun z => absurd z (by decide)⟩
  · rw [if_neg c]; simp [c]
theorem wy_is {post : Int32 → Prop} {fm fp : Int32} {a0 sp lf li : Nat → Int32} (h : rl_R fp a0 sp) {k : Nat} (hk : k < 24) (h1 : bt fp k = true → post 1) (h0 : bt fp k = false → post 0) : wpY_is post (fm, sp, lf, li) (nI k) := by
  refine br_f (nI_pos (by omega)) (br_f (nI_ge (b := 24) hk (by omega)) ⟨vp_in_nI hk (by omega), ?_⟩)
  rw [nI_clamp (by omega)]
  have e := rl_0 h hk
  exact ⟨fun z => h0 (e.mp z), fun z => h1 (by have := mt e.mpr z; simpa using this)⟩
theorem wy_look {post : SY → Prop} {fm fp : Int32} {a0 sp lf li : Nat → Int32} (h : rl_R fp a0 sp)
    (hp : ∀ m L lf', m ≤ 24 → yc_R fp a0 sp lf' → gm_ref (pl_S fp a0 24) L m → post (nI m, sp, lf', L)) : wpY_look post (fm, sp, lf, li) := by
  have key : ∀ d i, i + d = 24 → ∀ lf', (∀ k, k < i → lf' k = if bt fp k = true then 1 else 0) → wY_look_2 post fm (d + 1) (nI i) sp lf' li := by
    intro d
    induction d with
    | zero =>
      intro i hi lf' hl
      have e24 : i = 24 := by omega
      subst e24
      have hc : yc_R fp a0 sp lf' := ⟨h.1, hl, fun k hk hb => by rw [h.2.2 k hk, if_pos hb]⟩
      exact br_t (nI_le (a := 24) (by omega) (by omega)) (wy_find hc fun m L hm hr => hp m L lf' hm hc hr)
    | succ d ih =>
      intro i hi lf' hl
      have vin : vp_in (nI i) 24 := vp_in_nI (by omega) (by omega)
      refine br_f (nI_ge (b := 24) (by omega) (by omega)) (wy_is h (by omega) (fun hb => ⟨vin, nm_e (nm_r (nI_1 i) (ih (i + 1) (by omega) _ fun k hk => ?_))⟩) (fun hb => ⟨vin, nm_e (nm_r (nI_1 i) (ih (i + 1) (by omega) _ fun k hk => ?_))⟩))
      · rw [nI_clamp (by omega), yc_vn.2]
        by_cases ek : k = i
        · rw [ek, pk_us, if_pos hb]
        · rw [pk_un ek]; exact hl k (by omega)
      · rw [nI_clamp (by omega), yc_vn.1]
        by_cases ek : k = i
        · rw [ek, pk_us, if_neg (by rw [hb]; decide)]
        · rw [pk_un ek]; exact hl k (by omega)
  exact ⟨_, key 24 0 (by omega) lf (fun k hk => by omega)⟩
