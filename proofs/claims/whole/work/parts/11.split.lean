def sl_f (i n : Nat) : Nat := if i + 1 < n then i + 1 else 0
/-- corners found so far, by direction from the first -/
def sl_I (S : Int32 → Prop) (L : Nat → Int32) (n : Nat) : Prop := 2 ≤ n ∧ gm_mn S (L 0) ∧ (∀ i, i < n → S (L i) ∧ gm_E S (L i)) ∧ (∀ i, 0 < i → i < n → L i ≠ L 0) ∧ (∀ i j, 0 < i → i < j → j < n → 0 < gm_tr (L 0) (L i) (L j))
def sl_C (S : Int32 → Prop) (L : Nat → Int32) (n s : Nat) : Prop := ∀ i, i < s → ∀ r, S r → 0 ≤ gm_tr (L i) (L (sl_f i n)) r
theorem sl_inj {S : Int32 → Prop} {L : Nat → Int32} {n : Nat} (h : sl_I S L n) {i j : Nat} (hij : i < j) (hj : j < n) : L i ≠ L j := by
  cases i with
  | zero => exact fun e => h.2.2.2.1 j hij hj e.symm
  | succ i =>
    intro e
    have := h.2.2.2.2 (i + 1) j (by omega) hij hj
    rw [e, gm_prr] at this
    omega
theorem sl_ph (f t p r : Int32) : gm_ph (4096 * (-(gm_y t - gm_y f)) + 64) (4096 * (gm_x t - gm_x f) + 1) p r = 4096 * (gm_tr f t r - gm_tr f t p) + (gm_la r - gm_la p) := by
  unfold gm_ph gm_tr gm_la; grind
theorem sl_E {S : Int32 → Prop} (hS : ∀ r, S r → gm_P r) {f t p : Int32} (hp : S p) (h : ∀ r, S r → gm_tr f t p < gm_tr f t r ∨ (gm_tr f t p = gm_tr f t r ∧ (r = p ∨ gm_la p < gm_la r))) : gm_E S p := by
  refine ⟨4096 * (-(gm_y t - gm_y f)) + 64, 4096 * (gm_x t - gm_x f) + 1, fun r hr hn => ?_⟩
  rw [sl_ph]
  have a := gm_laB (hS r hr)
  have b := gm_laB (hS p hp)
  rcases h r hr with c | ⟨c, d | d⟩
  · omega
  · exact absurd d hn
  · omega
theorem sl_ins {S : Int32 → Prop} {L : Nat → Int32} {n s : Nat} {p : Int32} (h : sl_I S L n) (hs : s < n) (hp : S p) (hE : gm_E S p) (ht : gm_tr (L s) (L (sl_f s n)) p < 0) : sl_I S (ar_ins L n (s + 1) p) (n + 1) := by
  obtain ⟨h2, hm, hC, hne, hso⟩ := h
  have e1 : ∀ k, k < s + 1 → ar_ins L n (s + 1) p k = L k := fun k hk => by unfold ar_ins; rw [if_pos hk]
  have e2 : ar_ins L n (s + 1) p (s + 1) = p := by unfold ar_ins; rw [if_neg (by omega), if_pos rfl]
  have e3 : ∀ k, s + 1 ≤ k → k < n → ar_ins L n (s + 1) p (k + 1) = L k := fun k hk hN => by unfold ar_ins; rw [if_neg (by omega), if_neg (by omega), if_pos (by omega)]; rfl
  have hla : ∀ k, 0 < k → k < n → gm_la (L 0) < gm_la (L k) := fun k h0 hk => hm.2 _ (hC k hk).1 (hne k h0 hk)
  have o1 : 0 ≤ gm_tr (L s) (L (sl_f s n)) (L 0) := by
    unfold sl_f
    by_cases c : s + 1 < n
    · rw [if_pos c]
      by_cases d : s = 0
      · rw [d, gm_prp]; exact Int.le_refl 0
      · rw [gm_rot (L 0)]; exact Int.le_of_lt (hso s (s + 1) (by omega) (by omega) c)
    · rw [if_neg c, gm_prr]; exact Int.le_refl 0
  have pne : p ≠ L 0 := by
    intro e
    rw [e] at ht
    omega
  have pla : gm_la (L 0) < gm_la p := hm.2 p hp pne
  have pfr : L s ≠ p := by
    intro e
    rw [← e, gm_prp] at ht
    omega
  have pto : L (sl_f s n) ≠ p := by
    intro e
    rw [← e, gm_prr] at ht
    omega
  have lo1 : 0 < s → 0 < gm_tr (L 0) (L s) p := by
    intro s0
    unfold sl_f at ht pto
    by_cases c : s + 1 < n
    · rw [if_pos c] at ht pto
      have q := hso s (s + 1) s0 (by omega) c
      apply Classical.byContradiction
      intro hn
      have i1 : gm_tr p (L (s + 1)) (L s) = - gm_tr (L s) (L (s + 1)) p := by unfold gm_tr; grind
      have i2 : gm_tr (L (s + 1)) (L 0) (L s) = gm_tr (L 0) (L s) (L (s + 1)) := by unfold gm_tr; grind
      have i3 : gm_tr (L 0) p (L s) = - gm_tr (L 0) (L s) p := gm_swp _ _ _
      have i4 : gm_tr (L 0) p (L (s + 1)) = gm_tr p (L (s + 1)) (L s) + gm_tr (L (s + 1)) (L 0) (L s) + gm_tr (L 0) p (L s) := by unfold gm_tr; grind
      exact gm_Etri (hC s hs).2 hm.1 hp (hC (s + 1) c).1 (fun e => hne s s0 hs e.symm) pfr.symm (fun e => by rw [e, gm_prr] at q; omega) (by omega) (by omega) (by omega) (by omega)
    · rw [if_neg c, gm_swq (L 0)] at ht
      omega
  have hi1 : s + 1 < n → 0 < gm_tr (L 0) p (L (s + 1)) := by
    intro c
    unfold sl_f at ht pto
    rw [if_pos c] at ht pto
    by_cases s0 : s = 0
    · rw [s0] at ht ⊢
      rw [gm_swp] at ht
      omega
    · have q := hso s (s + 1) (by omega) (by omega) c
      apply Classical.byContradiction
      intro hn
      have i1 : gm_tr (L s) p (L (s + 1)) = - gm_tr (L s) (L (s + 1)) p := gm_swp _ _ _
      have i2 : gm_tr p (L 0) (L (s + 1)) = - gm_tr (L 0) p (L (s + 1)) := gm_swq _ _ _
      have i4 : gm_tr (L 0) (L s) p = gm_tr (L s) p (L (s + 1)) + gm_tr p (L 0) (L (s + 1)) + gm_tr (L 0) (L s) (L (s + 1)) := by unfold gm_tr; grind
      exact gm_Etri (hC (s + 1) c).2 hm.1 (hC s hs).1 hp (fun e => hne (s + 1) (by omega) c e.symm) (fun e => by rw [e, gm_prr] at q; omega) pto.symm (by omega) (by omega) (by omega) (by omega)
  have lo : ∀ i, 0 < i → i ≤ s → 0 < gm_tr (L 0) (L i) p := by
    intro i h0 hi
    by_cases c : i = s
    · rw [c]; exact lo1 (by omega)
    · exact gm_srt (hla i h0 (by omega)) (hla s (by omega) hs) pla (hso i s h0 (by omega) hs) (lo1 (by omega))
  have hi : ∀ j, s + 1 ≤ j → j < n → 0 < gm_tr (L 0) p (L j) := by
    intro j hj hn
    by_cases c : j = s + 1
    · rw [c]; exact hi1 (by omega)
    · exact gm_srt pla (hla (s + 1) (by omega) (by omega)) (hla j (by omega) hn) (hi1 (by omega)) (hso (s + 1) j (by omega) (by omega) hn)
  have z : ar_ins L n (s + 1) p 0 = L 0 := e1 0 (by omega)
  refine ⟨by omega, z.symm ▸ hm, fun i hi => ?_, fun i h0 hi => ?_, fun i j h0 hij hj => ?_⟩
  · rcases Nat.lt_trichotomy i (s + 1) with c | c | c
    · rw [e1 i c]; exact hC i (by omega)
    · rw [c, e2]; exact ⟨hp, hE⟩
    · obtain ⟨i, rfl⟩ : ∃ z, i = z + 1 := ⟨i - 1, by omega⟩
      rw [e3 i (by omega) (by omega)]; exact hC i (by omega)
  · rw [z]
    rcases Nat.lt_trichotomy i (s + 1) with c | c | c
    · rw [e1 i c]; exact hne i h0 (by omega)
    · rw [c, e2]; exact pne
    · obtain ⟨i, rfl⟩ : ∃ z, i = z + 1 := ⟨i - 1, by omega⟩
      rw [e3 i (by omega) (by omega)]; exact hne i (by omega) (by omega)
  · rw [z]
    rcases Nat.lt_trichotomy i (s + 1) with c | c | c
    · rw [e1 i c]
      rcases Nat.lt_trichotomy j (s + 1) with d | d | d
      · rw [e1 j d]; exact hso i j h0 hij (by omega)
      · rw [d, e2]; exact lo i h0 (by omega)
      · obtain ⟨j, rfl⟩ : ∃ z, j = z + 1 := ⟨j - 1, by omega⟩
        rw [e3 j (by omega) (by omega)]; exact hso i j h0 (by omega) (by omega)
    · obtain ⟨j, rfl⟩ : ∃ z, j = z + 1 := ⟨j - 1, by omega⟩
      rw [c, e2, e3 j (by omega) (by omega)]; exact hi j (by omega) (by omega)
    · obtain ⟨j, rfl⟩ : ∃ z, j = z + 1 := ⟨j - 1, by omega⟩
      obtain ⟨i, rfl⟩ : ∃ z, i = z + 1 := ⟨i - 1, by omega⟩
      rw [e3 i (by omega) (by omega), e3 j (by omega) (by omega)]; exact hso i j (by omega) (by omega) (by omega)
theorem sl_insC {S : Int32 → Prop} {L : Nat → Int32} {n s : Nat} {p : Int32} (hs : s < n) (h : sl_C S L n s) : sl_C S (ar_ins L n (s + 1) p) (n + 1) s := by
  intro i hi r hr
  have e1 : ∀ k, k < s + 1 → ar_ins L n (s + 1) p k = L k := fun k hk => by unfold ar_ins; rw [if_pos hk]
  have := h i hi r hr
  unfold sl_f at this ⊢
  rw [if_pos (by omega)] at this ⊢
  rw [e1 i (by omega), e1 (i + 1) (by omega)]
  exact this
theorem gm_betw (u v r : Int32) (h : gm_tr u v r = 0) : gm_dt r u v * gm_sq u v = - (gm_dt u r v * gm_dt v u r) := by
  unfold gm_tr at h; unfold gm_dt gm_sq; grind
/-- between two outermost points nothing lies beyond them -/
theorem gm_EN {S : Int32 → Prop} {u v r : Int32} (hu : S u) (hv : S v) (hr : S r) (Eu : gm_E S u) (Ev : gm_E S v) (ne : u ≠ v) (h : 0 ≤ gm_tr u v r) : gm_N u v r := by
  refine ⟨h, fun z => ?_⟩
  by_cases c : r = u
  · rw [c]; unfold gm_dt; grind
  by_cases d : r = v
  · rw [d]; unfold gm_dt; grind
  have a := gm_Eseg Eu hr hv c (fun e => ne e.symm) (by rw [gm_swp]; omega)
  have b := gm_Eseg Ev hu hr ne d (by rw [gm_swq]; omega)
  have e := gm_betw u v r z
  have m := Int.mul_pos a b
  have sq : 0 ≤ gm_sq u v := by
    rcases Int.lt_or_le (gm_sq u v) 0 with h | h
    · have := gm_sqz (a := gm_x u - gm_x v) (b := gm_y u - gm_y v) (by unfold gm_sq at h; omega)
      unfold gm_sq at h
      rw [this.1, this.2] at h
      omega
    · exact h
  by_cases s0 : gm_sq u v = 0
  · rw [s0, Int.mul_zero] at e
    omega
  · exact gm_np (b := gm_sq u v) (by omega) (by omega)
theorem sl_cyc {S : Int32 → Prop} {L : Nat → Int32} {n : Nat} (h : sl_I S L n) (hC : sl_C S L n n) : gm_cyc S L n := by
  have hi := fun i j (hij : i < j) (hj : j < n) => sl_inj h hij hj
  obtain ⟨h2, hm, hE, hne, hso⟩ := h
  refine ⟨by omega, hm, fun i hi' => ⟨⟨(hE _ hi').1, fun r hr => ?_⟩, hne _ (by omega) hi'⟩, ⟨hm.1, fun r hr => ?_⟩⟩
  · have q := hC i (by omega) r hr
    unfold sl_f at q
    rw [if_pos hi'] at q
    exact gm_EN (hE i (by omega)).1 (hE _ hi').1 hr (hE i (by omega)).2 (hE _ hi').2 (hi i (i + 1) (by omega) hi') q
  · have q := hC (n - 1) (by omega) r hr
    unfold sl_f at q
    rw [if_neg (by omega)] at q
    exact gm_EN (hE (n - 1) (by omega)).1 hm.1 hr (hE (n - 1) (by omega)).2 (hE 0 (by omega)).2 (fun e => hi 0 (n - 1) (by omega) (by omega) e.symm) q
theorem wx_far {post : Int32 → Prop} {fp : Int32} {a0 a1 a2 a3 : Nat → Int32} {S : Int32 → Prop} {N : Nat} {f t : Int32} (hN : N ≤ 24) (hI : sp_I S a1 N) (hf : gm_P f) (ht : gm_P t)
    (hno : (∀ r, S r → 0 ≤ gm_tr f t r) → post (-1))
    (hyes : ∀ p, S p → gm_tr f t p < 0 → (∀ r, S r → gm_tr f t p < gm_tr f t r ∨ (gm_tr f t p = gm_tr f t r ∧ (r = p ∨ gm_la p < gm_la r))) → post p) : wpX_farthestOutside post (fp, nI N, a0, a1, a2, a3) f t := by
  have key : ∀ d i, i + d = N → ∀ x y, (x = -1 ∧ y = 0 ∧ (∀ j, j < i → 0 ≤ gm_tr f t (a1 j)) ∨ ∃ k, k < i ∧ x = a1 k ∧ y = gm_tr f t (a1 k) ∧ y < 0 ∧ ∀ j, j < i → y < gm_tr f t (a1 j) ∨ (y = gm_tr f t (a1 j) ∧ k ≤ j)) → wX_farthestOutside_8 post f t fp (nI N) a0 a1 a2 a3 (d + 1) x (Int32.ofInt y) (nI i) := by
    intro d
    induction d with
    | zero =>
      intro i hi x y hxy
      refine br_t (nI_le (by omega) (by omega)) ?_
      rcases hxy with ⟨rfl, rfl, h⟩ | ⟨k, hk, rfl, rfl, hy, h⟩
      · refine hno fun r hr => ?_
        obtain ⟨j, hj, e⟩ := (hI.2.2 r).mp hr
        rw [← e]; exact h j (by omega)
      · refine hyes _ ((hI.2.2 _).mpr ⟨k, by omega, rfl⟩) hy fun r hr => ?_
        obtain ⟨j, hj, e⟩ := (hI.2.2 r).mp hr
        rcases h j (by omega) with q | ⟨q, q'⟩
        · rw [← e]; exact Or.inl q
        · rw [← e]
          by_cases ej : k = j
          · exact Or.inr ⟨q, Or.inl (by rw [ej])⟩
          · exact Or.inr ⟨q, Or.inr (hI.2.1 k j (by omega) hj)⟩
    | succ d ih =>
      intro i hi x y hxy
      have Bi := gm_trB hf ht (hI.1 i (by omega))
      have By : -7938 ≤ y ∧ y ≤ 7938 := by
        rcases hxy with ⟨rfl, rfl, h⟩ | ⟨k, hk, rfl, rfl, hy, h⟩
        · omega
        · exact gm_trB hf ht (hI.1 k (by omega))
      have e1 := i3_le (i := y) (j := gm_tr f t (a1 i)) (by omega) (by omega)
      refine br_f (nI_ge (by omega) (by omega)) ⟨vp_in_nI (by omega) (by omega), wx_turn ?_⟩
      rw [nI_clamp (by omega)]
      refine ⟨fun hl => nm_r (nI_1 i) (ih (i + 1) (by omega) x y ?_), fun hl => ⟨vp_in_nI (by omega) (by omega), nm_e (nm_r (nI_1 i) (ih (i + 1) (by omega) (a1 i) (gm_tr f t (a1 i)) ?_))⟩⟩
      · have hl := e1.mp hl
        rcases hxy with ⟨rfl, rfl, h⟩ | ⟨k, hk, rfl, ey, hy, h⟩
        · refine Or.inl ⟨rfl, rfl, fun j hj => ?_⟩
          by_cases ej : j = i
          · rw [ej]; exact hl
          · exact h j (by omega)
        · refine Or.inr ⟨k, by omega, rfl, ey, hy, fun j hj => ?_⟩
          by_cases ej : j = i
          · rw [ej]; omega
          · exact h j (by omega)
      · have hl := mt e1.mpr hl
        refine Or.inr ⟨i, by omega, rfl, rfl, ?_, fun j hj => ?_⟩
        · rcases hxy with ⟨rfl, rfl, h⟩ | ⟨k, hk, rfl, ey, hy, h⟩ <;> omega
        · by_cases ej : j = i
          · rw [ej]; exact Or.inr ⟨rfl, Nat.le_refl i⟩
          · rcases hxy with ⟨rfl, rfl, h⟩ | ⟨k, hk, rfl, ey, hy, h⟩
            · have := h j (by omega); exact Or.inl (by omega)
            · have := h j (by omega); exact Or.inl (by omega)
  exact ⟨_, key N 0 (by omega) (-1) 0 (Or.inl ⟨rfl, rfl, fun j hj => by omega⟩)⟩
theorem wx_split_ring {post : Int32 → SX → Prop} {fp : Int32} {a0 a1 a2 a3 : Nat → Int32} {S : Int32 → Prop} {N : Nat} (hN : N ≤ 24) (h0 : 0 < N) (hI : sp_I S a1 N)
    (h : ∀ m L, m ≤ 24 → gm_cyc S L m → post (nI m) (fp, nI N, a0, a1, L, a3)) : wpX_split__ring post (fp, nI N, a0, a1, a2, a3) := by
  have hS := sp_P hI
  have mn := sp_mn hI h0
  refine nm_e (pk_eq N 1 (fun c => ?_) (fun c => ?_))
  · have e0 : upd a2 0 (a1 0) 0 = a1 0 := pk_us
    refine h 1 _ (by omega) ⟨by omega, e0.symm ▸ mn, fun i hi => by omega, ?_⟩
    show gm_nx S (upd a2 0 (a1 0) 0) (upd a2 0 (a1 0) 0)
    rw [e0]
    refine ⟨mn.1, fun r hr => ?_⟩
    obtain ⟨i, hi, e⟩ := (hI.2.2 r).mp hr
    rw [← e, show i = 0 by omega]
    exact gm_N1.mpr (gm_rc 1 _ _)
  have key : ∀ d n s, n + s + d = 2 * N + 1 → s ≤ n → ∀ L, sl_I S L n → sl_C S L n s → wX_split__ring_40 post d (nI n) (nI s) (nI (n - 2 + s)) fp (nI N) a0 a1 L a3 := by
    intro d
    induction d with
    | zero =>
      intro n s hd hs L hL hC
      exfalso
      have := sp_pig hI (L := L) (m := n) (fun j hj => (hL.2.2.1 j hj).1) (fun i j hij hj => sl_inj hL hij hj)
      omega
    | succ d ih =>
      intro n s hd hs L hL hC
      have n2 := hL.1
      have nN := sp_pig hI (L := L) (m := n) (fun j hj => (hL.2.2.1 j hj).1) (fun i j hij hj => sl_inj hL hij hj)
      refine br_f (nI_ge (b := 48) (by omega) (by omega)) (pk_le n s (fun c => ?_) (fun c => ?_))
      · have e : s = n := by omega
        rw [e] at hC
        exact h n L (by omega) (sl_cyc hL hC)
      · have fl : sl_f s n < n := by unfold sl_f; split <;> omega
        refine ⟨vp_in_nI (by omega) (by omega), nm_e (wx_following (by omega) (by omega) ?_)⟩
        rw [show (if s + 1 < n then s + 1 else 0) = sl_f s n from rfl]
        refine ⟨vp_in_nI (by omega) (by omega), nm_e ?_⟩
        rw [nI_clamp (by omega), nI_clamp (by omega)]
        have hPf := hS _ (hL.2.2.1 s (by omega)).1
        have hPt := hS _ (hL.2.2.1 (sl_f s n) fl).1
        refine wx_far hN hI hPf hPt (fun hno => br_t rfl (nm_r (nI_1 s) (nm_r (nI_1 _) ?_))) (fun p hp ht hmin => br_f ?_ ?_)
        · rw [show n - 2 + s + 1 = n - 2 + (s + 1) by omega]
          refine ih n (s + 1) (by omega) (by omega) L hL fun i hi r hr => ?_
          by_cases ei : i = s
          · rw [ei]; exact hno r hr
          · exact hC i (by omega) r hr
        · intro e
          have := hS p hp
          rw [e] at this
          exact absurd this.1 (by decide)
        · rw [nI_1 s]
          have hL' := sl_ins hL c hp (sl_E hS hp hmin) ht
          have nN' := sp_pig hI (L := ar_ins L n (s + 1) p) (m := n + 1) (fun j hj => (hL'.2.2.1 j hj).1) (fun i j hij hj => sl_inj hL' hij hj)
          refine wx_ins_ring (by omega) (by omega) (nm_r (nI_1 _) ?_)
          rw [show n - 2 + s + 1 = n + 1 - 2 + s by omega]
          exact ih (n + 1) s (by omega) (by omega) _ hL' (sl_insC c hC)
  have q1 : nI N - 1 = nI (N - 1) := pk_sub (b := 1) (by omega)
  rw [q1, nI_clamp (by omega)]
  refine ⟨vp_in_nI (by omega) (by omega), nm_e ⟨_, key (2 * N - 1) 2 0 (by omega) (by omega) _ ?_ (fun i hi => by omega)⟩⟩
  have z0 : upd (upd a2 0 (a1 0)) 1 (a1 (N - 1)) 0 = a1 0 := (pk_un (by omega)).trans pk_us
  have z1 : upd (upd a2 0 (a1 0)) 1 (a1 (N - 1)) 1 = a1 (N - 1) := pk_us
  have mE : gm_E S (a1 (N - 1)) := by
    refine ⟨-64, -1, fun r hr hn => ?_⟩
    obtain ⟨i, hi, e⟩ := (hI.2.2 r).mp hr
    have ne : i ≠ N - 1 := fun z => hn (by rw [← e, z])
    have := hI.2.1 i (N - 1) (by omega) (by omega)
    rw [← e]
    have e : gm_ph (-64) (-1) (a1 (N - 1)) (a1 i) = gm_la (a1 (N - 1)) - gm_la (a1 i) := by unfold gm_ph gm_la; grind
    omega
  refine ⟨by omega, z0.symm ▸ mn, fun i hi => ?_, fun i h1 hi => ?_, fun i j h1 h2 h3 => by omega⟩
  · by_cases ei : i = 0
    · rw [ei, z0]; exact ⟨mn.1, gm_mnE mn⟩
    · rw [show i = 1 by omega, z1]; exact ⟨(hI.2.2 _).mpr ⟨N - 1, by omega, rfl⟩, mE⟩
  · rw [show i = 1 by omega, z0, z1]
    intro e
    have := hI.2.1 0 (N - 1) (by omega) (by omega)
    rw [e] at this
    omega
theorem wx_split_otherRing {post : Int32 → SX → Prop} {fp : Int32} {a0 a1 a2 a3 : Nat → Int32} {S : Int32 → Prop} {N : Nat} (hN : N ≤ 24) (h0 : 0 < N) (hI : sp_I S a1 N)
    (h : ∀ m L, m ≤ 24 → gm_cyc S L m → post (nI m) (fp, nI N, a0, a1, a2, L)) : wpX_split__otherRing post (fp, nI N, a0, a1, a2, a3) := by
  have hS := sp_P hI
  have mn := sp_mn hI h0
  refine nm_e (pk_eq N 1 (fun c => ?_) (fun c => ?_))
  · have e0 : upd a3 0 (a1 0) 0 = a1 0 := pk_us
    refine h 1 _ (by omega) ⟨by omega, e0.symm ▸ mn, fun i hi => by omega, ?_⟩
    show gm_nx S (upd a3 0 (a1 0) 0) (upd a3 0 (a1 0) 0)
    rw [e0]
    refine ⟨mn.1, fun r hr => ?_⟩
    obtain ⟨i, hi, e⟩ := (hI.2.2 r).mp hr
    rw [← e, show i = 0 by omega]
    exact gm_N1.mpr (gm_rc 1 _ _)
  have key : ∀ d n s, n + s + d = 2 * N + 1 → s ≤ n → ∀ L, sl_I S L n → sl_C S L n s → wX_split__otherRing_40 post d (nI n) (nI s) (nI (n - 2 + s)) fp (nI N) a0 a1 a2 L := by
    intro d
    induction d with
    | zero =>
      intro n s hd hs L hL hC
      exfalso
      have := sp_pig hI (L := L) (m := n) (fun j hj => (hL.2.2.1 j hj).1) (fun i j hij hj => sl_inj hL hij hj)
      omega
    | succ d ih =>
      intro n s hd hs L hL hC
      have n2 := hL.1
      have nN := sp_pig hI (L := L) (m := n) (fun j hj => (hL.2.2.1 j hj).1) (fun i j hij hj => sl_inj hL hij hj)
      refine br_f (nI_ge (b := 48) (by omega) (by omega)) (pk_le n s (fun c => ?_) (fun c => ?_))
      · have e : s = n := by omega
        rw [e] at hC
        exact h n L (by omega) (sl_cyc hL hC)
      · have fl : sl_f s n < n := by unfold sl_f; split <;> omega
        refine ⟨vp_in_nI (by omega) (by omega), nm_e (wx_following (by omega) (by omega) ?_)⟩
        rw [show (if s + 1 < n then s + 1 else 0) = sl_f s n from rfl]
        refine ⟨vp_in_nI (by omega) (by omega), nm_e ?_⟩
        rw [nI_clamp (by omega), nI_clamp (by omega)]
        have hPf := hS _ (hL.2.2.1 s (by omega)).1
        have hPt := hS _ (hL.2.2.1 (sl_f s n) fl).1
        refine wx_far hN hI hPf hPt (fun hno => br_t rfl (nm_r (nI_1 s) (nm_r (nI_1 _) ?_))) (fun p hp ht hmin => br_f ?_ ?_)
        · rw [show n - 2 + s + 1 = n - 2 + (s + 1) by omega]
          refine ih n (s + 1) (by omega) (by omega) L hL fun i hi r hr => ?_
          by_cases ei : i = s
          · rw [ei]; exact hno r hr
          · exact hC i (by omega) r hr
        · intro e
          have := hS p hp
          rw [e] at this
          exact absurd this.1 (by decide)
        · rw [nI_1 s]
          have hL' := sl_ins hL c hp (sl_E hS hp hmin) ht
          have nN' := sp_pig hI (L := ar_ins L n (s + 1) p) (m := n + 1) (fun j hj => (hL'.2.2.1 j hj).1) (fun i j hij hj => sl_inj hL' hij hj)
          refine wx_ins_otherRing (by omega) (by omega) (nm_r (nI_1 _) ?_)
          rw [show n - 2 + s + 1 = n + 1 - 2 + s by omega]
          exact ih (n + 1) s (by omega) (by omega) _ hL' (sl_insC c hC)
  have q1 : nI N - 1 = nI (N - 1) := pk_sub (b := 1) (by omega)
  rw [q1, nI_clamp (by omega)]
  refine ⟨vp_in_nI (by omega) (by omega), nm_e ⟨_, key (2 * N - 1) 2 0 (by omega) (by omega) _ ?_ (fun i hi => by omega)⟩⟩
  have z0 : upd (upd a3 0 (a1 0)) 1 (a1 (N - 1)) 0 = a1 0 := (pk_un (by omega)).trans pk_us
  have z1 : upd (upd a3 0 (a1 0)) 1 (a1 (N - 1)) 1 = a1 (N - 1) := pk_us
  have mE : gm_E S (a1 (N - 1)) := by
    refine ⟨-64, -1, fun r hr hn => ?_⟩
    obtain ⟨i, hi, e⟩ := (hI.2.2 r).mp hr
    have ne : i ≠ N - 1 := fun z => hn (by rw [← e, z])
    have := hI.2.1 i (N - 1) (by omega) (by omega)
    rw [← e]
    have e : gm_ph (-64) (-1) (a1 (N - 1)) (a1 i) = gm_la (a1 (N - 1)) - gm_la (a1 i) := by unfold gm_ph gm_la; grind
    omega
  refine ⟨by omega, z0.symm ▸ mn, fun i hi => ?_, fun i h1 hi => ?_, fun i j h1 h2 h3 => by omega⟩
  · by_cases ei : i = 0
    · rw [ei, z0]; exact ⟨mn.1, gm_mnE mn⟩
    · rw [show i = 1 by omega, z1]; exact ⟨(hI.2.2 _).mpr ⟨N - 1, by omega, rfl⟩, mE⟩
  · rw [show i = 1 by omega, z0, z1]
    intro e
    have := hI.2.1 0 (N - 1) (by omega) (by omega)
    rw [e] at this
    omega
