theorem gr_nx {S : Int32 → Prop} {L : Nat → Int32} {n : Nat} (h : gm_cyc S L n) {i : Nat} (hi : i < n) : gm_nx S (L i) (L (sl_f i n)) := by
  unfold sl_f
  by_cases c : i + 1 < n
  · rw [if_pos c]; exact (h.2.2.1 i c).1
  · rw [if_neg c]
    have := h.2.2.2
    rw [show n - 1 = i by omega] at this
    exact this
theorem gr_pE {S : Int32 → Prop} {p : Int32} (hl : ∀ r, S r → gm_la r < gm_la p) : ∀ r, (S r ∨ r = p) → r ≠ p → 0 < gm_ph (-64) (-1) p r := by
  intro r hr hn
  have e : gm_ph (-64) (-1) p r = gm_la p - gm_la r := by unfold gm_ph gm_la; grind
  rcases hr with hr | hr
  · have := hl r hr; omega
  · exact absurd hr hn
theorem gr_ns {S : Int32 → Prop} {p u v : Int32} (hl : ∀ r, S r → gm_la r < gm_la p) (hu : S u) (hv : S v) (h : gm_tr u v p ≤ 0) : ¬ gm_N u v p := by
  intro hn
  have h1 := hn.1
  have h2 := hn.2 (by omega)
  have ne : ∀ r, S r → r ≠ p := fun r hr e => by have := hl r hr; rw [e] at this; omega
  have := gm_col (gr_pE hl u (Or.inl hu) (ne u hu)) (gr_pE hl v (Or.inl hv) (ne v hv)) (by rw [← gm_rot]; omega)
  omega
/-- a new last point: it takes the place of all between the first and the last side that it sees -/
theorem gr_step {S : Int32 → Prop} (hS : ∀ r, S r → gm_P r) {L M : Nat → Int32} {n f l : Nat} {p : Int32} (h : gm_cyc S L n) (hp : gm_P p) (hl : ∀ r, S r → gm_la r < gm_la p) (hfl : f ≤ l) (hln : l < n)
    (sf : gm_tr (L f) (L (sl_f f n)) p ≤ 0) (sl : gm_tr (L l) (L (sl_f l n)) p ≤ 0) (uf : ∀ i, i < f → 0 < gm_tr (L i) (L (sl_f i n)) p) (ul : ∀ i, l < i → i < n → 0 < gm_tr (L i) (L (sl_f i n)) p)
    (e1 : ∀ i, i ≤ f → M i = L i) (e2 : M (f + 1) = p) (e3 : ∀ i, l < i → i < n → M (i - l + f + 1) = L i) : gm_cyc (fun r => S r ∨ r = p) M (n - l + f + 1) := by
  have hS' : ∀ r, (S r ∨ r = p) → gm_P r := fun r hr => hr.elim (hS r) (fun e => e ▸ hp)
  have hs := fun i (hi : i < n) => gm_cS h hi
  have mn' : gm_mn (fun r => S r ∨ r = p) (L 0) := by
    refine ⟨Or.inl h.2.1.1, fun r hr hn => ?_⟩
    rcases hr with hr | hr
    · exact h.2.1.2 r hr hn
    · rw [hr]; exact hl _ h.2.1.1
  have p0 : p ≠ L 0 := fun e => by have := hl _ h.2.1.1; rw [e] at this; omega
  have fn : ∀ i, i < n → sl_f i n < n := fun i hi => by unfold sl_f; split <;> omega
  have A : ∀ i, i < n → 0 < gm_tr (L i) (L (sl_f i n)) p → gm_nx (fun r => S r ∨ r = p) (L i) (L (sl_f i n)) := by
    intro i hi ht
    have q := gr_nx h hi
    refine ⟨Or.inl q.1, fun r hr => ?_⟩
    rcases hr with hr | hr
    · exact q.2 r hr
    · rw [hr]; exact ⟨Int.le_of_lt ht, fun z => by omega⟩
  have sf1 : ∀ i, i + 1 < n → sl_f i n = i + 1 := fun i hi => by unfold sl_f; rw [if_pos hi]
  have sf0 : sl_f (n - 1) n = 0 := by unfold sl_f; rw [if_neg (by omega)]
  have Ef : gm_E (fun r => S r ∨ r = p) (L f) := by
    cases f with
    | zero => exact gm_mnE mn'
    | succ f =>
      have q := A f (by omega) (uf f (by omega))
      rw [sf1 f (by omega)] at q
      exact gm_nxE hS' (hS _ (hs f (by omega))) q
  have El : gm_E (fun r => S r ∨ r = p) (L (sl_f l n)) := by
    by_cases c : l + 1 < n
    · rw [sf1 l c]
      exact gm_nxP hS' (hS _ (hs (l + 1) c)) (A (l + 1) c (ul (l + 1) (by omega) c))
    · rw [show l = n - 1 by omega, sf0]; exact gm_mnE mn'
  have B : gm_nx (fun r => S r ∨ r = p) (L f) p := by
    have q := gr_nx h (i := f) (by omega)
    refine ⟨Or.inr rfl, fun r hr => gm_N1.mpr ?_⟩
    exact gm_stp (Or.inl rfl) hS (hS _ (hs f (by omega))) Ef (Or.inl q.1) (hS _ q.1) (fun r hr => gm_N1.mp (q.2 r hr)) (fun z => gr_ns hl (hs f (by omega)) q.1 sf (gm_N1.mpr z)) r hr
  have C : gm_nx (fun r => S r ∨ r = p) p (L (sl_f l n)) := by
    have q := gr_nx h (i := l) (by omega)
    refine ⟨Or.inl q.1, fun r hr => gm_Nm.mpr ?_⟩
    exact gm_stp (Or.inr rfl) hS (hS _ q.1) El (Or.inl (hs l hln)) (hS _ (hs l hln)) (fun r hr => gm_Nm.mp (q.2 r hr)) (fun z => gr_ns hl (hs l hln) q.1 sl (gm_Nm.mpr z)) r hr
  have m0 : M 0 = L 0 := e1 0 (by omega)
  refine ⟨by omega, m0.symm ▸ mn', fun i hi => ?_, ?_⟩
  · rw [m0]
    rcases Nat.lt_trichotomy i f with c | c | c
    · rw [e1 i (by omega), e1 (i + 1) (by omega)]
      have q := A i (by omega) (uf i c)
      rw [sf1 i (by omega)] at q
      exact ⟨q, (h.2.2.1 i (by omega)).2⟩
    · rw [e1 i (by omega), c, e2]; exact ⟨B, p0⟩
    · by_cases d : i = f + 1
      · rw [d, e2, show f + 1 + 1 = l + 1 - l + f + 1 by omega, e3 (l + 1) (by omega) (by omega)]
        rw [sf1 l (by omega)] at C
        exact ⟨C, (h.2.2.1 l (by omega)).2⟩
      · obtain ⟨j, rfl, hj⟩ : ∃ j, i = j - l + f + 1 ∧ l < j := ⟨i + l - f - 1, by omega⟩
        rw [show j - l + f + 1 + 1 = (j + 1) - l + f + 1 by omega, e3 j hj (by omega), e3 (j + 1) (by omega) (by omega)]
        have q := A j (by omega) (ul j hj (by omega))
        rw [sf1 j (by omega)] at q
        exact ⟨q, (h.2.2.1 j (by omega)).2⟩
  · rw [m0]
    by_cases c : l = n - 1
    · rw [c, sf0] at C
      rw [show n - l + f + 1 - 1 = f + 1 by omega, e2]
      exact C
    · have q := A (n - 1) (by omega) (ul (n - 1) (by omega) (by omega))
      rw [sf0] at q
      rw [show n - l + f + 1 - 1 = (n - 1) - l + f + 1 by omega, e3 (n - 1) (by omega) (by omega)]
      exact q
theorem gr_seen {S : Int32 → Prop} (hS : ∀ r, S r → gm_P r) {L : Nat → Int32} {n : Nat} {p : Int32} (h : gm_cyc S L n) (hp : gm_P p) (hl : ∀ r, S r → gm_la r < gm_la p) (u : ∀ i, i < n → 0 < gm_tr (L i) (L (sl_f i n)) p) : False := by
  have hS' : ∀ r, (S r ∨ r = p) → gm_P r := fun r hr => hr.elim (hS r) (fun e => e ▸ hp)
  have A : ∀ i, i < n → gm_nx (fun r => S r ∨ r = p) (L i) (L (sl_f i n)) := by
    intro i hi
    have q := gr_nx h hi
    refine ⟨Or.inl q.1, fun r hr => ?_⟩
    rcases hr with hr | hr
    · exact q.2 r hr
    · have := u i hi
      rw [hr]; exact ⟨Int.le_of_lt this, fun z => by omega⟩
  have n0 := h.1
  have c : gm_cyc (fun r => S r ∨ r = p) L n := by
    refine ⟨n0, ⟨Or.inl h.2.1.1, fun r hr hn => ?_⟩, fun i hi => ?_, ?_⟩
    · rcases hr with hr | hr
      · exact h.2.1.2 r hr hn
      · rw [hr]; exact hl _ h.2.1.1
    · have q := A i (by omega)
      unfold sl_f at q
      rw [if_pos hi] at q
      exact ⟨q, (h.2.2.1 i hi).2⟩
    · have q := A (n - 1) (by omega)
      unfold sl_f at q
      rw [if_neg (by omega)] at q
      exact q
  obtain ⟨i, hi, e⟩ := gm_call hS' c (p := p) (Or.inr rfl) ⟨-64, -1, fun r hr hn => gr_pE hl r hr hn⟩
  have := hl _ (gm_cS h hi)
  rw [e] at this
  omega
def gr_s (L : Nat → Int32) (f d i : Nat) : Nat → Int32 := fun j => if f + 1 ≤ j ∧ j + d < i then L (j + d) else L j
theorem gr_s0 (L : Nat → Int32) (f d i : Nat) (h : i ≤ f + 1 + d) : gr_s L f d i = L := by
  funext j
  unfold gr_s
  rw [if_neg (by omega)]
theorem gr_ss (L : Nat → Int32) {f d i : Nat} (h : f + 1 + d ≤ i) : upd (gr_s L f d i) (i - d) (gr_s L f d i i) = gr_s L f d (i + 1) := by
  funext j
  unfold gr_s upd
  dsimp only
  by_cases e : j = i - d
  · rw [if_pos e, if_neg (by omega), if_pos (by omega), e, show i - d + d = i by omega]
  · rw [if_neg e]
    by_cases c : f + 1 ≤ j ∧ j + d < i
    · rw [if_pos c, if_pos (by omega)]
    · rw [if_neg c, if_neg (by omega)]
theorem wx_growBy_ring {post : Int32 → SX → Prop} {fp fs : Int32} {a0 a1 a2 a3 : Nat → Int32} {S : Int32 → Prop} {n : Nat} {p : Int32} (hn : n < 24) (hS : ∀ r, S r → gm_P r) (hp : gm_P p) (hl : ∀ r, S r → gm_la r < gm_la p)
    (hc : n = 0 ∧ (∀ r, ¬ S r) ∨ gm_cyc S a2 n) (h : ∀ m L, m ≤ n + 1 → gm_cyc (fun r => S r ∨ r = p) L m → post (nI m) (fp, fs, a0, a1, L, a3)) : wpX_growBy__ring post (fp, fs, a0, a1, a2, a3) (nI n) p := by
  rcases hc with ⟨n0, hno⟩ | hc
  · subst n0
    refine ⟨1, br_t (by decide) (nm_r (show (-1 : Int32) - (-1) = nI 0 from rfl) (nm_r (show (-1 : Int32) + 1 = nI 0 from rfl) ⟨1, br_t (by decide) ?_⟩))⟩
    refine wx_ins_ring (n := 0) (k := 0) (by omega) (by omega) (h 1 _ (by omega) ?_)
    have e : ar_ins a2 0 0 p 0 = p := by unfold ar_ins; rw [if_neg (by omega), if_pos rfl]
    refine ⟨by omega, ⟨Or.inr e, fun r hr hn => absurd (hr.elim (fun q => absurd q (hno r)) id) (e ▸ hn)⟩, fun i hi => by omega, ⟨Or.inr e, fun r hr => ?_⟩⟩
    show gm_N (ar_ins a2 0 0 p 0) (ar_ins a2 0 0 p 0) r
    rw [e, hr.elim (fun q => absurd q (hno r)) id]
    exact gm_N1.mpr (gm_rc 1 _ _)
  have n0 := hc.1
  have hs := fun i (hi : i < n) => hS _ (gm_cS hc hi)
  have fn : ∀ i, i < n → sl_f i n < n := fun i hi => by unfold sl_f; split <;> omega
  have fin : ∀ f l, f ≤ l → l < n → gm_tr (a2 f) (a2 (sl_f f n)) p ≤ 0 → gm_tr (a2 l) (a2 (sl_f l n)) p ≤ 0 → (∀ i, i < f → 0 < gm_tr (a2 i) (a2 (sl_f i n)) p) → (∀ i, l < i → i < n → 0 < gm_tr (a2 i) (a2 (sl_f i n)) p) →
      ∃ n71 : Nat, wX_growBy__ring_71 post (nI n) p (nI f) (nI (l - f)) fp fs n71 (nI (l + 1)) a0 a1 a2 a3 := by
    intro f l hfl hln sf sl uf ul
    have key : ∀ d i, i + d = n → l + 1 ≤ i → wX_growBy__ring_71 post (nI n) p (nI f) (nI (l - f)) fp fs (d + 1) (nI i) a0 a1 (gr_s a2 f (l - f) i) a3 := by
      intro d
      induction d with
      | zero =>
        intro i hi hl1
        refine br_t (nI_le (by omega) (by omega)) ?_
        rw [pk_sub (a := n) (b := l - f) (by omega), nI_1]
        refine wx_ins_ring (by omega) (by omega) ?_
        rw [show n - (l - f) + 1 = n - l + f + 1 by omega]
        refine h _ _ (by omega) (gr_step hS hc hp hl hfl hln sf sl uf ul (fun j hj => ?_) ?_ (fun j h1 h2 => ?_))
        · unfold ar_ins gr_s; rw [if_pos (by omega), if_neg (by omega)]
        · unfold ar_ins; rw [if_neg (by omega), if_pos rfl]
        · unfold ar_ins gr_s
          rw [if_neg (by omega), if_neg (by omega), if_pos (by omega), if_pos (by omega)]
          congr 1; omega
      | succ d ih =>
        intro i hi hl1
        refine br_f (nI_ge (by omega) (by omega)) ⟨vp_in_nI (by omega) (by omega), ?_⟩
        rw [pk_sub (a := i) (b := l - f) (by omega)]
        refine ⟨vp_in_nI (by omega) (by omega), nm_e (nm_r (nI_1 i) ?_)⟩
        rw [nI_clamp (by omega), nI_clamp (by omega), gr_ss _ (by omega)]
        exact ih (i + 1) (by omega) (by omega)
    have q := key (n - (l + 1)) (l + 1) (by omega) (by omega)
    rw [gr_s0 _ _ _ _ (by omega)] at q
    exact ⟨_, q⟩
  have key : ∀ d i, i + d = n → ∀ x y : Int32, (x = -1 ∧ y = -1 ∧ (∀ j, j < i → 0 < gm_tr (a2 j) (a2 (sl_f j n)) p) ∨ ∃ f l, f ≤ l ∧ l < i ∧ x = nI f ∧ y = nI l ∧ gm_tr (a2 f) (a2 (sl_f f n)) p ≤ 0 ∧ gm_tr (a2 l) (a2 (sl_f l n)) p ≤ 0 ∧ (∀ j, j < f → 0 < gm_tr (a2 j) (a2 (sl_f j n)) p) ∧ (∀ j, l < j → j < i → 0 < gm_tr (a2 j) (a2 (sl_f j n)) p)) →
      wX_growBy__ring_8 post (nI n) p fp fs a0 a1 a2 a3 (d + 1) x y (nI i) := by
    intro d
    induction d with
    | zero =>
      intro i hi x y hxy
      rw [show i = n by omega] at hxy ⊢
      refine br_t (nI_le (Nat.le_refl n) (by omega)) ?_
      rcases hxy with ⟨_, _, u⟩ | ⟨f, l, hfl, hln, rfl, rfl, sf, sl, uf, ul⟩
      · exact absurd (gr_seen hS hc hp hl u) id
      · exact nm_r (pk_sub hfl) (nm_r (nI_1 l) (fin f l hfl hln sf sl uf ul))
    | succ d ih =>
      intro i hi x y hxy
      have Bd := gm_trB (hs i (by omega)) (hs _ (fn i (by omega))) hp
      have e1 := i3_gt0 (i := gm_tr (a2 i) (a2 (sl_f i n)) p) (by omega)
      have fni := fn i (by omega)
      refine br_f (nI_ge (by omega) (by omega)) (wx_following (by omega) (by omega) ?_)
      rw [show (if i + 1 < n then i + 1 else 0) = sl_f i n from rfl]
      refine ⟨vp_in_nI (by omega) (by omega), nm_e ⟨vp_in_nI (by omega) (by omega), wx_turn ?_⟩⟩
      rw [nI_clamp (by omega), nI_clamp (by omega)]
      refine ⟨fun hg => nm_r (nI_1 i) (ih (i + 1) (by omega) x y ?_), fun hg => ⟨fun ex => nm_r (nI_1 i) (ih (i + 1) (by omega) (nI i) (nI i) ?_), fun ex => nm_r (nI_1 i) (ih (i + 1) (by omega) x (nI i) ?_)⟩⟩
      · have hg := e1.mp hg
        rcases hxy with ⟨ex, ey, u⟩ | ⟨f, l, hfl, hln, ex, ey, sf, sl, uf, ul⟩
        · refine Or.inl ⟨ex, ey, fun j hj => ?_⟩
          by_cases ej : j = i
          · rw [ej]; exact hg
          · exact u j (by omega)
        · refine Or.inr ⟨f, l, hfl, by omega, ex, ey, sf, sl, uf, fun j h1 h2 => ?_⟩
          by_cases ej : j = i
          · rw [ej]; exact hg
          · exact ul j h1 (by omega)
      · have hg := mt e1.mpr hg
        rcases hxy with ⟨_, ey, u⟩ | ⟨f, l, hfl, hln, ex', ey, sf, sl, uf, ul⟩
        · exact Or.inr ⟨i, i, Nat.le_refl i, by omega, rfl, rfl, by omega, by omega, u, fun j h1 h2 => by omega⟩
        · rw [ex'] at ex
          have := nI_pos (n := f) (by omega)
          rw [ex] at this
          exact absurd (by decide) this
      · have hg := mt e1.mpr hg
        rcases hxy with ⟨ex', ey, u⟩ | ⟨f, l, hfl, hln, ex', ey, sf, sl, uf, ul⟩
        · exact absurd ex' ex
        · exact Or.inr ⟨f, i, by omega, by omega, ex', rfl, sf, by omega, uf, fun j h1 h2 => by omega⟩
  exact ⟨_, key n 0 (by omega) (-1) (-1) (Or.inl ⟨rfl, rfl, fun j hj => by omega⟩)⟩
theorem wx_grow_ring {post : Int32 → SX → Prop} {fp : Int32} {a0 a1 a2 a3 : Nat → Int32} {S : Int32 → Prop} {N : Nat} (hN : N ≤ 24) (h0 : 0 < N) (hI : sp_I S a1 N)
    (h : ∀ m L, m ≤ 24 → gm_cyc S L m → post (nI m) (fp, nI N, a0, a1, L, a3)) : wpX_grow__ring post (fp, nI N, a0, a1, a2, a3) := by
  have key : ∀ d i, i + d = N → ∀ L n, n ≤ i → (n = 0 ∧ i = 0 ∨ gm_cyc (fun r => ∃ j, j < i ∧ a1 j = r) L n) → wX_grow__ring_4 post (d + 1) (nI n) (nI i) fp (nI N) a0 a1 L a3 := by
    intro d
    induction d with
    | zero =>
      intro i hi L n hn hc
      refine br_t (nI_le (by omega) (by omega)) (h n L (by omega) ?_)
      rcases hc with hc | hc
      · omega
      · have e : S = fun r => ∃ j, j < i ∧ a1 j = r := by
          funext r
          rw [show i = N by omega]
          exact propext (hI.2.2 r)
        rw [e]; exact hc
    | succ d ih =>
      intro i hi L n hn hc
      refine br_f (nI_ge (by omega) (by omega)) ⟨vp_in_nI (by omega) (by omega), ?_⟩
      rw [nI_clamp (by omega)]
      refine wx_growBy_ring (S := fun r => ∃ j, j < i ∧ a1 j = r) (by omega) ?_ (hI.1 i (by omega)) ?_ ?_ (fun m M hm hc' => nm_r (nI_1 i) (ih (i + 1) (by omega) M m (by omega) (Or.inr ?_)))
      · rintro r ⟨j, hj, rfl⟩; exact hI.1 j (by omega)
      · rintro r ⟨j, hj, rfl⟩; exact hI.2.1 j i hj (by omega)
      · rcases hc with ⟨c1, c2⟩ | hc
        · exact Or.inl ⟨c1, fun r ⟨j, hj, _⟩ => by omega⟩
        · exact Or.inr hc
      · have e : (fun r => ∃ j, j < i + 1 ∧ a1 j = r) = fun r => (∃ j, j < i ∧ a1 j = r) ∨ r = a1 i := by
          funext r
          apply propext
          constructor
          · rintro ⟨j, hj, e⟩
            by_cases ej : j = i
            · rw [ej] at e; exact Or.inr e.symm
            · exact Or.inl ⟨j, by omega, e⟩
          · rintro (⟨j, hj, e⟩ | e)
            · exact ⟨j, by omega, e⟩
            · exact ⟨i, by omega, e.symm⟩
        rw [e]; exact hc'
  exact ⟨_, key N 0 (by omega) _ 0 (by omega) (Or.inl ⟨rfl, rfl⟩)⟩
theorem wx_growBy_otherRing {post : Int32 → SX → Prop} {fp fs : Int32} {a0 a1 a2 a3 : Nat → Int32} {S : Int32 → Prop} {n : Nat} {p : Int32} (hn : n < 24) (hS : ∀ r, S r → gm_P r) (hp : gm_P p) (hl : ∀ r, S r → gm_la r < gm_la p)
    (hc : n = 0 ∧ (∀ r, ¬ S r) ∨ gm_cyc S a3 n) (h : ∀ m L, m ≤ n + 1 → gm_cyc (fun r => S r ∨ r = p) L m → post (nI m) (fp, fs, a0, a1, a2, L)) : wpX_growBy__otherRing post (fp, fs, a0, a1, a2, a3) (nI n) p := by
  rcases hc with ⟨n0, hno⟩ | hc
  · subst n0
    refine ⟨1, br_t (by decide) (nm_r (show (-1 : Int32) - (-1) = nI 0 from rfl) (nm_r (show (-1 : Int32) + 1 = nI 0 from rfl) ⟨1, br_t (by decide) ?_⟩))⟩
    refine wx_ins_otherRing (n := 0) (k := 0) (by omega) (by omega) (h 1 _ (by omega) ?_)
    have e : ar_ins a3 0 0 p 0 = p := by unfold ar_ins; rw [if_neg (by omega), if_pos rfl]
    refine ⟨by omega, ⟨Or.inr e, fun r hr hn => absurd (hr.elim (fun q => absurd q (hno r)) id) (e ▸ hn)⟩, fun i hi => by omega, ⟨Or.inr e, fun r hr => ?_⟩⟩
    show gm_N (ar_ins a3 0 0 p 0) (ar_ins a3 0 0 p 0) r
    rw [e, hr.elim (fun q => absurd q (hno r)) id]
    exact gm_N1.mpr (gm_rc 1 _ _)
  have n0 := hc.1
  have hs := fun i (hi : i < n) => hS _ (gm_cS hc hi)
  have fn : ∀ i, i < n → sl_f i n < n := fun i hi => by unfold sl_f; split <;> omega
  have fin : ∀ f l, f ≤ l → l < n → gm_tr (a3 f) (a3 (sl_f f n)) p ≤ 0 → gm_tr (a3 l) (a3 (sl_f l n)) p ≤ 0 → (∀ i, i < f → 0 < gm_tr (a3 i) (a3 (sl_f i n)) p) → (∀ i, l < i → i < n → 0 < gm_tr (a3 i) (a3 (sl_f i n)) p) →
      ∃ n71 : Nat, wX_growBy__otherRing_71 post (nI n) p (nI f) (nI (l - f)) fp fs n71 (nI (l + 1)) a0 a1 a2 a3 := by
    intro f l hfl hln sf sl uf ul
    have key : ∀ d i, i + d = n → l + 1 ≤ i → wX_growBy__otherRing_71 post (nI n) p (nI f) (nI (l - f)) fp fs (d + 1) (nI i) a0 a1 a2 (gr_s a3 f (l - f) i) := by
      intro d
      induction d with
      | zero =>
        intro i hi hl1
        refine br_t (nI_le (by omega) (by omega)) ?_
        rw [pk_sub (a := n) (b := l - f) (by omega), nI_1]
        refine wx_ins_otherRing (by omega) (by omega) ?_
        rw [show n - (l - f) + 1 = n - l + f + 1 by omega]
        refine h _ _ (by omega) (gr_step hS hc hp hl hfl hln sf sl uf ul (fun j hj => ?_) ?_ (fun j h1 h2 => ?_))
        · unfold ar_ins gr_s; rw [if_pos (by omega), if_neg (by omega)]
        · unfold ar_ins; rw [if_neg (by omega), if_pos rfl]
        · unfold ar_ins gr_s
          rw [if_neg (by omega), if_neg (by omega), if_pos (by omega), if_pos (by omega)]
          congr 1; omega
      | succ d ih =>
        intro i hi hl1
        refine br_f (nI_ge (by omega) (by omega)) ⟨vp_in_nI (by omega) (by omega), ?_⟩
        rw [pk_sub (a := i) (b := l - f) (by omega)]
        refine ⟨vp_in_nI (by omega) (by omega), nm_e (nm_r (nI_1 i) ?_)⟩
        rw [nI_clamp (by omega), nI_clamp (by omega), gr_ss _ (by omega)]
        exact ih (i + 1) (by omega) (by omega)
    have q := key (n - (l + 1)) (l + 1) (by omega) (by omega)
    rw [gr_s0 _ _ _ _ (by omega)] at q
    exact ⟨_, q⟩
  have key : ∀ d i, i + d = n → ∀ x y : Int32, (x = -1 ∧ y = -1 ∧ (∀ j, j < i → 0 < gm_tr (a3 j) (a3 (sl_f j n)) p) ∨ ∃ f l, f ≤ l ∧ l < i ∧ x = nI f ∧ y = nI l ∧ gm_tr (a3 f) (a3 (sl_f f n)) p ≤ 0 ∧ gm_tr (a3 l) (a3 (sl_f l n)) p ≤ 0 ∧ (∀ j, j < f → 0 < gm_tr (a3 j) (a3 (sl_f j n)) p) ∧ (∀ j, l < j → j < i → 0 < gm_tr (a3 j) (a3 (sl_f j n)) p)) →
      wX_growBy__otherRing_8 post (nI n) p fp fs a0 a1 a2 a3 (d + 1) x y (nI i) := by
    intro d
    induction d with
    | zero =>
      intro i hi x y hxy
      rw [show i = n by omega] at hxy ⊢
      refine br_t (nI_le (Nat.le_refl n) (by omega)) ?_
      rcases hxy with ⟨_, _, u⟩ | ⟨f, l, hfl, hln, rfl, rfl, sf, sl, uf, ul⟩
      · exact absurd (gr_seen hS hc hp hl u) id
      · exact nm_r (pk_sub hfl) (nm_r (nI_1 l) (fin f l hfl hln sf sl uf ul))
    | succ d ih =>
      intro i hi x y hxy
      have Bd := gm_trB (hs i (by omega)) (hs _ (fn i (by omega))) hp
      have e1 := i3_gt0 (i := gm_tr (a3 i) (a3 (sl_f i n)) p) (by omega)
      have fni := fn i (by omega)
      refine br_f (nI_ge (by omega) (by omega)) (wx_following (by omega) (by omega) ?_)
      rw [show (if i + 1 < n then i + 1 else 0) = sl_f i n from rfl]
      refine ⟨vp_in_nI (by omega) (by omega), nm_e ⟨vp_in_nI (by omega) (by omega), wx_turn ?_⟩⟩
      rw [nI_clamp (by omega), nI_clamp (by omega)]
      refine ⟨fun hg => nm_r (nI_1 i) (ih (i + 1) (by omega) x y ?_), fun hg => ⟨fun ex => nm_r (nI_1 i) (ih (i + 1) (by omega) (nI i) (nI i) ?_), fun ex => nm_r (nI_1 i) (ih (i + 1) (by omega) x (nI i) ?_)⟩⟩
      · have hg := e1.mp hg
        rcases hxy with ⟨ex, ey, u⟩ | ⟨f, l, hfl, hln, ex, ey, sf, sl, uf, ul⟩
        · refine Or.inl ⟨ex, ey, fun j hj => ?_⟩
          by_cases ej : j = i
          · rw [ej]; exact hg
          · exact u j (by omega)
        · refine Or.inr ⟨f, l, hfl, by omega, ex, ey, sf, sl, uf, fun j h1 h2 => ?_⟩
          by_cases ej : j = i
          · rw [ej]; exact hg
          · exact ul j h1 (by omega)
      · have hg := mt e1.mpr hg
        rcases hxy with ⟨_, ey, u⟩ | ⟨f, l, hfl, hln, ex', ey, sf, sl, uf, ul⟩
        · exact Or.inr ⟨i, i, Nat.le_refl i, by omega, rfl, rfl, by omega, by omega, u, fun j h1 h2 => by omega⟩
        · rw [ex'] at ex
          have := nI_pos (n := f) (by omega)
          rw [ex] at this
          exact absurd (by decide) this
      · have hg := mt e1.mpr hg
        rcases hxy with ⟨ex', ey, u⟩ | ⟨f, l, hfl, hln, ex', ey, sf, sl, uf, ul⟩
        · exact absurd ex' ex
        · exact Or.inr ⟨f, i, by omega, by omega, ex', rfl, sf, by omega, uf, fun j h1 h2 => by omega⟩
  exact ⟨_, key n 0 (by omega) (-1) (-1) (Or.inl ⟨rfl, rfl, fun j hj => by omega⟩)⟩
theorem wx_grow_otherRing {post : Int32 → SX → Prop} {fp : Int32} {a0 a1 a2 a3 : Nat → Int32} {S : Int32 → Prop} {N : Nat} (hN : N ≤ 24) (h0 : 0 < N) (hI : sp_I S a1 N)
    (h : ∀ m L, m ≤ 24 → gm_cyc S L m → post (nI m) (fp, nI N, a0, a1, a2, L)) : wpX_grow__otherRing post (fp, nI N, a0, a1, a2, a3) := by
  have key : ∀ d i, i + d = N → ∀ L n, n ≤ i → (n = 0 ∧ i = 0 ∨ gm_cyc (fun r => ∃ j, j < i ∧ a1 j = r) L n) → wX_grow__otherRing_4 post (d + 1) (nI n) (nI i) fp (nI N) a0 a1 a2 L := by
    intro d
    induction d with
    | zero =>
      intro i hi L n hn hc
      refine br_t (nI_le (by omega) (by omega)) (h n L (by omega) ?_)
      rcases hc with hc | hc
      · omega
      · have e : S = fun r => ∃ j, j < i ∧ a1 j = r := by
          funext r
          rw [show i = N by omega]
          exact propext (hI.2.2 r)
        rw [e]; exact hc
    | succ d ih =>
      intro i hi L n hn hc
      refine br_f (nI_ge (by omega) (by omega)) ⟨vp_in_nI (by omega) (by omega), ?_⟩
      rw [nI_clamp (by omega)]
      refine wx_growBy_otherRing (S := fun r => ∃ j, j < i ∧ a1 j = r) (by omega) ?_ (hI.1 i (by omega)) ?_ ?_ (fun m M hm hc' => nm_r (nI_1 i) (ih (i + 1) (by omega) M m (by omega) (Or.inr ?_)))
      · rintro r ⟨j, hj, rfl⟩; exact hI.1 j (by omega)
      · rintro r ⟨j, hj, rfl⟩; exact hI.2.1 j i hj (by omega)
      · rcases hc with ⟨c1, c2⟩ | hc
        · exact Or.inl ⟨c1, fun r ⟨j, hj, _⟩ => by omega⟩
        · exact Or.inr hc
      · have e : (fun r => ∃ j, j < i + 1 ∧ a1 j = r) = fun r => (∃ j, j < i ∧ a1 j = r) ∨ r = a1 i := by
          funext r
          apply propext
          constructor
          · rintro ⟨j, hj, e⟩
            by_cases ej : j = i
            · rw [ej] at e; exact Or.inr e.symm
            · exact Or.inl ⟨j, by omega, e⟩
          · rintro (⟨j, hj, e⟩ | e)
            · exact ⟨j, by omega, e⟩
            · exact ⟨i, by omega, e.symm⟩
        rw [e]; exact hc'
  exact ⟨_, key N 0 (by omega) _ 0 (by omega) (Or.inl ⟨rfl, rfl⟩)⟩
