theorem gm_phl (c r : Int32) : gm_ph 64 1 c r = gm_la r - gm_la c := by unfold gm_ph gm_la; grind
/-- o comes first of all -/
def gm_mn (S : Int32 → Prop) (o : Int32) : Prop := S o ∧ ∀ r, S r → r ≠ o → gm_la o < gm_la r
theorem gm_mnE {S : Int32 → Prop} {o : Int32} (h : gm_mn S o) : gm_E S o := ⟨64, 1, fun r hr hn => by rw [gm_phl]; have := h.2 r hr hn; omega⟩
theorem gm_srt {c u v w : Int32} (hu : gm_la c < gm_la u) (hv : gm_la c < gm_la v) (hw : gm_la c < gm_la w) (h1 : 0 < gm_tr c u v) (h2 : 0 < gm_tr c v w) : 0 < gm_tr c u w := by
  have e := gm_phB 64 1 c u v w
  rw [gm_phl, gm_phl, gm_phl] at e
  have m1 := Int.mul_pos h2 (show 0 < gm_la u - gm_la c by omega)
  have m2 := Int.mul_pos h1 (show 0 < gm_la w - gm_la c by omega)
  exact gm_pp (show 0 < gm_la v - gm_la c by omega) (by omega)
/-- the ring: each side is the next one's, from the first point round to it again -/
def gm_cyc (S : Int32 → Prop) (L : Nat → Int32) (m : Nat) : Prop :=
  0 < m ∧ gm_mn S (L 0) ∧ (∀ i, i + 1 < m → gm_nx S (L i) (L (i + 1)) ∧ L (i + 1) ≠ L 0) ∧ gm_nx S (L (m - 1)) (L 0)
theorem gm_cS {S : Int32 → Prop} {L : Nat → Int32} {m : Nat} (h : gm_cyc S L m) {i : Nat} (hi : i < m) : S (L i) := by
  obtain ⟨h0, h1, h2, h3⟩ := h
  cases i with
  | zero => exact h1.1
  | succ i => exact (h2 i hi).1.1
theorem gm_cE {S : Int32 → Prop} (hS : ∀ r, S r → gm_P r) {L : Nat → Int32} {m : Nat} (h : gm_cyc S L m) {i : Nat} (hi : i < m) : gm_E S (L i) := by
  have hs := fun i (hi : i < m) => hS _ (gm_cS h (i := i) hi)
  obtain ⟨h0, h1, h2, h3⟩ := h
  cases i with
  | zero => exact gm_mnE h1
  | succ i => exact gm_nxE hS (hs i (by omega)) (h2 i hi).1
theorem gm_col {a b : Int} {c u r : Int32} (hu : 0 < gm_ph a b c u) (hr : 0 < gm_ph a b c r) (h : gm_tr c u r = 0) : 0 < gm_dt c u r := by
  have e := gm_ph2 a b c u r h
  exact gm_pp hu (by rw [e]; exact Int.mul_pos hr (gm_sqp hu))
/-- an outermost point is on no stretch between others -/
theorem gm_Eseg {S : Int32 → Prop} {p u v : Int32} (hE : gm_E S p) (hu : S u) (hv : S v) (nu : u ≠ p) (nv : v ≠ p) (h : gm_tr p u v = 0) : 0 < gm_dt p u v := by
  obtain ⟨a, b, hE⟩ := hE
  exact gm_col (hE u hu nu) (hE v hv nv) h
theorem gm_bary (a b : Int) (p u v w : Int32) : gm_tr v w p * gm_ph a b p u + gm_tr w u p * gm_ph a b p v + gm_tr u v p * gm_ph a b p w = 0 := by
  unfold gm_tr gm_ph; grind
/-- nor in a triangle of others -/
theorem gm_Etri {S : Int32 → Prop} {p u v w : Int32} (hE : gm_E S p) (hu : S u) (hv : S v) (hw : S w) (nu : u ≠ p) (nv : v ≠ p) (nw : w ≠ p)
    (h1 : 0 ≤ gm_tr v w p) (h2 : 0 ≤ gm_tr w u p) (h3 : 0 ≤ gm_tr u v p) (h : 0 < gm_tr u v w) : False := by
  obtain ⟨a, b, hE⟩ := hE
  have pu := hE u hu nu
  have pv := hE v hv nv
  have pw := hE w hw nw
  have e := gm_bary a b p u v w
  have m1 := Int.mul_nonneg h1 (Int.le_of_lt pu)
  have m2 := Int.mul_nonneg h2 (Int.le_of_lt pv)
  have m3 := Int.mul_nonneg h3 (Int.le_of_lt pw)
  have z1 := gm_z pu (show gm_tr v w p * gm_ph a b p u = 0 by omega)
  have z2 := gm_z pv (show gm_tr w u p * gm_ph a b p v = 0 by omega)
  have z3 := gm_z pw (show gm_tr u v p * gm_ph a b p w = 0 by omega)
  have e2 : gm_tr u v w = gm_tr v w p + gm_tr w u p + gm_tr u v p := by unfold gm_tr; grind
  omega
theorem gm_csr1 {S : Int32 → Prop} {L : Nat → Int32} {m : Nat} (h : gm_cyc S L m) {i : Nat} (h0 : 0 < i) (hi : i + 1 < m) : 0 < gm_tr (L 0) (L i) (L (i + 1)) := by
  have hs := fun i (hi : i < m) => gm_cS h (i := i) hi
  obtain ⟨_, h1, h2, h3⟩ := h
  obtain ⟨j, rfl⟩ : ∃ j, i = j + 1 := ⟨i - 1, by omega⟩
  have n1 := (h2 j (by omega)).2
  have n2 := (h2 (j + 1) hi).2
  have l1 := h1.2 _ (hs (j + 1) (by omega)) n1
  have l2 := h1.2 _ (hs (j + 1 + 1) (by omega)) n2
  have a := (h2 (j + 1) hi).1.2 (L 0) h1.1
  have a1 := a.1
  rw [gm_rot (L 0)] at a1
  rcases Int.lt_or_eq_of_le a1 with h | h
  · exact h
  · have a2 := a.2 (by rw [gm_rot (L 0)]; exact h.symm)
    have := gm_col (a := 64) (b := 1) (c := L 0) (u := L (j + 1)) (r := L (j + 1 + 1)) (by rw [gm_phl]; omega) (by rw [gm_phl]; omega) h.symm
    omega
theorem gm_csr {S : Int32 → Prop} {L : Nat → Int32} {m : Nat} (h : gm_cyc S L m) {i : Nat} (h0 : 0 < i) : ∀ d, i + 1 + d < m → 0 < gm_tr (L 0) (L i) (L (i + 1 + d)) := by
  have hl : ∀ i, 0 < i → i < m → gm_la (L 0) < gm_la (L i) := by
    intro i h0 hi
    refine h.2.1.2 _ (gm_cS h hi) ?_
    obtain ⟨j, rfl⟩ : ∃ j, i = j + 1 := ⟨i - 1, by omega⟩
    exact (h.2.2.1 j hi).2
  intro d
  induction d with
  | zero => exact fun hd => gm_csr1 h h0 hd
  | succ d ih =>
    intro hd
    exact gm_srt (hl i h0 (by omega)) (hl (i + 1 + d) (by omega) (by omega)) (hl (i + 1 + (d + 1)) (by omega) hd) (ih (by omega)) (gm_csr1 h (i := i + 1 + d) (by omega) (by omega))
/-- all outermost points are in the ring -/
theorem gm_call {S : Int32 → Prop} (hS : ∀ r, S r → gm_P r) {L : Nat → Int32} {m : Nat} (h : gm_cyc S L m) {p : Int32} (hp : S p) (hE : gm_E S p) : ∃ i, i < m ∧ L i = p := by
  apply Classical.byContradiction
  intro hn
  have hn : ∀ i, i < m → L i ≠ p := fun i hi e => hn ⟨i, hi, e⟩
  have hs := fun i (hi : i < m) => gm_cS h (i := i) hi
  have hr := fun i (h0 : 0 < i) (hi : i + 1 < m) => gm_csr1 h h0 hi
  obtain ⟨h0, h1, h2, h3⟩ := h
  by_cases e1 : m = 1
  · subst e1
    have a := h3.2 p hp
    exact hn 0 h0 (gm_uc (hS _ h1.1) (hS _ hp) (gm_N1.mp a)).symm
  by_cases e2 : m = 2
  · subst e2
    have a := (h2 0 (by omega)).1.2 p hp
    have b : gm_N (L 1) (L 0) p := h3.2 p hp
    have e : gm_tr (L 1) (L 0) p = - gm_tr (L 0) (L 1) p := gm_swq _ _ _
    have a1 : 0 ≤ gm_tr (L 0) (L 1) p := a.1
    have b1 := b.1
    have a2 : gm_dt p (L 0) (L 1) ≤ 0 := a.2 (show gm_tr (L 0) (L 1) p = 0 by omega)
    have := gm_Eseg hE (hs 0 (by omega)) (hs 1 (by omega)) (hn 0 (by omega)) (hn 1 (by omega)) (by rw [← gm_rot p (L 0) (L 1)]; omega)
    omega
  have hj : ∃ k, gm_tr (L 0) (L (k + 2)) p ≤ 0 ∧ k + 2 < m := by
    refine ⟨m - 3, ?_, by omega⟩
    have a := (h3.2 p hp).1
    rw [gm_swq (L 0)] at a
    rw [show m - 3 + 2 = m - 1 by omega]
    omega
  obtain ⟨k, ⟨hk, km⟩, hl⟩ := pk_least (fun k => gm_tr (L 0) (L (k + 2)) p ≤ 0 ∧ k + 2 < m) hj
  have hb : 0 ≤ gm_tr (L 0) (L (k + 1)) p := by
    cases k with
    | zero => exact ((h2 0 (by omega)).1.2 p hp).1
    | succ k =>
      rcases Int.lt_or_le (gm_tr (L 0) (L (k + 1 + 1)) p) 0 with g | g
      · exact absurd ⟨Int.le_of_lt g, by omega⟩ (hl k (by omega))
      · exact g
  have ha := ((h2 (k + 1) (by omega)).1.2 p hp).1
  refine gm_Etri hE (hs 0 h0) (hs (k + 1) (by omega)) (hs (k + 2) (by omega)) (hn 0 h0) (hn (k + 1) (by omega)) (hn (k + 2) (by omega)) ha ?_ hb (hr (k + 1) (by omega) km)
  rw [gm_swq (L 0)]
  omega
/-- the corners as the reference asks for them: just the outermost points, the first first, the others by direction from it -/
def gm_ref (S : Int32 → Prop) (L : Nat → Int32) (m : Nat) : Prop :=
  (∀ p, (S p ∧ gm_E S p) ↔ ∃ i, i < m ∧ L i = p) ∧ (0 < m → gm_mn S (L 0)) ∧ (∀ i, 0 < i → i < m → L i ≠ L 0) ∧ (∀ i j, 0 < i → i < j → j < m → 0 < gm_tr (L 0) (L i) (L j))
theorem gm_cr {S : Int32 → Prop} (hS : ∀ r, S r → gm_P r) {L : Nat → Int32} {m : Nat} (h : gm_cyc S L m) : gm_ref S L m := by
  refine ⟨fun p => ⟨fun hp => gm_call hS h hp.1 hp.2, ?_⟩, fun _ => h.2.1, fun i h0 hi => ?_, fun i j h0 hij hj => ?_⟩
  · rintro ⟨i, hi, rfl⟩
    exact ⟨gm_cS h hi, gm_cE hS h hi⟩
  · obtain ⟨k, rfl⟩ : ∃ k, i = k + 1 := ⟨i - 1, by omega⟩
    exact (h.2.2.1 k hi).2
  · obtain ⟨d, rfl⟩ : ∃ d, j = i + 1 + d := ⟨j - i - 1, by omega⟩
    exact gm_csr h h0 d hj
theorem gm_rinj {S : Int32 → Prop} {L : Nat → Int32} {m : Nat} (h : gm_ref S L m) {i j : Nat} (hij : i < j) (hj : j < m) : L i ≠ L j := by
  obtain ⟨_, _, h2, h3⟩ := h
  cases i with
  | zero => exact fun e => h2 j hij hj e.symm
  | succ i =>
    intro e
    have := h3 (i + 1) j (by omega) hij hj
    rw [e, gm_prr] at this
    omega
theorem gm_run1 {S : Int32 → Prop} (hS : ∀ r, S r → gm_P r) {L L' : Nat → Int32} {m m' : Nat} (h : gm_ref S L m) (h' : gm_ref S L' m') : ∀ i, i < m → i < m' → L i = L' i := by
  have key : ∀ {L L' : Nat → Int32} {m m' : Nat}, gm_ref S L m → gm_ref S L' m' → ∀ i, i < m → ∃ k, k < m' ∧ L' k = L i := by
    intro L L' m m' h h' i hi
    exact (h'.1 _).mp ((h.1 _).mpr ⟨i, hi, rfl⟩)
  have h00 : 0 < m → 0 < m' → L 0 = L' 0 := by
    intro h0 h0'
    apply Classical.byContradiction
    intro hn
    have a := (h.2.1 h0).2 _ (h'.2.1 h0').1 (fun e => hn e.symm)
    have b := (h'.2.1 h0').2 _ (h.2.1 h0).1 hn
    omega
  intro i
  induction i using Nat.strongRecOn with
  | ind i ih =>
    intro hi hi'
    by_cases e0 : i = 0
    · rw [e0]; exact h00 (by omega) (by omega)
    have o := h00 (by omega) (by omega)
    obtain ⟨k, hk, ek⟩ := key h h' i hi
    obtain ⟨k', hk', ek'⟩ := key h' h i hi'
    have gk : i ≤ k := by
      apply Classical.byContradiction
      intro hn
      exact gm_rinj h (i := k) (j := i) (by omega) hi ((ih k (by omega) (by omega) hk).trans ek)
    have gk' : i ≤ k' := by
      apply Classical.byContradiction
      intro hn
      exact gm_rinj h' (i := k') (j := i) (by omega) hi' ((ih k' (by omega) hk' (by omega)).symm.trans ek')
    by_cases e : k = i
    · rw [← ek, e]
    by_cases e' : k' = i
    · rw [← ek', e']
    have a := h.2.2.2 i k' (by omega) (by omega) hk'
    have b := h'.2.2.2 i k (by omega) (by omega) hk
    rw [ek'] at a
    rw [ek, ← o, gm_swp] at b
    omega
theorem gm_run {S : Int32 → Prop} (hS : ∀ r, S r → gm_P r) {L L' : Nat → Int32} {m m' : Nat} (h : gm_ref S L m) (h' : gm_ref S L' m') : m = m' ∧ ∀ i, i < m → L i = L' i := by
  have key : ∀ {L L' : Nat → Int32} {m m' : Nat}, gm_ref S L m → gm_ref S L' m' → m ≤ m' := by
    intro L L' m m' h h'
    apply Classical.byContradiction
    intro hn
    obtain ⟨k, hk, ek⟩ := (h'.1 _).mp ((h.1 _).mpr ⟨m', by omega, rfl⟩)
    exact gm_rinj h (i := k) (j := m') hk (by omega) ((gm_run1 hS h h' k (by omega) hk).trans ek)
  have a := key h h'
  have b := key h' h
  exact ⟨by omega, fun i hi => gm_run1 hS h h' i hi (by omega)⟩
