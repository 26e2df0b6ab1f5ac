theorem gm_dts (c u r : Int32) : gm_dt c r u = gm_dt c u r := by unfold gm_dt; grind
theorem gm_sqd {a b : Int} {c u r : Int32} (hu : 0 < gm_ph a b c u) (hr : 0 < gm_ph a b c r) (h : gm_tr c u r = 0) : gm_sq c r ≤ gm_sq c u ↔ gm_dt r c u ≤ 0 := by
  rw [gm_seg hu hr h]
  have e1 := gm_ph2 a b c u r h
  have e2 := gm_ph2 a b c r u (by rw [gm_swp]; omega)
  rw [gm_dts] at e2
  have s1 := gm_sqp hu
  have s2 := gm_sqp hr
  generalize gm_dt c u r = D at *
  generalize gm_ph a b c u = U at *
  generalize gm_ph a b c r = R at *
  generalize gm_sq c u = A at *
  generalize gm_sq c r = B at *
  constructor
  · intro l
    apply Classical.byContradiction
    intro hn
    have m1 := Int.mul_pos (a := R - U) (b := A) (by omega) s1
    have m2 := Int.mul_pos (a := R - U) (b := B) (by omega) s2
    rw [Int.sub_mul] at m1 m2
    have d1 : A < D := by
      apply Classical.byContradiction
      intro q
      have := Int.mul_nonneg (a := A - D) (b := U) (by omega) (by omega)
      rw [Int.sub_mul, Int.mul_comm A U] at this
      omega
    have d2 : D < B := by
      apply Classical.byContradiction
      intro q
      have := Int.mul_nonneg (a := D - B) (b := R) (by omega) (by omega)
      rw [Int.sub_mul, Int.mul_comm B R] at this
      omega
    omega
  · intro l
    have m1 := Int.mul_nonneg (a := U - R) (b := A) (by omega) (by omega)
    have m2 := Int.mul_nonneg (a := U - R) (b := B) (by omega) (by omega)
    rw [Int.sub_mul] at m1 m2
    have d1 : D ≤ A := by
      apply Classical.byContradiction
      intro q
      have := Int.mul_pos (a := D - A) (b := U) (by omega) (by omega)
      rw [Int.sub_mul, Int.mul_comm A U] at this
      omega
    have d2 : B ≤ D := by
      apply Classical.byContradiction
      intro q
      have := Int.mul_pos (a := B - D) (b := R) (by omega) (by omega)
      rw [Int.sub_mul, Int.mul_comm B R] at this
      omega
    omega
theorem gm_sqN {a b : Int} {c u r : Int32} (hc : gm_P c) (hPu : gm_P u) (hPr : gm_P r) (hu : u ≠ c → 0 < gm_ph a b c u) (hr : r ≠ c → 0 < gm_ph a b c r) (h : gm_tr c u r = 0) : gm_sq c r ≤ gm_sq c u ↔ gm_dt r c u ≤ 0 := by
  have z : gm_sq c c = 0 := by unfold gm_sq; grind
  by_cases er : r = c
  · have z2 : gm_dt c c u = 0 := by unfold gm_dt; grind
    have := (gm_sqB hc hPu).1
    rw [er, z, z2]
    omega
  by_cases eu : u = c
  · have z2 : gm_dt r c c = gm_sq c r := by unfold gm_dt gm_sq; grind
    rw [eu, z, z2]
  exact gm_sqd (hu eu) (hr er) h
theorem wx_rightmost {post : Int32 → Prop} {fp : Int32} {a0 a1 a2 a3 : Nat → Int32} {S : Int32 → Prop} {N : Nat} {c : Int32} (hN : N ≤ 24) (hI : sp_I S a1 N) (hc : gm_P c) (hE : gm_E S c)
    (h : ∀ q, (q = c ∨ S q) → (∀ r, S r → gm_Ns 1 c q r) → post q) : wpX_rightmostFrom post (fp, nI N, a0, a1, a2, a3) c := by
  obtain ⟨a, b, hE⟩ := hE
  have hS : ∀ i, i < N → S (a1 i) := fun i hi => (hI.2.2 _).mpr ⟨i, hi, rfl⟩
  have key : ∀ d i, i + d = N → ∀ q, (q = c ∨ ∃ j, j < i ∧ a1 j = q) → (∀ r, (∃ j, j < i ∧ a1 j = r) → gm_Ns 1 c q r) → wX_rightmostFrom_4 post c fp (nI N) a0 a1 a2 a3 (d + 1) q (nI i) := by
    intro d
    induction d with
    | zero =>
      intro i hi q hq hn
      refine br_t (nI_le (by omega) (by omega)) (h q ?_ fun r hr => ?_)
      · rcases hq with hq | ⟨j, hj, e⟩
        · exact Or.inl hq
        · exact Or.inr (e ▸ hS j (by omega))
      · obtain ⟨j, hj, e⟩ := (hI.2.2 r).mp hr
        exact hn r ⟨j, by omega, e⟩
    | succ d ih =>
      intro i hi q hq hn
      have hPr := hI.1 i (by omega)
      have hPq : gm_P q := by
        rcases hq with hq | ⟨j, hj, e⟩
        · rw [hq]; exact hc
        · rw [← e]; exact hI.1 j (by omega)
      have pq : q ≠ c → 0 < gm_ph a b c q := by
        intro hne
        rcases hq with hq | ⟨j, hj, e⟩
        · exact absurd hq hne
        · exact hE q (e ▸ hS j (by omega)) hne
      have pr : a1 i ≠ c → 0 < gm_ph a b c (a1 i) := hE _ (hS i (by omega))
      have vin : vp_in (nI i) 24 := vp_in_nI (by omega) (by omega)
      have keep : gm_Ns 1 c q (a1 i) → wX_rightmostFrom_4 post c fp (nI N) a0 a1 a2 a3 (d + 1) q (nI (i + 1)) := by
        intro hk
        refine ih (i + 1) (by omega) q ?_ fun r hr => ?_
        · rcases hq with hq | ⟨j, hj, e⟩
          · exact Or.inl hq
          · exact Or.inr ⟨j, by omega, e⟩
        · obtain ⟨j, hj, e⟩ := hr
          by_cases ej : j = i
          · rw [← e, ej]; exact hk
          · exact hn r ⟨j, by omega, e⟩
      have take : ¬ gm_Ns 1 c q (a1 i) → wX_rightmostFrom_4 post c fp (nI N) a0 a1 a2 a3 (d + 1) (a1 i) (nI (i + 1)) := by
        intro hk
        refine ih (i + 1) (by omega) (a1 i) (Or.inr ⟨i, by omega, rfl⟩) fun r hr => ?_
        refine gm_stp (S := fun r => ∃ j, j < i ∧ a1 j = r) (Or.inl rfl) (c := c) (w := a1 i) (u := q) ?_ hc ⟨a, b, fun r hr hne => hE r ?_ hne⟩ hq.symm hPq hn hk r ?_
        · rintro r ⟨j, hj, rfl⟩; exact hI.1 j (by omega)
        · rcases hr with ⟨j, hj, e⟩ | e
          · rw [← e]; exact hS j (by omega)
          · rw [e]; exact hS i (by omega)
        · obtain ⟨j, hj, e⟩ := hr
          by_cases ej : j = i
          · exact Or.inr (by rw [← e, ej])
          · exact Or.inl ⟨j, by omega, e⟩
      have B := gm_trB hc hPq hPr
      have B1 := gm_sqB hc hPr
      have B2 := gm_sqB hc hPq
      have e1 := i3_lt0 (i := gm_tr c q (a1 i)) (by omega)
      have e2 := i3_eq0 (i := gm_tr c q (a1 i)) (by omega)
      have e3 := i3_le (i := gm_sq c (a1 i)) (j := gm_sq c q) (by omega) (by omega)
      refine br_f (nI_ge (by omega) (by omega)) ⟨vin, ?_⟩
      rw [nI_clamp (by omega)]
      refine wx_turn ⟨fun hl => ⟨vin, nm_e (nm_r (nI_1 i) (take fun hk => ?_))⟩, fun hl => ⟨fun hz => ⟨vin, wx_square (wx_square ⟨fun hs => nm_r (nI_1 i) (keep ?_), fun hs => ⟨vin, nm_e (nm_r (nI_1 i) (take fun hk => ?_))⟩⟩)⟩, fun hz => nm_r (nI_1 i) (keep ?_)⟩⟩
      · have := e1.mp hl
        have := hk.1
        omega
      · have z := e2.mp hz
        exact ⟨by rw [z]; decide, fun _ => (gm_sqN hc hPq hPr pq pr z).mp (e3.mp hs)⟩
      · have z := e2.mp hz
        exact hs (e3.mpr ((gm_sqN hc hPq hPr pq pr z).mpr (hk.2 z)))
      · have n1 := mt e1.mpr hl
        have n2 := mt e2.mpr hz
        exact ⟨by omega, fun z => absurd z n2⟩
  exact ⟨_, key N 0 (by omega) c (Or.inl rfl) (fun r ⟨j, hj, _⟩ => by omega)⟩
/-- what the wrapping has found so far -/
def wr_P (S : Int32 → Prop) (o : Int32) (L : Nat → Int32) (n : Nat) : Prop := L 0 = o ∧ ∀ j, j < n → gm_nx S (L j) (L (j + 1)) ∧ L (j + 1) ≠ L 0
theorem wr_inj {S : Int32 → Prop} (hS : ∀ r, S r → gm_P r) {o : Int32} (ho : S o) {L : Nat → Int32} {n : Nat} (h : wr_P S o L n) : ∀ i j, i < j → j ≤ n → L i ≠ L j := by
  have hs : ∀ j, j ≤ n → S (L j) := by
    intro j hj
    cases j with
    | zero => rw [h.1]; exact ho
    | succ j => exact (h.2 j hj).1.1
  intro i
  induction i with
  | zero =>
    intro j h0 hj e
    obtain ⟨j, rfl⟩ : ∃ x, j = x + 1 := ⟨j - 1, by omega⟩
    exact (h.2 j (by omega)).2 e.symm
  | succ i ih =>
    intro j h0 hj e
    obtain ⟨j, rfl⟩ : ∃ x, j = x + 1 := ⟨j - 1, by omega⟩
    have a := (h.2 i (by omega)).1
    have b := (h.2 j (by omega)).1
    rw [e] at a
    exact ih j (by omega) (by omega) (gm_nxi hS (hs i (by omega)) (hs j (by omega)) a b)
theorem sp_pig {S : Int32 → Prop} {a : Nat → Int32} {N : Nat} (h : sp_I S a N) {L : Nat → Int32} {m : Nat} (hs : ∀ j, j < m → S (L j)) (hi : ∀ i j, i < j → j < m → L i ≠ L j) : m ≤ N := by
  have hf : ∀ j, ∃ i, j < m → (i < N ∧ a i = L j) := by
    intro j
    by_cases c : j < m
    · obtain ⟨i, hi⟩ := (h.2.2 _).mp (hs j c)
      exact ⟨i, fun _ => hi⟩
    · exact ⟨0, fun c' => absurd c' c⟩
  refine ph_pig N m (fun j => (hf j).choose) (fun j hj => ((hf j).choose_spec hj).1) (fun i j hij hj e => hi i j hij hj ?_)
  have e1 := ((hf i).choose_spec (by omega)).2
  have e2 := ((hf j).choose_spec hj).2
  have e : (hf i).choose = (hf j).choose := e
  rw [← e1, ← e2, e]
theorem sp_P {S : Int32 → Prop} {a : Nat → Int32} {N : Nat} (h : sp_I S a N) : ∀ r, S r → gm_P r := by
  intro r hr
  obtain ⟨i, hi, e⟩ := (h.2.2 r).mp hr
  rw [← e]; exact h.1 i hi
theorem sp_mn {S : Int32 → Prop} {a : Nat → Int32} {N : Nat} (h : sp_I S a N) (h0 : 0 < N) : gm_mn S (a 0) := by
  refine ⟨(h.2.2 _).mpr ⟨0, h0, rfl⟩, fun r hr hn => ?_⟩
  obtain ⟨i, hi, e⟩ := (h.2.2 r).mp hr
  have : i ≠ 0 := fun z => hn (by rw [← e, z])
  rw [← e]; exact h.2.1 0 i (by omega) hi
theorem wx_wrap_ring {post : Int32 → SX → Prop} {fp : Int32} {a0 a1 a2 a3 : Nat → Int32} {S : Int32 → Prop} {N : Nat} (hN : N ≤ 24) (h0 : 0 < N) (hI : sp_I S a1 N)
    (h : ∀ m L, m ≤ 24 → gm_cyc S L m → post (nI m) (fp, nI N, a0, a1, L, a3)) : wpX_wrap__ring post (fp, nI N, a0, a1, a2, a3) := by
  have hS := sp_P hI
  have ho := sp_mn hI h0
  have key : ∀ d n, n + d + 1 = N → ∀ L c, wr_P S (a1 0) (upd L n c) n → wX_wrap__ring_9 post fp (nI N) (d + 1) c (nI n) a0 a1 L a3 := by
    intro d
    induction d with
    | zero =>
      intro n hn L c hw
      have ec : upd L n c n = c := pk_us
      have hcS : S c := by
        cases n with
        | zero => rw [← ec, hw.1]; exact ho.1
        | succ n => rw [← ec]; exact (hw.2 n (by omega)).1.1
      have hcE : gm_E S c := by
        cases n with
        | zero => rw [← ec, hw.1]; exact gm_mnE ho
        | succ n =>
          have x := (hw.2 n (by omega)).1
          rw [ec] at x
          have y : S (upd L (n + 1) c n) := by
            cases n with
            | zero => rw [hw.1]; exact ho.1
            | succ n => exact (hw.2 n (by omega)).1.1
          exact gm_nxE hS (hS _ y) x
      refine ⟨vp_in_nI (by omega) (by omega), nm_e (nm_r (nI_1 n) (wx_rightmost hN hI (hS c hcS) hcE fun q hq hnx => ?_))⟩
      have hnx : gm_nx S c q := ⟨hq.elim (fun e => e ▸ hcS) id, fun r hr => gm_N1.mpr (hnx r hr)⟩
      rw [nI_clamp (by omega)]
      have fin : q = a1 0 → gm_cyc S (upd L n c) (n + 1) := by
        intro e
        refine ⟨by omega, hw.1 ▸ ho, fun i hi => hw.2 i (by omega), ?_⟩
        rw [show n + 1 - 1 = n by omega, ec, hw.1, ← e]; exact hnx
      refine ⟨fun e => h _ _ (by omega) (fin e), fun e => ?_⟩
      have hw2 : wr_P S (a1 0) (upd (upd L n c) (n + 1) q) (n + 1) := by
        have z : upd (upd L n c) (n + 1) q 0 = a1 0 := (pk_un (by omega)).trans hw.1
        refine ⟨z, fun j hj => ?_⟩
        rw [z]
        by_cases ej : j = n
        · rw [ej, pk_us, pk_un (by omega), ec]; exact ⟨hnx, e⟩
        · have q1 : upd (upd L n c) (n + 1) q j = upd L n c j := pk_un (by omega)
          have q2 : upd (upd L n c) (n + 1) q (j + 1) = upd L n c (j + 1) := pk_un (by omega)
          rw [q1, q2, ← hw.1]; exact hw.2 j (by omega)
      exfalso
      have pg := sp_pig hI (L := upd (upd L n c) (n + 1) q) (m := n + 2) (fun j hj => by
        cases j with
        | zero => rw [hw2.1]; exact ho.1
        | succ j => exact (hw2.2 j (by omega)).1.1) (fun i j hij hj => wr_inj hS ho.1 hw2 i j hij (by omega))
      omega
    | succ d ih =>
      intro n hn L c hw
      have ec : upd L n c n = c := pk_us
      have hcS : S c := by
        cases n with
        | zero => rw [← ec, hw.1]; exact ho.1
        | succ n => rw [← ec]; exact (hw.2 n (by omega)).1.1
      have hcE : gm_E S c := by
        cases n with
        | zero => rw [← ec, hw.1]; exact gm_mnE ho
        | succ n =>
          have x := (hw.2 n (by omega)).1
          rw [ec] at x
          have y : S (upd L (n + 1) c n) := by
            cases n with
            | zero => rw [hw.1]; exact ho.1
            | succ n => exact (hw.2 n (by omega)).1.1
          exact gm_nxE hS (hS _ y) x
      refine ⟨vp_in_nI (by omega) (by omega), nm_e (nm_r (nI_1 n) (wx_rightmost hN hI (hS c hcS) hcE fun q hq hnx => ?_))⟩
      have hnx : gm_nx S c q := ⟨hq.elim (fun e => e ▸ hcS) id, fun r hr => gm_N1.mpr (hnx r hr)⟩
      rw [nI_clamp (by omega)]
      have fin : q = a1 0 → gm_cyc S (upd L n c) (n + 1) := by
        intro e
        refine ⟨by omega, hw.1 ▸ ho, fun i hi => hw.2 i (by omega), ?_⟩
        rw [show n + 1 - 1 = n by omega, ec, hw.1, ← e]; exact hnx
      refine ⟨fun e => h _ _ (by omega) (fin e), fun e => br_t (nI_lt (by omega) (by omega)) (ih (n + 1) (by omega) _ q ?_)⟩
      have z : upd (upd L n c) (n + 1) q 0 = a1 0 := (pk_un (by omega)).trans hw.1
      refine ⟨z, fun j hj => ?_⟩
      rw [z]
      by_cases ej : j = n
      · rw [ej, pk_us, pk_un (by omega), ec]; exact ⟨hnx, e⟩
      · have q1 : upd (upd L n c) (n + 1) q j = upd L n c j := pk_un (by omega)
        have q2 : upd (upd L n c) (n + 1) q (j + 1) = upd L n c (j + 1) := pk_un (by omega)
        rw [q1, q2, ← hw.1]; exact hw.2 j (by omega)
  exact nm_e ⟨_, key (N - 1) 0 (by omega) a2 (a1 0) ⟨pk_us, fun j hj => by omega⟩⟩
theorem wx_wrap_otherRing {post : Int32 → SX → Prop} {fp : Int32} {a0 a1 a2 a3 : Nat → Int32} {S : Int32 → Prop} {N : Nat} (hN : N ≤ 24) (h0 : 0 < N) (hI : sp_I S a1 N)
    (h : ∀ m L, m ≤ 24 → gm_cyc S L m → post (nI m) (fp, nI N, a0, a1, a2, L)) : wpX_wrap__otherRing post (fp, nI N, a0, a1, a2, a3) := by
  have hS := sp_P hI
  have ho := sp_mn hI h0
  have key : ∀ d n, n + d + 1 = N → ∀ L c, wr_P S (a1 0) (upd L n c) n → wX_wrap__otherRing_9 post fp (nI N) (d + 1) c (nI n) a0 a1 a2 L := by
    intro d
    induction d with
    | zero =>
      intro n hn L c hw
      have ec : upd L n c n = c := pk_us
      have hcS : S c := by
        cases n with
        | zero => rw [← ec, hw.1]; exact ho.1
        | succ n => rw [← ec]; exact (hw.2 n (by omega)).1.1
      have hcE : gm_E S c := by
        cases n with
        | zero => rw [← ec, hw.1]; exact gm_mnE ho
        | succ n =>
          have x := (hw.2 n (by omega)).1
          rw [ec] at x
          have y : S (upd L (n + 1) c n) := by
            cases n with
            | zero => rw [hw.1]; exact ho.1
            | succ n => exact (hw.2 n (by omega)).1.1
          exact gm_nxE hS (hS _ y) x
      refine ⟨vp_in_nI (by omega) (by omega), nm_e (nm_r (nI_1 n) (wx_rightmost hN hI (hS c hcS) hcE fun q hq hnx => ?_))⟩
      have hnx : gm_nx S c q := ⟨hq.elim (fun e => e ▸ hcS) id, fun r hr => gm_N1.mpr (hnx r hr)⟩
      rw [nI_clamp (by omega)]
      have fin : q = a1 0 → gm_cyc S (upd L n c) (n + 1) := by
        intro e
        refine ⟨by omega, hw.1 ▸ ho, fun i hi => hw.2 i (by omega), ?_⟩
        rw [show n + 1 - 1 = n by omega, ec, hw.1, ← e]; exact hnx
      refine ⟨fun e => h _ _ (by omega) (fin e), fun e => ?_⟩
      have hw2 : wr_P S (a1 0) (upd (upd L n c) (n + 1) q) (n + 1) := by
        have z : upd (upd L n c) (n + 1) q 0 = a1 0 := (pk_un (by omega)).trans hw.1
        refine ⟨z, fun j hj => ?_⟩
        rw [z]
        by_cases ej : j = n
        · rw [ej, pk_us, pk_un (by omega), ec]; exact ⟨hnx, e⟩
        · have q1 : upd (upd L n c) (n + 1) q j = upd L n c j := pk_un (by omega)
          have q2 : upd (upd L n c) (n + 1) q (j + 1) = upd L n c (j + 1) := pk_un (by omega)
          rw [q1, q2, ← hw.1]; exact hw.2 j (by omega)
      exfalso
      have pg := sp_pig hI (L := upd (upd L n c) (n + 1) q) (m := n + 2) (fun j hj => by
        cases j with
        | zero => rw [hw2.1]; exact ho.1
        | succ j => exact (hw2.2 j (by omega)).1.1) (fun i j hij hj => wr_inj hS ho.1 hw2 i j hij (by omega))
      omega
    | succ d ih =>
      intro n hn L c hw
      have ec : upd L n c n = c := pk_us
      have hcS : S c := by
        cases n with
        | zero => rw [← ec, hw.1]; exact ho.1
        | succ n => rw [← ec]; exact (hw.2 n (by omega)).1.1
      have hcE : gm_E S c := by
        cases n with
        | zero => rw [← ec, hw.1]; exact gm_mnE ho
        | succ n =>
          have x := (hw.2 n (by omega)).1
          rw [ec] at x
          have y : S (upd L (n + 1) c n) := by
            cases n with
            | zero => rw [hw.1]; exact ho.1
            | succ n => exact (hw.2 n (by omega)).1.1
          exact gm_nxE hS (hS _ y) x
      refine ⟨vp_in_nI (by omega) (by omega), nm_e (nm_r (nI_1 n) (wx_rightmost hN hI (hS c hcS) hcE fun q hq hnx => ?_))⟩
      have hnx : gm_nx S c q := ⟨hq.elim (fun e => e ▸ hcS) id, fun r hr => gm_N1.mpr (hnx r hr)⟩
      rw [nI_clamp (by omega)]
      have fin : q = a1 0 → gm_cyc S (upd L n c) (n + 1) := by
        intro e
        refine ⟨by omega, hw.1 ▸ ho, fun i hi => hw.2 i (by omega), ?_⟩
        rw [show n + 1 - 1 = n by omega, ec, hw.1, ← e]; exact hnx
      refine ⟨fun e => h _ _ (by omega) (fin e), fun e => br_t (nI_lt (by omega) (by omega)) (ih (n + 1) (by omega) _ q ?_)⟩
      have z : upd (upd L n c) (n + 1) q 0 = a1 0 := (pk_un (by omega)).trans hw.1
      refine ⟨z, fun j hj => ?_⟩
      rw [z]
      by_cases ej : j = n
      · rw [ej, pk_us, pk_un (by omega), ec]; exact ⟨hnx, e⟩
      · have q1 : upd (upd L n c) (n + 1) q j = upd L n c j := pk_un (by omega)
        have q2 : upd (upd L n c) (n + 1) q (j + 1) = upd L n c (j + 1) := pk_un (by omega)
        rw [q1, q2, ← hw.1]; exact hw.2 j (by omega)
  exact nm_e ⟨_, key (N - 1) 0 (by omega) a3 (a1 0) ⟨pk_us, fun j hj => by omega⟩⟩
