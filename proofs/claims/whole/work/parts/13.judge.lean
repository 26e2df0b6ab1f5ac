theorem gm_Fi {f t r : Int32} (hf : gm_P f) (ht : gm_P t) (hr : gm_P r) (ne : t ≠ f) : gm_F f t r ↔ (0 ≤ gm_tr f t r ∧ (gm_tr f t r = 0 → r ≠ f → 0 < gm_dt f t r)) := by
  constructor
  · intro h
    refine ⟨h.1, fun z hn => ?_⟩
    have h2 := h.2 z
    by_cases z2 : gm_dt f t r = 0
    · have e : gm_sq t f * gm_sq r f = gm_tr f t r * gm_tr f t r + gm_dt f t r * gm_dt f t r := by unfold gm_sq gm_tr gm_dt; grind
      rw [z, z2, Int.mul_zero] at e
      rcases Int.mul_eq_zero.mp (e.trans (Int.zero_add 0)) with e1 | e1
      · exact absurd (gm_sq0 ht hf (by omega)) ne
      · exact absurd (gm_sq0 hr hf (by omega)) hn
    · omega
  · intro h
    refine ⟨h.1, fun z => ?_⟩
    by_cases c : r = f
    · rw [c]; unfold gm_dt; grind
    · exact Int.le_of_lt (h.2 z c)
theorem wx_all {post : Int32 → Prop} {fp : Int32} {a0 a1 a2 a3 : Nat → Int32} {S : Int32 → Prop} {N : Nat} {f t : Int32} (hN : N ≤ 24) (hI : sp_I S a1 N) (hf : gm_P f) (ht : gm_P t) (ne : t ≠ f)
    (h1 : (∀ r, S r → gm_F f t r) → post 1) (h0 : (∃ r, S r ∧ ¬ gm_F f t r) → post 0) : wpX_allLeftOrAhead post (fp, nI N, a0, a1, a2, a3) f t := by
  have key : ∀ d i, i + d = N → (∀ j, j < i → gm_F f t (a1 j)) → wX_allLeftOrAhead_2 post f t fp (nI N) a0 a1 a2 a3 (d + 1) (nI i) := by
    intro d
    induction d with
    | zero =>
      intro i hi hF
      refine br_t (nI_le (by omega) (by omega)) (h1 fun r hr => ?_)
      obtain ⟨j, hj, e⟩ := (hI.2.2 r).mp hr
      rw [← e]; exact hF j (by omega)
    | succ d ih =>
      intro i hi hF
      have vin : vp_in (nI i) 24 := vp_in_nI (by omega) (by omega)
      have hP := hI.1 i (by omega)
      have hSi : S (a1 i) := (hI.2.2 _).mpr ⟨i, by omega, rfl⟩
      have Bd := gm_trB hf ht hP
      have e1 := i3_lt0 (i := gm_tr f t (a1 i)) (by omega)
      have e2 := i3_eq0 (i := gm_tr f t (a1 i)) (by omega)
      have fi := gm_Fi hf ht hP ne
      have good : gm_F f t (a1 i) → wX_allLeftOrAhead_2 post f t fp (nI N) a0 a1 a2 a3 (d + 1) (nI (i + 1)) := by
        intro hg
        refine ih (i + 1) (by omega) fun j hj => ?_
        by_cases ej : j = i
        · rw [ej]; exact hg
        · exact hF j (by omega)
      have j56 : (¬ gm_tr f t (a1 i) < 0 → gm_F f t (a1 i)) → wX_allLeftOrAhead_56 post (wX_allLeftOrAhead_2 post f t fp (nI N) a0 a1 a2 a3 (d + 1)) f t (nI i) (Int32.ofInt (gm_tr f t (a1 i))) fp (nI N) a0 a1 a2 a3 := by
        intro hg
        refine ⟨fun hl => h0 ⟨_, hSi, fun q => ?_⟩, fun hl => br_t rfl (nm_r (nI_1 i) (good (hg (mt e1.mpr hl))))⟩
        have := e1.mp hl
        have := q.1
        omega
      refine br_f (nI_ge (by omega) (by omega)) ⟨vin, wx_turn ?_⟩
      rw [nI_clamp (by omega)]
      refine ⟨fun hz => ⟨vin, fun he => j56 fun hl => ?_, fun he => ⟨vin, wx_between ht hP hf (fun hd => br_f (by decide) ?_) (fun hd => br_t rfl (j56 fun hl => ?_))⟩⟩, fun hz => j56 fun hl => ?_⟩
      · have z := e2.mp hz
        exact fi.mpr ⟨by omega, fun _ hn => absurd he hn⟩
      · have z := e2.mp hz
        have nF : ¬ gm_F f t (a1 i) := fun q => by
          have := (fi.mp q).2 z he
          omega
        exact ⟨fun _ => h0 ⟨_, hSi, nF⟩, fun _ => br_f (by decide) (h0 ⟨_, hSi, nF⟩)⟩
      · exact fi.mpr ⟨by omega, fun _ _ => hd⟩
      · have z := mt e2.mpr hz
        exact fi.mpr ⟨by omega, fun q => absurd q z⟩
  exact ⟨_, key N 0 (by omega) (fun j hj => by omega)⟩
/-- an outermost point of several sees all others from one of them on -/
theorem gm_EF {S : Int32 → Prop} {a : Nat → Int32} {N : Nat} (hI : sp_I S a N) {c : Int32} (hc : S c) (hE : gm_E S c) : (∀ r, S r → r = c) ∨ ∃ q, S q ∧ q ≠ c ∧ ∀ r, S r → gm_F c q r := by
  have hS := sp_P hI
  have e : S = fun r => ∃ i, i < N ∧ a i = r := funext fun r => propext (hI.2.2 r)
  obtain ⟨q, hq, h⟩ := gm_nxX (s := 1) (Or.inl rfl) (hS c hc) a N hI.1 (e ▸ hE)
  have h' : ∀ r, S r → gm_N c q r := fun r hr => gm_N1.mpr (h r ((hI.2.2 r).mp hr))
  by_cases ne : q = c
  · refine Or.inl fun r hr => ?_
    have := h' r hr
    rw [ne] at this
    exact gm_uc (hS c hc) (hS r hr) (gm_N1.mp this)
  · have hqS : S q := hq.elim (fun z => absurd z ne) (fun z => (hI.2.2 q).mpr z)
    exact Or.inr ⟨q, hqS, ne, gm_nxF ⟨hqS, h'⟩⟩
theorem wx_stands {post : Int32 → Prop} {fp : Int32} {a0 a1 a2 a3 : Nat → Int32} {S : Int32 → Prop} {N : Nat} {c : Int32} (hN : N ≤ 24) (hI : sp_I S a1 N) (hc : S c)
    (h1 : gm_E S c → post 1) (h0 : ¬ gm_E S c → post 0) : wpX_standsOut post (fp, nI N, a0, a1, a2, a3) c := by
  have hS := sp_P hI
  have key : ∀ d i, i + d = N → (∀ j, j < i → a1 j ≠ c → ∃ r, S r ∧ ¬ gm_F c (a1 j) r) → wX_standsOut_2 post c fp (nI N) a0 a1 a2 a3 (d + 1) (nI i) := by
    intro d
    induction d with
    | zero =>
      intro i hi hF
      refine br_t (nI_le (by omega) (by omega)) (pk_eq N 1 (fun e => h1 ?_) (fun e => h0 ?_))
      · obtain ⟨k, hk, ek⟩ := (hI.2.2 c).mp hc
        refine ⟨0, 0, fun r hr hn => ?_⟩
        obtain ⟨j, hj, ej⟩ := (hI.2.2 r).mp hr
        exact absurd (by rw [← ej, ← ek, show j = k by omega]) hn
      · intro hE
        rcases gm_EF hI hc hE with q | ⟨q, hq, hn, hF'⟩
        · have N2 : 2 ≤ N := by
            obtain ⟨k, hk, ek⟩ := (hI.2.2 c).mp hc
            omega
          have a := q (a1 0) ((hI.2.2 _).mpr ⟨0, by omega, rfl⟩)
          have b := q (a1 1) ((hI.2.2 _).mpr ⟨1, by omega, rfl⟩)
          have := hI.2.1 0 1 (by omega) (by omega)
          rw [a, b] at this
          omega
        · obtain ⟨j, hj, ej⟩ := (hI.2.2 q).mp hq
          obtain ⟨r, hr, hnF⟩ := hF j (by omega) (ej ▸ hn)
          exact hnF (ej ▸ hF' r hr)
    | succ d ih =>
      intro i hi hF
      have vin : vp_in (nI i) 24 := vp_in_nI (by omega) (by omega)
      have hSi : S (a1 i) := (hI.2.2 _).mpr ⟨i, by omega, rfl⟩
      refine br_f (nI_ge (by omega) (by omega)) ⟨vin, ?_⟩
      rw [nI_clamp (by omega)]
      refine ⟨fun e => nm_r (nI_1 i) (ih (i + 1) (by omega) fun j hj hn => ?_), fun e => ⟨vin, wx_all hN hI (hS c hc) (hI.1 i (by omega)) e (fun hall => br_f (by decide) (h1 (gm_FE hS (hS c hc) (hI.1 i (by omega)) e hall))) (fun hno => br_t rfl (nm_r (nI_1 i) (ih (i + 1) (by omega) fun j hj hn => ?_)))⟩⟩
      · by_cases ej : j = i
        · rw [ej] at hn; exact absurd e hn
        · exact hF j (by omega) hn
      · by_cases ej : j = i
        · rw [ej]; exact hno
        · exact hF j (by omega) hn
  exact ⟨_, key N 0 (by omega) (fun j hj => by omega)⟩
/-- corners sorted by direction are the reference's -/
theorem jd_ref {S : Int32 → Prop} (hS : ∀ r, S r → gm_P r) {a L : Nat → Int32} {n : Nat} (h0 : 0 < n) (hm : gm_mn S (a 0)) (hE : ∀ p, (S p ∧ gm_E S p) ↔ ∃ i, i < n ∧ a i = p) (h : sa_I a L n) : gm_ref S L n := by
  obtain ⟨i0, i1, i2, i3, i4⟩ := h
  have hL : ∀ p, (S p ∧ gm_E S p) ↔ ∃ i, i < n ∧ L i = p := by
    intro p
    rw [hE p]
    constructor
    · rintro ⟨i, hi, e⟩
      obtain ⟨k, hk, e'⟩ := i3 i hi
      exact ⟨k, hk, e'.trans e⟩
    · rintro ⟨i, hi, e⟩
      obtain ⟨k, hk, e'⟩ := i2 i hi
      exact ⟨k, hk, e'.symm.trans e⟩
  have hs := fun i (hi : i < n) => (hL _).mpr ⟨i, hi, rfl⟩
  have ne : ∀ i, 0 < i → i < n → L i ≠ L 0 := by
    intro i hi hn e
    have := i4 0 i hi hn
    rw [e, i0] at this
    unfold gm_B at this
    rw [gm_prr] at this
    omega
  refine ⟨hL, fun _ => i0 ▸ hm, ne, fun i j hi hij hj => ?_⟩
  have q := i4 i j hij hj
  have si := hs i (by omega)
  have sj := hs j hj
  rw [sa_B (hS _ si.1) (hS _ sj.1)] at q
  rw [i0]
  rcases q with q | ⟨q, ql⟩
  · exact q
  exfalso
  have li := hm.2 _ si.1 (i0 ▸ ne i hi (by omega))
  have lj := hm.2 _ sj.1 (i0 ▸ ne j (by omega) hj)
  have a1 := gm_Eseg si.2 hm.1 sj.1 (fun e => by rw [e] at li; omega) (fun e => by rw [e] at ql; omega) (by rw [gm_swq]; omega)
  have a2 := (gm_seg (a := 64) (b := 1) (c := a 0) (u := L j) (r := L i) (by rw [gm_phl]; omega) (by rw [gm_phl]; omega) (by rw [gm_swp]; omega)).mpr (by rw [gm_phl, gm_phl]; omega)
  omega
theorem wx_judge_ring {post : Int32 → SX → Prop} {fp : Int32} {a0 a1 a2 a3 : Nat → Int32} {S : Int32 → Prop} {N : Nat} (hN : N ≤ 24) (h0 : 0 < N) (hI : sp_I S a1 N)
    (h : ∀ m L, m ≤ 24 → gm_ref S L m → post (nI m) (fp, nI N, a0, a1, L, a3)) : wpX_judge__ring post (fp, nI N, a0, a1, a2, a3) := by
  have hS := sp_P hI
  have mn := sp_mn hI h0
  have key : ∀ d i, i + d = N → ∀ L n, n ≤ i → (∀ k, k < n → ∃ j, j < i ∧ L k = a1 j ∧ gm_E S (a1 j)) → (∀ j, j < i → gm_E S (a1 j) → ∃ k, k < n ∧ L k = a1 j) → (∀ k k', k < k' → k' < n → gm_la (L k) < gm_la (L k')) → (0 < i → 0 < n ∧ L 0 = a1 0) →
      wX_judge__ring_4 post fp (nI N) (d + 1) (nI n) (nI i) a0 a1 L a3 := by
    intro d
    induction d with
    | zero =>
      intro i hi L n hn c1 c2 c3 c4
      refine br_t (nI_le (by omega) (by omega)) (wx_sort_ring (by omega) (fun k hk => ?_) c3 (fun M hM => h n M (by omega) (jd_ref hS (a := L) (c4 (by omega)).1 ((c4 (by omega)).2 ▸ mn) (fun p => ?_) hM)))
      · obtain ⟨j, hj, e, _⟩ := c1 k hk
        rw [e]; exact hI.1 j (by omega)
      · constructor
        · rintro ⟨hp, hE⟩
          obtain ⟨j, hj, e⟩ := (hI.2.2 p).mp hp
          obtain ⟨k, hk, e'⟩ := c2 j (by omega) (e ▸ hE)
          exact ⟨k, hk, e'.trans e⟩
        · rintro ⟨k, hk, e⟩
          obtain ⟨j, hj, e', hE⟩ := c1 k hk
          have : a1 j = p := e'.symm.trans e
          exact ⟨(hI.2.2 p).mpr ⟨j, by omega, this⟩, this ▸ hE⟩
    | succ d ih =>
      intro i hi L n hn c1 c2 c3 c4
      have hSi : S (a1 i) := (hI.2.2 _).mpr ⟨i, by omega, rfl⟩
      have vin : vp_in (nI i) 24 := vp_in_nI (by omega) (by omega)
      refine br_f (nI_ge (by omega) (by omega)) ⟨vin, ?_⟩
      rw [nI_clamp (n := i) (by omega), nI_clamp (n := n) (by omega)]
      refine wx_stands hN hI hSi (fun hE => br_f (by decide) ⟨vin, vp_in_nI (by omega) (by omega), nm_e (nm_r (nI_1 n) (nm_r (nI_1 i) ?_))⟩) (fun hE => br_t rfl (nm_r (nI_1 i) (ih (i + 1) (by omega) L n (by omega) ?_ ?_ c3 ?_)))
      · refine ih (i + 1) (by omega) _ (n + 1) (by omega) (fun k hk => ?_) (fun j hj hEj => ?_) (fun k k' hkk hk' => ?_) (fun _ => ⟨by omega, ?_⟩)
        · by_cases ek : k = n
          · exact ⟨i, by omega, by rw [ek, pk_us], hE⟩
          · obtain ⟨j, hj, e, q⟩ := c1 k (by omega)
            exact ⟨j, by omega, by rw [pk_un ek, e], q⟩
        · by_cases ej : j = i
          · exact ⟨n, by omega, by rw [pk_us, ej]⟩
          · obtain ⟨k, hk, e⟩ := c2 j (by omega) hEj
            exact ⟨k, by omega, by rw [pk_un (by omega), e]⟩
        · by_cases ek : k' = n
          · rw [ek, pk_us, pk_un (by omega)]
            obtain ⟨j, hj, e, q⟩ := c1 k (by omega)
            rw [e]; exact hI.2.1 j i hj (by omega)
          · rw [pk_un ek, pk_un (by omega)]; exact c3 k k' hkk (by omega)
        · by_cases ei : i = 0
          · rw [show n = 0 by omega, pk_us, ei]
          · obtain ⟨q1, q2⟩ := c4 (by omega)
            rw [pk_un (by omega), q2]
      · intro k hk
        obtain ⟨j, hj, e, q⟩ := c1 k hk
        exact ⟨j, by omega, e, q⟩
      · intro j hj hEj
        by_cases ej : j = i
        · rw [ej] at hEj; exact absurd hEj hE
        · exact c2 j (by omega) hEj
      · intro _
        by_cases ei : i = 0
        · rw [ei] at hE; exact absurd (gm_mnE mn) hE
        · exact c4 (by omega)
  exact ⟨_, key N 0 (by omega) _ 0 (by omega) (fun k hk => by omega) (fun j hj => by omega) (fun k k' _ hk => by omega) (fun q => by omega)⟩
theorem wx_find_ring {post : Int32 → SX → Prop} {fp fs eng : Int32} {a0 a1 a2 a3 : Nat → Int32} (hP : ∀ k, k < 24 → gm_P (a0 k)) (he : en_E eng)
    (h : ∀ m L b f, m ≤ 24 → gm_ref (pl_S fp a0 24) L m → post (nI m) (fp, f, a0, b, L, a3)) : wpX_findCorners__ring post (fp, fs, a0, a1, a2, a3) eng := by
  unfold wpX_findCorners__ring
  refine wx_gather hP (fun b N hN hI => ?_)
  have hS := sp_P hI
  refine pk_eq N 0 (fun e => ?_) (fun e => ?_)
  · refine h 0 _ b _ (by omega) ⟨fun p => ⟨fun hp => ?_, fun ⟨i, hi, _⟩ => by omega⟩, fun q => by omega, fun i _ q => by omega, fun i j _ _ q => by omega⟩
    obtain ⟨i, hi, _⟩ := (hI.2.2 p).mp hp.1
    omega
  have h0 : 0 < N := by omega
  have q0 : ¬ eng < 0 := by
    intro c
    have := Int32.lt_iff_toInt_lt.mp c
    have := he.1
    have z : (0 : Int32).toInt = 0 := rfl
    omega
  refine br_f q0 ⟨fun c => wx_judge_ring hN h0 hI (fun m L hm hr => h m L b _ hm hr), fun c => ⟨fun _ => wx_wrap_ring hN h0 hI (fun m L hm hr => h m L b _ hm (gm_cr hS hr)), fun c0 => ⟨fun _ => wx_chain_ring hN h0 hI (fun m L hm hr => h m L b _ hm (gm_cr hS hr)), fun c1 => ⟨fun _ => wx_scan_ring hN h0 hI (fun m L b' hm hr => h m L b' _ hm (gm_cr hS hr)), fun c2 => ⟨fun _ => wx_split_ring hN h0 hI (fun m L hm hr => h m L b _ hm (gm_cr hS hr)), fun c3 => ⟨fun _ => wx_grow_ring hN h0 hI (fun m L hm hr => h m L b _ hm (gm_cr hS hr)), fun _ => trivial⟩⟩⟩⟩⟩⟩
theorem wx_judge_otherRing {post : Int32 → SX → Prop} {fp : Int32} {a0 a1 a2 a3 : Nat → Int32} {S : Int32 → Prop} {N : Nat} (hN : N ≤ 24) (h0 : 0 < N) (hI : sp_I S a1 N)
    (h : ∀ m L, m ≤ 24 → gm_ref S L m → post (nI m) (fp, nI N, a0, a1, a2, L)) : wpX_judge__otherRing post (fp, nI N, a0, a1, a2, a3) := by
  have hS := sp_P hI
  have mn := sp_mn hI h0
  have key : ∀ d i, i + d = N → ∀ L n, n ≤ i → (∀ k, k < n → ∃ j, j < i ∧ L k = a1 j ∧ gm_E S (a1 j)) → (∀ j, j < i → gm_E S (a1 j) → ∃ k, k < n ∧ L k = a1 j) → (∀ k k', k < k' → k' < n → gm_la (L k) < gm_la (L k')) → (0 < i → 0 < n ∧ L 0 = a1 0) →
      wX_judge__otherRing_4 post fp (nI N) (d + 1) (nI n) (nI i) a0 a1 a2 L := by
    intro d
    induction d with
    | zero =>
      intro i hi L n hn c1 c2 c3 c4
      refine br_t (nI_le (by omega) (by omega)) (wx_sort_otherRing (by omega) (fun k hk => ?_) c3 (fun M hM => h n M (by omega) (jd_ref hS (a := L) (c4 (by omega)).1 ((c4 (by omega)).2 ▸ mn) (fun p => ?_) hM)))
      · obtain ⟨j, hj, e, _⟩ := c1 k hk
        rw [e]; exact hI.1 j (by omega)
      · constructor
        · rintro ⟨hp, hE⟩
          obtain ⟨j, hj, e⟩ := (hI.2.2 p).mp hp
          obtain ⟨k, hk, e'⟩ := c2 j (by omega) (e ▸ hE)
          exact ⟨k, hk, e'.trans e⟩
        · rintro ⟨k, hk, e⟩
          obtain ⟨j, hj, e', hE⟩ := c1 k hk
          have : a1 j = p := e'.symm.trans e
          exact ⟨(hI.2.2 p).mpr ⟨j, by omega, this⟩, this ▸ hE⟩
    | succ d ih =>
      intro i hi L n hn c1 c2 c3 c4
      have hSi : S (a1 i) := (hI.2.2 _).mpr ⟨i, by omega, rfl⟩
      have vin : vp_in (nI i) 24 := vp_in_nI (by omega) (by omega)
      refine br_f (nI_ge (by omega) (by omega)) ⟨vin, ?_⟩
      rw [nI_clamp (n := i) (by omega), nI_clamp (n := n) (by omega)]
      refine wx_stands hN hI hSi (fun hE => br_f (by decide) ⟨vin, vp_in_nI (by omega) (by omega), nm_e (nm_r (nI_1 n) (nm_r (nI_1 i) ?_))⟩) (fun hE => br_t rfl (nm_r (nI_1 i) (ih (i + 1) (by omega) L n (by omega) ?_ ?_ c3 ?_)))
      · refine ih (i + 1) (by omega) _ (n + 1) (by omega) (fun k hk => ?_) (fun j hj hEj => ?_) (fun k k' hkk hk' => ?_) (fun _ => ⟨by omega, ?_⟩)
        · by_cases ek : k = n
          · exact ⟨i, by omega, by rw [ek, pk_us], hE⟩
          · obtain ⟨j, hj, e, q⟩ := c1 k (by omega)
            exact ⟨j, by omega, by rw [pk_un ek, e], q⟩
        · by_cases ej : j = i
          · exact ⟨n, by omega, by rw [pk_us, ej]⟩
          · obtain ⟨k, hk, e⟩ := c2 j (by omega) hEj
            exact ⟨k, by omega, by rw [pk_un (by omega), e]⟩
        · by_cases ek : k' = n
          · rw [ek, pk_us, pk_un (by omega)]
            obtain ⟨j, hj, e, q⟩ := c1 k (by omega)
            rw [e]; exact hI.2.1 j i hj (by omega)
          · rw [pk_un ek, pk_un (by omega)]; exact c3 k k' hkk (by omega)
        · by_cases ei : i = 0
          · rw [show n = 0 by omega, pk_us, ei]
          · obtain ⟨q1, q2⟩ := c4 (by omega)
            rw [pk_un (by omega), q2]
      · intro k hk
        obtain ⟨j, hj, e, q⟩ := c1 k hk
        exact ⟨j, by omega, e, q⟩
      · intro j hj hEj
        by_cases ej : j = i
        · rw [ej] at hEj; exact absurd hEj hE
        · exact c2 j (by omega) hEj
      · intro _
        by_cases ei : i = 0
        · rw [ei] at hE; exact absurd (gm_mnE mn) hE
        · exact c4 (by omega)
  exact ⟨_, key N 0 (by omega) _ 0 (by omega) (fun k hk => by omega) (fun j hj => by omega) (fun k k' _ hk => by omega) (fun q => by omega)⟩
theorem wx_find_otherRing {post : Int32 → SX → Prop} {fp fs eng : Int32} {a0 a1 a2 a3 : Nat → Int32} (hP : ∀ k, k < 24 → gm_P (a0 k)) (he : en_E eng)
    (h : ∀ m L b f, m ≤ 24 → gm_ref (pl_S fp a0 24) L m → post (nI m) (fp, f, a0, b, a2, L)) : wpX_findCorners__otherRing post (fp, fs, a0, a1, a2, a3) eng := by
  unfold wpX_findCorners__otherRing
  refine wx_gather hP (fun b N hN hI => ?_)
  have hS := sp_P hI
  refine pk_eq N 0 (fun e => ?_) (fun e => ?_)
  · refine h 0 _ b _ (by omega) ⟨fun p => ⟨fun hp => ?_, fun ⟨i, hi, _⟩ => by omega⟩, fun q => by omega, fun i _ q => by omega, fun i j _ _ q => by omega⟩
    obtain ⟨i, hi, _⟩ := (hI.2.2 p).mp hp.1
    omega
  have h0 : 0 < N := by omega
  have q0 : ¬ eng < 0 := by
    intro c
    have := Int32.lt_iff_toInt_lt.mp c
    have := he.1
    have z : (0 : Int32).toInt = 0 := rfl
    omega
  refine br_f q0 ⟨fun c => wx_judge_otherRing hN h0 hI (fun m L hm hr => h m L b _ hm hr), fun c => ⟨fun _ => wx_wrap_otherRing hN h0 hI (fun m L hm hr => h m L b _ hm (gm_cr hS hr)), fun c0 => ⟨fun _ => wx_chain_otherRing hN h0 hI (fun m L hm hr => h m L b _ hm (gm_cr hS hr)), fun c1 => ⟨fun _ => wx_scan_otherRing hN h0 hI (fun m L b' hm hr => h m L b' _ hm (gm_cr hS hr)), fun c2 => ⟨fun _ => wx_split_otherRing hN h0 hI (fun m L hm hr => h m L b _ hm (gm_cr hS hr)), fun c3 => ⟨fun _ => wx_grow_otherRing hN h0 hI (fun m L hm hr => h m L b _ hm (gm_cr hS hr)), fun _ => trivial⟩⟩⟩⟩⟩⟩
theorem wx_hullOf {post : Int32 → SX → Prop} {fp fs x : Int32} {a0 a1 a2 a3 : Nat → Int32} (hP : ∀ k, k < 24 → gm_P (a0 k))
    (h : ∀ m L b f, m ≤ 24 → (m = 0 ∧ (∀ r, ¬ pl_S x a0 24 r) ∨ gm_cyc (pl_S x a0 24) L m) → post (nI m) (fp, f, a0, b, L, a3)) : wpX_hullOf post (fp, fs, a0, a1, a2, a3) x := by
  unfold wpX_hullOf
  refine wx_gather hP (fun b N hN hI => ?_)
  refine pk_eq N 0 (fun e => h 0 _ b _ (by omega) (Or.inl ⟨rfl, fun r hr => ?_⟩)) (fun e => wx_wrap_ring hN (by omega) hI (fun m L hm hr => h m L b _ hm (Or.inr hr)))
  obtain ⟨i, hi, _⟩ := (hI.2.2 r).mp hr
  omega
