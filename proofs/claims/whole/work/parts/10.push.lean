theorem ch_lo {S : Int32 → Prop} {a : Nat → Int32} {N : Nat} (h : sp_I S a N) : ch_o 0 1 0 a N := by
  intro i j hij hj
  have := h.2.1 i j hij hj
  unfold gm_B
  omega
theorem ch_up {S : Int32 → Prop} {a : Nat → Int32} {N : Nat} (h : sp_I S a N) : ch_o 0 (-1) 0 (fun j => a (N - 1 - j)) N := by
  intro i j hij hj
  have := h.2.1 (N - 1 - j) (N - 1 - i) (by omega) (by omega)
  unfold gm_B
  dsimp only
  omega
/-- the lower and the upper chain share their ends alone -/
theorem ch_bnd {S : Int32 → Prop} {a : Nat → Int32} {N l u i : Nat} {ix iy : Nat → Nat} (h : sp_I S a N) (h1 : ch_I a N l ix) (hi : i ≤ N) (h2 : ch_I (fun j => a (N - 1 - j)) i u iy) : l + u ≤ N + 2 := by
  have l1 := fun j (hj : j < l) => ch_lt h1 hj
  have l2 := fun j (hj : j < u) => ch_lt h2 hj
  by_cases cu : u < 2
  · have := h1.2.1
    omega
  have hpos : ∀ j, 0 < j → j < u → 0 < iy j := by
    intro j h0 hj
    have := h2.2.2.2.2.1 0 j h0 hj
    omega
  have cross : ∀ j k, j < l → 0 < k → k + 1 < u → ix j ≠ N - 1 - iy k := by
    intro j k hj hk0 hk e
    have p0 := hpos k hk0 (by omega)
    have q1 := l1 j hj
    have q2 := l2 k (by omega)
    have q3 := h2.2.2.2.2.1 k (u - 1) (by omega) (by omega)
    have q4 := h2.2.2.2.1
    by_cases ej : j = l - 1
    · have := h1.2.2.2.1
      rw [← ej] at this
      omega
    have A := ch_last (ch_up h) hi h2 (j := k) (r := 0) hk p0
    have B := ch_last (ch_lo h) (Nat.le_refl N) h1 (j := j) (r := N - i) (by omega) (by omega)
    rw [← e, show N - 1 - 0 = N - 1 by omega, show N - 1 - (i - 1) = N - i by omega] at A
    have e2 : gm_tr (a (N - i)) (a (ix j)) (a (N - 1)) = - gm_tr (a (N - 1)) (a (ix j)) (a (N - i)) := by unfold gm_tr; grind
    omega
  have := ph_pig N (l + (u - 2)) (fun j => if j < l then ix j else N - 1 - iy (j - l + 1)) (fun j hj => by
    by_cases c : j < l
    · simp only [c, if_true]; exact l1 j c
    · have := l2 (j - l + 1) (by omega)
      simp only [c, if_false]; omega) (fun j k hjk hk => by
    by_cases c : j < l
    · by_cases d : k < l
      · simp only [c, d, if_true]
        have := h1.2.2.2.2.1 j k hjk d
        omega
      · simp only [c, d, if_true, if_false]
        exact cross j (k - l + 1) c (by omega) (by omega)
    · have d : ¬ k < l := by omega
      simp only [c, d, if_false]
      have := h2.2.2.2.2.1 (j - l + 1) (k - l + 1) (by omega) (by omega)
      have := l2 (k - l + 1) (by omega)
      omega)
  omega
theorem ch_ring {S : Int32 → Prop} {a L : Nat → Int32} {N l u : Nat} {ix iy : Nat → Nat} (h : sp_I S a N) (hN : 2 ≤ N) (h1 : ch_I a N l ix) (h2 : ch_I (fun j => a (N - 1 - j)) N u iy)
    (e1 : ∀ j, j < l → L j = a (ix j)) (e2 : ∀ j, j < u → L (l - 1 + j) = a (N - 1 - iy j)) : gm_cyc S L (l - 1 + u - 1) := by
  have l1 := fun j (hj : j < l) => ch_lt h1 hj
  have l2 := fun j (hj : j < u) => ch_lt h2 hj
  have x0 := h1.2.2.1
  have x1 := h1.2.2.2.1
  have y0 := h2.2.2.1
  have y1 := h2.2.2.2.1
  have lp := h1.1
  have up := h2.1
  have hl2 : 2 ≤ l := by
    apply Classical.byContradiction
    intro c
    rw [show l - 1 = 0 by omega] at x1
    omega
  have hu2 : 2 ≤ u := by
    apply Classical.byContradiction
    intro c
    rw [show u - 1 = 0 by omega] at y1
    omega
  have hS : ∀ j, j < N → S (a j) := fun j hj => (h.2.2 _).mpr ⟨j, hj, rfl⟩
  have o : L 0 = a 0 := by rw [e1 0 (by omega), x0]
  have ne : ∀ j, 0 < j → j < N → a j ≠ a 0 := by
    intro j h0 hj e
    have := h.2.1 0 j h0 hj
    rw [e] at this
    omega
  have nl : ∀ j, j + 1 < l → gm_nx S (a (ix j)) (a (ix (j + 1))) := by
    intro j hj
    refine ⟨hS _ (l1 _ hj), fun r hr => ?_⟩
    obtain ⟨i, hi, e⟩ := (h.2.2 r).mp hr
    rw [← e]
    exact ch_N (ch_lo h) (Nat.le_refl N) h1 hj hi
  have nu : ∀ j, j + 1 < u → gm_nx S (a (N - 1 - iy j)) (a (N - 1 - iy (j + 1))) := by
    intro j hj
    refine ⟨hS _ (by omega), fun r hr => ?_⟩
    obtain ⟨i, hi, e⟩ := (h.2.2 r).mp hr
    have := ch_N (ch_up h) (Nat.le_refl N) h2 (j := j) (r := N - 1 - i) hj (by omega)
    rw [show N - 1 - (N - 1 - i) = i by omega, e] at this
    exact this
  refine ⟨by omega, o ▸ sp_mn h (by omega), fun j hj => ?_, ?_⟩
  · by_cases c : j + 1 < l
    · rw [e1 j (by omega), e1 (j + 1) c, o]
      have := h1.2.2.2.2.1 0 (j + 1) (by omega) c
      exact ⟨nl j c, ne _ (by omega) (l1 _ c)⟩
    · obtain ⟨k, rfl⟩ : ∃ k, j = l - 1 + k := ⟨j - (l - 1), by omega⟩
      have q := e2 (k + 1) (by omega)
      have := h2.2.2.2.2.1 (k + 1) (u - 1) (by omega) (by omega)
      rw [e2 k (by omega), show l - 1 + k + 1 = l - 1 + (k + 1) by omega, q, o]
      exact ⟨nu k (by omega), ne _ (by omega) (by omega)⟩
  · have q := nu (u - 2) (by omega)
    rw [show u - 2 + 1 = u - 1 by omega, y1, show N - 1 - (N - 1) = 0 by omega] at q
    rw [o, show l - 1 + u - 1 - 1 = l - 1 + (u - 2) by omega, e2 (u - 2) (by omega)]
    exact q
/-- the scan's ring -/
theorem sc_ring {S : Int32 → Prop} {a b L : Nat → Int32} {N n : Nat} {ix : Nat → Nat} (h : sp_I S a N) (h0 : 0 < N) (hb : sa_I a b N) (h1 : ch_I b N n ix) (e1 : ∀ j, j < n → L j = b (ix j)) : gm_cyc S L n := by
  obtain ⟨b0, b1, b2, b3, b4⟩ := hb
  have ho : ch_o 4096 1 (a 0) b N := b4
  have hS : ∀ r, S r ↔ ∃ i, i < N ∧ b i = r := by
    intro r
    rw [h.2.2 r]
    constructor
    · rintro ⟨i, hi, e⟩
      obtain ⟨k, hk, e'⟩ := b3 i hi
      exact ⟨k, hk, e'.trans e⟩
    · rintro ⟨i, hi, e⟩
      obtain ⟨k, hk, e'⟩ := b2 i hi
      exact ⟨k, hk, e'.symm.trans e⟩
  have hP : ∀ i, i < N → gm_P (b i) := fun i hi => by obtain ⟨k, hk, e⟩ := b2 i hi; rw [e]; exact h.1 k hk
  have l1 := fun j (hj : j < n) => ch_lt h1 hj
  have x0 := h1.2.2.1
  have x1 := h1.2.2.2.1
  have np := h1.1
  have o : L 0 = a 0 := by rw [e1 0 (by omega), x0, b0]
  have mn := sp_mn h h0
  have ne : ∀ j, 0 < j → j < N → b j ≠ a 0 := by
    intro j hj hN e
    have := b4 0 j hj hN
    rw [b0, e] at this
    unfold gm_B at this
    rw [gm_prr] at this
    omega
  refine ⟨by omega, o ▸ mn, fun j hj => ?_, ?_⟩
  · rw [e1 j (by omega), e1 (j + 1) hj, o]
    have := h1.2.2.2.2.1 0 (j + 1) (by omega) hj
    refine ⟨⟨(hS _).mpr ⟨_, l1 _ hj, rfl⟩, fun r hr => ?_⟩, ne _ (by omega) (l1 _ hj)⟩
    obtain ⟨i, hi, e⟩ := (hS r).mp hr
    rw [← e]
    exact ch_N ho (Nat.le_refl N) h1 hj hi
  · rw [e1 (n - 1) (by omega), x1, o]
    refine ⟨mn.1, fun r hr => ?_⟩
    obtain ⟨i, hi, e⟩ := (hS r).mp hr
    rw [← e]
    by_cases ei : i = N - 1
    · rw [ei]
      exact gm_Nm.mpr (gm_ru (-1) _ _)
    have q := b4 i (N - 1) (by omega) (by omega)
    rw [sa_B (hP i hi) (hP _ (by omega))] at q
    have t : gm_tr (b (N - 1)) (a 0) (b i) = gm_tr (a 0) (b i) (b (N - 1)) := (gm_rot _ _ _).symm
    refine ⟨by omega, fun z => ?_⟩
    by_cases eo : b i = a 0
    · rw [eo]; unfold gm_dt; grind
    have lo := mn.2 (b i) ((hS _).mpr ⟨i, hi, rfl⟩) eo
    have ll := mn.2 (b (N - 1)) ((hS _).mpr ⟨N - 1, by omega, rfl⟩) (ne _ (by omega) (by omega))
    rw [gm_dts]
    refine (gm_seg (a := 64) (b := 1) (c := a 0) (u := b (N - 1)) (r := b i) (by rw [gm_phl]; omega) (by rw [gm_phl]; omega) (by rw [gm_swp]; omega)).mpr ?_
    rw [gm_phl, gm_phl]
    omega
theorem wx_push_ring {post : Int32 → SX → Prop} {fp fs : Int32} {a0 a1 a2 a3 : Nat → Int32} {K e : Int} {o : Int32} {g : Nat → Int32} {N i n b : Nat} {ix : Nat → Nat} (ho : ch_o K e o g N) (hi : i < N) (hP : ∀ j, j < N → gm_P (g j))
    (hI : ch_I g i n ix) (hb : b + n ≤ 25) (ha : ∀ j, j < n → a2 (b + j) = g (ix j))
    (h : ∀ k, 0 < k → k ≤ n → ch_I g (i + 1) (k + 1) (fun j => if j = k then i else ix j) → b + k < 25 ∧ post (nI (b + k + 1)) (fp, fs, a0, a1, upd a2 (b + k) (g i), a3)) :
    wpX_pushLeftTurn__ring post (fp, fs, a0, a1, a2, a3) (nI b) (nI (b + n)) (g i) := by
  have fin : ∀ k, 0 < k → k ≤ n → ch_p g i k ix → (∀ k', k = k' + 2 → 0 < gm_tr (g (ix k')) (g (ix (k' + 1))) (g i)) → wX_pushLeftTurn__ring_36 post (g i) (nI (b + k)) fp fs a0 a1 a2 a3 := by
    intro k h0 hk hp ht
    obtain ⟨hb, hpost⟩ := h k h0 hk (ch_psh ho hi hI h0 hk hp ht)
    refine ⟨vp_in_nI hb (by omega), nm_e ?_⟩
    rw [nI_clamp (by omega), nI_1]
    exact hpost
  have key : ∀ k, k + 1 ≤ n → ch_p g i (k + 1) ix → wX_pushLeftTurn__ring_3 post (nI b) (g i) fp fs a0 a1 a2 a3 (k + 1) (nI (b + (k + 1))) := by
    intro k
    induction k with
    | zero =>
      intro hk hp
      refine br_t ?_ (fin 1 (by omega) hk hp (fun k' e => by omega))
      exact (nI_add b 2) ▸ nI_lt (a := b + 1) (b := b + 2) (by omega) (by omega)
    | succ k ih =>
      intro hk hp
      have n2 : nI (b + (k + 1 + 1)) - 2 = nI (b + k) := (pk_sub (a := b + (k + 1 + 1)) (b := 2) (by omega)).trans (congrArg nI (by omega))
      have n1 : nI (b + (k + 1 + 1)) - 1 = nI (b + (k + 1)) := (pk_sub (a := b + (k + 1 + 1)) (b := 1) (by omega)).trans (congrArg nI (by omega))
      have hPk : ∀ j, j < n → gm_P (g (ix j)) := fun j hj => hP _ (by have := ch_lt hI hj; omega)
      have Bd := gm_trB (hPk k (by omega)) (hPk (k + 1) (by omega)) (hP i hi)
      have e1 := i3_gt0 (i := gm_tr (g (ix k)) (g (ix (k + 1))) (g i)) (by omega)
      refine br_f ?_ ?_
      · exact (nI_add b 2) ▸ nI_nlt (a := b + (k + 1 + 1)) (b := b + 2) (by omega) (by omega)
      rw [n2, n1]
      refine ⟨vp_in_nI (by omega) (by omega), vp_in_nI (by omega) (by omega), wx_turn ?_⟩
      rw [nI_clamp (by omega), nI_clamp (by omega), ha k (by omega), ha (k + 1) (by omega)]
      refine ⟨fun hg => fin (k + 1 + 1) (by omega) hk hp (fun k' ek => ?_), fun hg => nm_r (?_ : _ = nI (b + (k + 1))) (ih (by omega) (ch_pop ho hi hI hk hp ?_))⟩
      · rw [show k' = k by omega]; exact e1.mp hg
      · exact pk_m1 (b + (k + 1))
      · have := mt e1.mpr hg
        omega
  obtain ⟨m, rfl⟩ : ∃ m, n = m + 1 := ⟨n - 1, by have := hI.1; omega⟩
  refine ⟨_, key m (Nat.le_refl _) fun r hr hx => ?_⟩
  have := hI.2.2.2.1
  rw [this] at hx
  omega
theorem wx_push0_ring {post : Int32 → SX → Prop} {fp fs p : Int32} {a0 a1 a2 a3 : Nat → Int32} (h : post (nI 1) (fp, fs, a0, a1, upd a2 0 p, a3)) :
    wpX_pushLeftTurn__ring post (fp, fs, a0, a1, a2, a3) 0 (nI 0) p :=
  ⟨1, br_t (by decide) ⟨vp_in_nI (n := 0) (N := 25) (by omega) (by omega), nm_e h⟩⟩
theorem wx_chain_ring {post : Int32 → SX → Prop} {fp : Int32} {a0 a1 a2 a3 : Nat → Int32} {S : Int32 → Prop} {N : Nat} (hN : N ≤ 24) (h0 : 0 < N) (hI : sp_I S a1 N)
    (h : ∀ m L, m ≤ 24 → gm_cyc S L m → post (nI m) (fp, nI N, a0, a1, L, a3)) : wpX_chain__ring post (fp, nI N, a0, a1, a2, a3) := by
  refine pk_eq N 1 (fun c => nm_e ?_) (fun c => ?_)
  · have e0 : upd a2 0 (a1 0) 0 = a1 0 := pk_us
    have mn := sp_mn hI h0
    refine h 1 _ (by omega) ⟨by omega, e0.symm ▸ mn, fun i hi => by omega, ?_⟩
    show gm_nx S (upd a2 0 (a1 0) 0) (upd a2 0 (a1 0) 0)
    rw [e0]
    refine ⟨mn.1, fun r hr => ?_⟩
    obtain ⟨i, hi, e⟩ := (hI.2.2 r).mp hr
    rw [← e, show i = 0 by omega]
    exact gm_N1.mpr (gm_rc 1 _ _)
  have second : ∀ l ix, ch_I a1 N l ix → ∀ d i, i + d = N → 0 < i → ∀ L u iy, ch_I (fun j => a1 (N - 1 - j)) i u iy → (∀ j, j < l → L j = a1 (ix j)) → (∀ j, j < u → L (l - 1 + j) = a1 (N - 1 - iy j)) →
      wX_chain__ring_62 post (nI (l - 1)) (d + 1) (nI (l - 1 + u)) (nI d + (-1)) fp (nI N) a0 a1 L a3 := by
    intro l ix hl d
    induction d with
    | zero =>
      intro i hi hp L u iy hu e1 e2
      have bd := ch_bnd hI hl (by omega) hu
      have hup := hu.1
      have hlp := hl.1
      refine br_t (by decide) ?_
      rw [show i = N by omega] at hu
      have := ch_ring hI (by omega) hl hu e1 e2
      have q : nI (l - 1 + u) - 1 = nI (l - 1 + u - 1) := pk_sub (a := l - 1 + u) (b := 1) (by omega)
      rw [q]
      exact h _ L (by omega) this
    | succ d ih =>
      intro i hi hp L u iy hu e1 e2
      have bd := ch_bnd hI hl (by omega) hu
      have hup := hu.1
      have hlp := hl.1
      have lN := hl.2.1
      rw [pk_m1]
      refine br_f (nI_pos (by omega)) ⟨vp_in_nI (by omega) (by omega), ?_⟩
      rw [nI_clamp (by omega)]
      have hg : a1 d = a1 (N - 1 - i) := by rw [show N - 1 - i = d by omega]
      rw [hg]
      have q := wx_push_ring (post := fun r_16 u => match u with | (f0, f1, b0, b1, b2, b3) => ∀ y : Int32, y = nI d + (-1) → wX_chain__ring_62 post (nI (l - 1)) (d + 1) r_16 y f0 f1 b0 b1 b2 b3) (fp := fp) (fs := nI N) (a0 := a0) (a1 := a1) (a2 := L) (a3 := a3) (K := 0) (e := -1) (o := 0) (g := fun j => a1 (N - 1 - j)) (N := N) (i := i) (n := u) (b := l - 1) (ix := iy) (ch_up hI) (by omega) (fun j hj => hI.1 _ (by omega)) hu (by omega) e2 (fun k k0 kn hk => ?_)
      · exact q
      have bd2 := ch_bnd hI hl (by omega) hk
      refine ⟨by omega, nm_e ?_⟩
      refine ih (i + 1) (by omega) (by omega) _ (k + 1) _ hk (fun j hj => ?_) (fun j hj => ?_)
      · rw [pk_un (by omega)]; exact e1 j hj
      · by_cases ej : j = k
        · rw [ej, pk_us, if_pos rfl]
        · rw [pk_un (by omega), if_neg ej]; exact e2 j (by omega)
  have first : ∀ d i, i + d = N → ∀ L n ix, (i = 0 ∧ n = 0 ∨ ch_I a1 i n ix) → (∀ j, j < n → L j = a1 (ix j)) → wX_chain__ring_23 post (d + 1) (nI n) (nI i) fp (nI N) a0 a1 L a3 := by
    intro d
    induction d with
    | zero =>
      intro i hi L n ix hc e1
      have hc : ch_I a1 N n ix := by
        rcases hc with hc | hc
        · omega
        · rw [show i = N by omega] at hc; exact hc
      have np := hc.1
      have nN := hc.2.1
      have q1 : nI n - 1 = nI (n - 1) := pk_sub (b := 1) (by omega)
      have q2 : nI N - 2 = nI (N - 1) + (-1) := by
        rw [show nI N - 2 = nI (N - 2) from pk_sub (b := 2) (by omega), show N - 1 = (N - 2) + 1 by omega, pk_m1]
      refine br_t (nI_le (by omega) (by omega)) (nm_r q1 (nm_r q2 ?_))
      have e2 : ∀ j, j < 1 → L (n - 1 + j) = a1 (N - 1 - (fun _ => 0) j) := by
        intro j hj
        rw [show j = 0 by omega, Nat.add_zero, e1 (n - 1) (by omega), hc.2.2.2.1]
        rfl
      have := second n ix hc (N - 1) 1 (by omega) (by omega) L 1 (fun _ => 0) (ch_one _) e1 e2
      rw [show n - 1 + 1 = n by omega] at this
      exact ⟨_, this⟩
    | succ d ih =>
      intro i hi L n ix hc e1
      refine br_f (nI_ge (by omega) (by omega)) ⟨vp_in_nI (by omega) (by omega), ?_⟩
      rw [nI_clamp (by omega)]
      rcases hc with ⟨rfl, rfl⟩ | hc
      · refine wx_push0_ring (nm_r (nI_1 0) (ih 1 (by omega) _ 1 (fun _ => 0) (Or.inr (ch_one _)) (fun j hj => ?_)))
        rw [show j = 0 by omega]; exact pk_us
      · have := hc.2.1
        have q := wx_push_ring (post := fun r_16 u => match u with | (f0, f1, b0, b1, b2, b3) => ∀ y : Int32, y = nI i + 1 → wX_chain__ring_23 post (d + 1) r_16 y f0 f1 b0 b1 b2 b3) (fp := fp) (fs := nI N) (a0 := a0) (a1 := a1) (a2 := L) (a3 := a3) (b := 0) (ch_lo hI) (show i < N by omega) hI.1 hc (by omega) (fun j hj => by rw [Nat.zero_add]; exact e1 j hj) (fun k k0 kn hk => ?_)
        · rw [Nat.zero_add] at q; exact q
        refine ⟨by omega, nm_r (nI_1 i) ?_⟩
        rw [Nat.zero_add]
        refine ih (i + 1) (by omega) _ (k + 1) _ (Or.inr hk) (fun j hj => ?_)
        by_cases ej : j = k
        · rw [ej, pk_us, if_pos rfl]
        · rw [pk_un (by omega), if_neg ej]; exact e1 j (by omega)
  exact ⟨_, first N 0 (by omega) _ 0 (fun _ => 0) (Or.inl ⟨rfl, rfl⟩) (fun j hj => by omega)⟩
theorem wx_scan_ring {post : Int32 → SX → Prop} {fp : Int32} {a0 a1 a2 a3 : Nat → Int32} {S : Int32 → Prop} {N : Nat} (hN : N ≤ 24) (h0 : 0 < N) (hI : sp_I S a1 N)
    (h : ∀ m L b, m ≤ 24 → gm_cyc S L m → post (nI m) (fp, nI N, a0, b, L, a3)) : wpX_scan__ring post (fp, nI N, a0, a1, a2, a3) := by
  refine wx_sort_spots hN hI.1 hI.2.1 (fun b hb => ?_)
  have ho : ch_o 4096 1 (a1 0) b N := hb.2.2.2.2
  have hP : ∀ i, i < N → gm_P (b i) := fun i hi => by obtain ⟨k, hk, e⟩ := hb.2.2.1 i hi; rw [e]; exact hI.1 k hk
  have first : ∀ d i, i + d = N → ∀ L n ix, (i = 0 ∧ n = 0 ∨ ch_I b i n ix) → (∀ j, j < n → L j = b (ix j)) → wX_scan__ring_15 post (d + 1) (nI n) (nI i) fp (nI N) a0 b L a3 := by
    intro d
    induction d with
    | zero =>
      intro i hi L n ix hc e1
      have hc : ch_I b N n ix := by
        rcases hc with hc | hc
        · omega
        · rw [show i = N by omega] at hc; exact hc
      have nN := hc.2.1
      exact br_t (nI_le (by omega) (by omega)) (h n L b (by omega) (sc_ring hI h0 hb hc e1))
    | succ d ih =>
      intro i hi L n ix hc e1
      refine br_f (nI_ge (by omega) (by omega)) ⟨vp_in_nI (by omega) (by omega), ?_⟩
      rw [nI_clamp (by omega)]
      rcases hc with ⟨rfl, rfl⟩ | hc
      · refine wx_push0_ring (nm_r (nI_1 0) (ih 1 (by omega) _ 1 (fun _ => 0) (Or.inr (ch_one _)) (fun j hj => ?_)))
        rw [show j = 0 by omega]; exact pk_us
      · have := hc.2.1
        have q := wx_push_ring (post := fun r_16 u => match u with | (f0, f1, b0, b1, b2, b3) => ∀ y : Int32, y = nI i + 1 → wX_scan__ring_15 post (d + 1) r_16 y f0 f1 b0 b1 b2 b3) (fp := fp) (fs := nI N) (a0 := a0) (a1 := b) (a2 := L) (a3 := a3) (b := 0) ho (show i < N by omega) hP hc (by omega) (fun j hj => by rw [Nat.zero_add]; exact e1 j hj) (fun k k0 kn hk => ?_)
        · rw [Nat.zero_add] at q; exact q
        refine ⟨by omega, nm_r (nI_1 i) ?_⟩
        rw [Nat.zero_add]
        refine ih (i + 1) (by omega) _ (k + 1) _ (Or.inr hk) (fun j hj => ?_)
        by_cases ej : j = k
        · rw [ej, pk_us, if_pos rfl]
        · rw [pk_un (by omega), if_neg ej]; exact e1 j (by omega)
  exact ⟨_, first N 0 (by omega) _ 0 (fun _ => 0) (Or.inl ⟨rfl, rfl⟩) (fun j hj => by omega)⟩
theorem wx_push_otherRing {post : Int32 → SX → Prop} {fp fs : Int32} {a0 a1 a2 a3 : Nat → Int32} {K e : Int} {o : Int32} {g : Nat → Int32} {N i n b : Nat} {ix : Nat → Nat} (ho : ch_o K e o g N) (hi : i < N) (hP : ∀ j, j < N → gm_P (g j))
    (hI : ch_I g i n ix) (hb : b + n ≤ 25) (ha : ∀ j, j < n → a3 (b + j) = g (ix j))
    (h : ∀ k, 0 < k → k ≤ n → ch_I g (i + 1) (k + 1) (fun j => if j = k then i else ix j) → b + k < 25 ∧ post (nI (b + k + 1)) (fp, fs, a0, a1, a2, upd a3 (b + k) (g i))) :
    wpX_pushLeftTurn__otherRing post (fp, fs, a0, a1, a2, a3) (nI b) (nI (b + n)) (g i) := by
  have fin : ∀ k, 0 < k → k ≤ n → ch_p g i k ix → (∀ k', k = k' + 2 → 0 < gm_tr (g (ix k')) (g (ix (k' + 1))) (g i)) → wX_pushLeftTurn__otherRing_36 post (g i) (nI (b + k)) fp fs a0 a1 a2 a3 := by
    intro k h0 hk hp ht
    obtain ⟨hb, hpost⟩ := h k h0 hk (ch_psh ho hi hI h0 hk hp ht)
    refine ⟨vp_in_nI hb (by omega), nm_e ?_⟩
    rw [nI_clamp (by omega), nI_1]
    exact hpost
  have key : ∀ k, k + 1 ≤ n → ch_p g i (k + 1) ix → wX_pushLeftTurn__otherRing_3 post (nI b) (g i) fp fs a0 a1 a2 a3 (k + 1) (nI (b + (k + 1))) := by
    intro k
    induction k with
    | zero =>
      intro hk hp
      refine br_t ?_ (fin 1 (by omega) hk hp (fun k' e => by omega))
      exact (nI_add b 2) ▸ nI_lt (a := b + 1) (b := b + 2) (by omega) (by omega)
    | succ k ih =>
      intro hk hp
      have n2 : nI (b + (k + 1 + 1)) - 2 = nI (b + k) := (pk_sub (a := b + (k + 1 + 1)) (b := 2) (by omega)).trans (congrArg nI (by omega))
      have n1 : nI (b + (k + 1 + 1)) - 1 = nI (b + (k + 1)) := (pk_sub (a := b + (k + 1 + 1)) (b := 1) (by omega)).trans (congrArg nI (by omega))
      have hPk : ∀ j, j < n → gm_P (g (ix j)) := fun j hj => hP _ (by have := ch_lt hI hj; omega)
      have Bd := gm_trB (hPk k (by omega)) (hPk (k + 1) (by omega)) (hP i hi)
      have e1 := i3_gt0 (i := gm_tr (g (ix k)) (g (ix (k + 1))) (g i)) (by omega)
      refine br_f ?_ ?_
      · exact (nI_add b 2) ▸ nI_nlt (a := b + (k + 1 + 1)) (b := b + 2) (by omega) (by omega)
      rw [n2, n1]
      refine ⟨vp_in_nI (by omega) (by omega), vp_in_nI (by omega) (by omega), wx_turn ?_⟩
      rw [nI_clamp (by omega), nI_clamp (by omega), ha k (by omega), ha (k + 1) (by omega)]
      refine ⟨fun hg => fin (k + 1 + 1) (by omega) hk hp (fun k' ek => ?_), fun hg => nm_r (?_ : _ = nI (b + (k + 1))) (ih (by omega) (ch_pop ho hi hI hk hp ?_))⟩
      · rw [show k' = k by omega]; exact e1.mp hg
      · exact pk_m1 (b + (k + 1))
      · have := mt e1.mpr hg
        omega
  obtain ⟨m, rfl⟩ : ∃ m, n = m + 1 := ⟨n - 1, by have := hI.1; omega⟩
  refine ⟨_, key m (Nat.le_refl _) fun r hr hx => ?_⟩
  have := hI.2.2.2.1
  rw [this] at hx
  omega
theorem wx_push0_otherRing {post : Int32 → SX → Prop} {fp fs p : Int32} {a0 a1 a2 a3 : Nat → Int32} (h : post (nI 1) (fp, fs, a0, a1, a2, upd a3 0 p)) :
    wpX_pushLeftTurn__otherRing post (fp, fs, a0, a1, a2, a3) 0 (nI 0) p :=
  ⟨1, br_t (by decide) ⟨vp_in_nI (n := 0) (N := 25) (by omega) (by omega), nm_e h⟩⟩
theorem wx_chain_otherRing {post : Int32 → SX → Prop} {fp : Int32} {a0 a1 a2 a3 : Nat → Int32} {S : Int32 → Prop} {N : Nat} (hN : N ≤ 24) (h0 : 0 < N) (hI : sp_I S a1 N)
    (h : ∀ m L, m ≤ 24 → gm_cyc S L m → post (nI m) (fp, nI N, a0, a1, a2, L)) : wpX_chain__otherRing post (fp, nI N, a0, a1, a2, a3) := by
  refine pk_eq N 1 (fun c => nm_e ?_) (fun c => ?_)
  · have e0 : upd a3 0 (a1 0) 0 = a1 0 := pk_us
    have mn := sp_mn hI h0
    refine h 1 _ (by omega) ⟨by omega, e0.symm ▸ mn, fun i hi => by omega, ?_⟩
    show gm_nx S (upd a3 0 (a1 0) 0) (upd a3 0 (a1 0) 0)
    rw [e0]
    refine ⟨mn.1, fun r hr => ?_⟩
    obtain ⟨i, hi, e⟩ := (hI.2.2 r).mp hr
    rw [← e, show i = 0 by omega]
    exact gm_N1.mpr (gm_rc 1 _ _)
  have second : ∀ l ix, ch_I a1 N l ix → ∀ d i, i + d = N → 0 < i → ∀ L u iy, ch_I (fun j => a1 (N - 1 - j)) i u iy → (∀ j, j < l → L j = a1 (ix j)) → (∀ j, j < u → L (l - 1 + j) = a1 (N - 1 - iy j)) →
      wX_chain__otherRing_62 post (nI (l - 1)) (d + 1) (nI (l - 1 + u)) (nI d + (-1)) fp (nI N) a0 a1 a2 L := by
    intro l ix hl d
    induction d with
    | zero =>
      intro i hi hp L u iy hu e1 e2
      have bd := ch_bnd hI hl (by omega) hu
      have hup := hu.1
      have hlp := hl.1
      refine br_t (by decide) ?_
      rw [show i = N by omega] at hu
      have := ch_ring hI (by omega) hl hu e1 e2
      have q : nI (l - 1 + u) - 1 = nI (l - 1 + u - 1) := pk_sub (a := l - 1 + u) (b := 1) (by omega)
      rw [q]
      exact h _ L (by omega) this
    | succ d ih =>
      intro i hi hp L u iy hu e1 e2
      have bd := ch_bnd hI hl (by omega) hu
      have hup := hu.1
      have hlp := hl.1
      have lN := hl.2.1
      rw [pk_m1]
      refine br_f (nI_pos (by omega)) ⟨vp_in_nI (by omega) (by omega), ?_⟩
      rw [nI_clamp (by omega)]
      have hg : a1 d = a1 (N - 1 - i) := by rw [show N - 1 - i = d by omega]
      rw [hg]
      have q := wx_push_otherRing (post := fun r_16 u => match u with | (f0, f1, b0, b1, b2, b3) => ∀ y : Int32, y = nI d + (-1) → wX_chain__otherRing_62 post (nI (l - 1)) (d + 1) r_16 y f0 f1 b0 b1 b2 b3) (fp := fp) (fs := nI N) (a0 := a0) (a1 := a1) (a2 := a2) (a3 := L) (K := 0) (e := -1) (o := 0) (g := fun j => a1 (N - 1 - j)) (N := N) (i := i) (n := u) (b := l - 1) (ix := iy) (ch_up hI) (by omega) (fun j hj => hI.1 _ (by omega)) hu (by omega) e2 (fun k k0 kn hk => ?_)
      · exact q
      have bd2 := ch_bnd hI hl (by omega) hk
      refine ⟨by omega, nm_e ?_⟩
      refine ih (i + 1) (by omega) (by omega) _ (k + 1) _ hk (fun j hj => ?_) (fun j hj => ?_)
      · rw [pk_un (by omega)]; exact e1 j hj
      · by_cases ej : j = k
        · rw [ej, pk_us, if_pos rfl]
        · rw [pk_un (by omega), if_neg ej]; exact e2 j (by omega)
  have first : ∀ d i, i + d = N → ∀ L n ix, (i = 0 ∧ n = 0 ∨ ch_I a1 i n ix) → (∀ j, j < n → L j = a1 (ix j)) → wX_chain__otherRing_23 post (d + 1) (nI n) (nI i) fp (nI N) a0 a1 a2 L := by
    intro d
    induction d with
    | zero =>
      intro i hi L n ix hc e1
      have hc : ch_I a1 N n ix := by
        rcases hc with hc | hc
        · omega
        · rw [show i = N by omega] at hc; exact hc
      have np := hc.1
      have nN := hc.2.1
      have q1 : nI n - 1 = nI (n - 1) := pk_sub (b := 1) (by omega)
      have q2 : nI N - 2 = nI (N - 1) + (-1) := by
        rw [show nI N - 2 = nI (N - 2) from pk_sub (b := 2) (by omega), show N - 1 = (N - 2) + 1 by omega, pk_m1]
      refine br_t (nI_le (by omega) (by omega)) (nm_r q1 (nm_r q2 ?_))
      have e2 : ∀ j, j < 1 → L (n - 1 + j) = a1 (N - 1 - (fun _ => 0) j) := by
        intro j hj
        rw [show j = 0 by omega, Nat.add_zero, e1 (n - 1) (by omega), hc.2.2.2.1]
        rfl
      have := second n ix hc (N - 1) 1 (by omega) (by omega) L 1 (fun _ => 0) (ch_one _) e1 e2
      rw [show n - 1 + 1 = n by omega] at this
      exact ⟨_, this⟩
    | succ d ih =>
      intro i hi L n ix hc e1
      refine br_f (nI_ge (by omega) (by omega)) ⟨vp_in_nI (by omega) (by omega), ?_⟩
      rw [nI_clamp (by omega)]
      rcases hc with ⟨rfl, rfl⟩ | hc
      · refine wx_push0_otherRing (nm_r (nI_1 0) (ih 1 (by omega) _ 1 (fun _ => 0) (Or.inr (ch_one _)) (fun j hj => ?_)))
        rw [show j = 0 by omega]; exact pk_us
      · have := hc.2.1
        have q := wx_push_otherRing (post := fun r_16 u => match u with | (f0, f1, b0, b1, b2, b3) => ∀ y : Int32, y = nI i + 1 → wX_chain__otherRing_23 post (d + 1) r_16 y f0 f1 b0 b1 b2 b3) (fp := fp) (fs := nI N) (a0 := a0) (a1 := a1) (a2 := a2) (a3 := L) (b := 0) (ch_lo hI) (show i < N by omega) hI.1 hc (by omega) (fun j hj => by rw [Nat.zero_add]; exact e1 j hj) (fun k k0 kn hk => ?_)
        · rw [Nat.zero_add] at q; exact q
        refine ⟨by omega, nm_r (nI_1 i) ?_⟩
        rw [Nat.zero_add]
        refine ih (i + 1) (by omega) _ (k + 1) _ (Or.inr hk) (fun j hj => ?_)
        by_cases ej : j = k
        · rw [ej, pk_us, if_pos rfl]
        · rw [pk_un (by omega), if_neg ej]; exact e1 j (by omega)
  exact ⟨_, first N 0 (by omega) _ 0 (fun _ => 0) (Or.inl ⟨rfl, rfl⟩) (fun j hj => by omega)⟩
theorem wx_scan_otherRing {post : Int32 → SX → Prop} {fp : Int32} {a0 a1 a2 a3 : Nat → Int32} {S : Int32 → Prop} {N : Nat} (hN : N ≤ 24) (h0 : 0 < N) (hI : sp_I S a1 N)
    (h : ∀ m L b, m ≤ 24 → gm_cyc S L m → post (nI m) (fp, nI N, a0, b, a2, L)) : wpX_scan__otherRing post (fp, nI N, a0, a1, a2, a3) := by
  refine wx_sort_spots hN hI.1 hI.2.1 (fun b hb => ?_)
  have ho : ch_o 4096 1 (a1 0) b N := hb.2.2.2.2
  have hP : ∀ i, i < N → gm_P (b i) := fun i hi => by obtain ⟨k, hk, e⟩ := hb.2.2.1 i hi; rw [e]; exact hI.1 k hk
  have first : ∀ d i, i + d = N → ∀ L n ix, (i = 0 ∧ n = 0 ∨ ch_I b i n ix) → (∀ j, j < n → L j = b (ix j)) → wX_scan__otherRing_15 post (d + 1) (nI n) (nI i) fp (nI N) a0 b a2 L := by
    intro d
    induction d with
    | zero =>
      intro i hi L n ix hc e1
      have hc : ch_I b N n ix := by
        rcases hc with hc | hc
        · omega
        · rw [show i = N by omega] at hc; exact hc
      have nN := hc.2.1
      exact br_t (nI_le (by omega) (by omega)) (h n L b (by omega) (sc_ring hI h0 hb hc e1))
    | succ d ih =>
      intro i hi L n ix hc e1
      refine br_f (nI_ge (by omega) (by omega)) ⟨vp_in_nI (by omega) (by omega), ?_⟩
      rw [nI_clamp (by omega)]
      rcases hc with ⟨rfl, rfl⟩ | hc
      · refine wx_push0_otherRing (nm_r (nI_1 0) (ih 1 (by omega) _ 1 (fun _ => 0) (Or.inr (ch_one _)) (fun j hj => ?_)))
        rw [show j = 0 by omega]; exact pk_us
      · have := hc.2.1
        have q := wx_push_otherRing (post := fun r_16 u => match u with | (f0, f1, b0, b1, b2, b3) => ∀ y : Int32, y = nI i + 1 → wX_scan__otherRing_15 post (d + 1) r_16 y f0 f1 b0 b1 b2 b3) (fp := fp) (fs := nI N) (a0 := a0) (a1 := b) (a2 := a2) (a3 := L) (b := 0) ho (show i < N by omega) hP hc (by omega) (fun j hj => by rw [Nat.zero_add]; exact e1 j hj) (fun k k0 kn hk => ?_)
        · rw [Nat.zero_add] at q; exact q
        refine ⟨by omega, nm_r (nI_1 i) ?_⟩
        rw [Nat.zero_add]
        refine ih (i + 1) (by omega) _ (k + 1) _ (Or.inr hk) (fun j hj => ?_)
        by_cases ej : j = k
        · rw [ej, pk_us, if_pos rfl]
        · rw [pk_un (by omega), if_neg ej]; exact e1 j (by omega)
  exact ⟨_, first N 0 (by omega) _ 0 (fun _ => 0) (Or.inl ⟨rfl, rfl⟩) (fun j hj => by omega)⟩
