/-- sorting by direction from o, the nearer one first -/
theorem sa_B {o a b : Int32} (ha : gm_P a) (hb : gm_P b) : 0 < gm_B 4096 1 o a b ↔ (0 < gm_tr o a b ∨ (gm_tr o a b = 0 ∧ gm_la a < gm_la b)) := by
  have A := gm_laB ha
  have B := gm_laB hb
  unfold gm_B
  omega
theorem sa_tr {o a b c : Int32} (ha : gm_P a) (hb : gm_P b) (hc : gm_P c) (la : a = o ∨ gm_la o < gm_la a) (lb : gm_la o < gm_la b) (lc : gm_la o < gm_la c)
    (h1 : 0 < gm_B 4096 1 o a b) (h2 : 0 < gm_B 4096 1 o b c) : 0 < gm_B 4096 1 o a c := by
  rw [sa_B ha hb] at h1
  rw [sa_B hb hc] at h2
  rw [sa_B ha hc]
  rcases la with rfl | la
  · exact Or.inr ⟨gm_ppr _ _, lc⟩
  have e := gm_phB 64 1 o a b c
  rw [gm_phl, gm_phl, gm_phl] at e
  have m1 := Int.mul_nonneg (a := gm_tr o b c) (b := gm_la a - gm_la o) (by omega) (by omega)
  have m2 := Int.mul_nonneg (a := gm_tr o a b) (b := gm_la c - gm_la o) (by omega) (by omega)
  have g := gm_nn (a := gm_tr o a c) (b := gm_la b - gm_la o) (by omega) (by omega)
  by_cases z : gm_tr o a c = 0
  · rw [z, Int.zero_mul] at e
    have z1 := gm_z (a := gm_tr o b c) (b := gm_la a - gm_la o) (by omega) (by omega)
    have z2 := gm_z (a := gm_tr o a b) (b := gm_la c - gm_la o) (by omega) (by omega)
    exact Or.inr ⟨z, by omega⟩
  · exact Or.inl (by omega)
def sa_I (a a' : Nat → Int32) (i : Nat) : Prop := a' 0 = a 0 ∧ (∀ k, i ≤ k → a' k = a k) ∧ (∀ k, k < i → ∃ j, j < i ∧ a' k = a j) ∧ (∀ j, j < i → ∃ k, k < i ∧ a' k = a j) ∧ (∀ k j, k < j → j < i → 0 < gm_B 4096 1 (a 0) (a' k) (a' j))
theorem sa_ins {a a' : Nat → Int32} {n i x : Nat} (hP : ∀ i, i < n → gm_P (a i)) (hl : ∀ i j, i < j → j < n → gm_la (a i) < gm_la (a j)) (hi : i < n) (h : sa_I a a' i) (x1 : 1 ≤ x) (x2 : x ≤ i)
    (h1 : x = 1 ∨ 0 ≤ gm_tr (a 0) (a' (x - 1)) (a i)) (h2 : ∀ k, x ≤ k → k < i → gm_tr (a 0) (a' k) (a i) < 0) : sa_I a (ar_ins a' i x (a i)) (i + 1) := by
  obtain ⟨i0, i1, i2, i3, i4⟩ := h
  have e1 : ∀ k, k < x → ar_ins a' i x (a i) k = a' k := fun k hk => by unfold ar_ins; rw [if_pos hk]
  have e2 : ar_ins a' i x (a i) x = a i := by unfold ar_ins; rw [if_neg (by omega), if_pos rfl]
  have e3 : ∀ k, x ≤ k → k < i → ar_ins a' i x (a i) (k + 1) = a' k := fun k hk hN => by unfold ar_ins; rw [if_neg (by omega), if_neg (by omega), if_pos (by omega)]; rfl
  have e4 : ∀ k, i < k → ar_ins a' i x (a i) k = a' k := fun k hk => by unfold ar_ins; rw [if_neg (by omega), if_neg (by omega), if_neg (by omega)]
  have pP : ∀ k, k < i → gm_P (a' k) := fun k hk => by obtain ⟨j, hj, e⟩ := i2 k hk; rw [e]; exact hP j (by omega)
  have pl : ∀ k, k < i → gm_la (a' k) < gm_la (a i) := fun k hk => by obtain ⟨j, hj, e⟩ := i2 k hk; rw [e]; exact hl j i hj hi
  have po : ∀ k, k < i → a' k = a 0 ∨ gm_la (a 0) < gm_la (a' k) := by
    intro k hk
    obtain ⟨j, hj, e⟩ := i2 k hk
    by_cases ej : j = 0
    · rw [e, ej]; exact Or.inl rfl
    · rw [e]; exact Or.inr (hl 0 j (by omega) (by omega))
  have lx : gm_la (a 0) < gm_la (a i) := hl 0 i (by omega) hi
  have lo : ∀ k, k < x → 0 < gm_B 4096 1 (a 0) (a' k) (a i) := by
    intro k hk
    have top : 0 < gm_B 4096 1 (a 0) (a' (x - 1)) (a i) := by
      rw [sa_B (pP _ (by omega)) (hP i hi)]
      rcases h1 with h1 | h1
      · rw [h1, i0, gm_ppr]; exact Or.inr ⟨rfl, lx⟩
      · have := pl (x - 1) (by omega)
        omega
    by_cases ek : k = x - 1
    · rw [ek]; exact top
    · have hx := i4 k (x - 1) (by omega) (by omega)
      have h0 := i4 0 (x - 1) (by omega) (by omega)
      have l1 : gm_la (a 0) < gm_la (a' (x - 1)) := by
        rcases po (x - 1) (by omega) with q | q
        · rw [q, i0] at h0
          unfold gm_B at h0
          rw [gm_prr] at h0
          omega
        · exact q
      exact sa_tr (pP k (by omega)) (pP (x - 1) (by omega)) (hP i hi) (po k (by omega)) l1 lx hx top
  have hi' : ∀ k, x ≤ k → k < i → 0 < gm_B 4096 1 (a 0) (a i) (a' k) := by
    intro k hk hk'
    rw [sa_B (hP i hi) (pP k hk')]
    have := h2 k hk hk'
    rw [gm_swp] at this
    omega
  refine ⟨(e1 0 (by omega)).trans i0, fun k hk => (e4 k (by omega)).trans (i1 k (by omega)), fun k hk => ?_, fun j hj => ?_, fun k j hkj hj => ?_⟩
  · rcases Nat.lt_trichotomy k x with c | c | c
    · obtain ⟨j, hj, e⟩ := i2 k (by omega)
      exact ⟨j, by omega, (e1 k c).trans e⟩
    · exact ⟨i, by omega, by rw [c, e2]⟩
    · obtain ⟨k, rfl⟩ : ∃ z, k = z + 1 := ⟨k - 1, by omega⟩
      obtain ⟨j, hj, e⟩ := i2 k (by omega)
      exact ⟨j, by omega, (e3 k (by omega) (by omega)).trans e⟩
  · by_cases ej : j = i
    · exact ⟨x, by omega, by rw [e2, ej]⟩
    · obtain ⟨k, hk, e⟩ := i3 j (by omega)
      by_cases c : k < x
      · exact ⟨k, by omega, (e1 k c).trans e⟩
      · exact ⟨k + 1, by omega, (e3 k (by omega) hk).trans e⟩
  · rcases Nat.lt_trichotomy k x with c | c | c
    · rw [e1 k c]
      rcases Nat.lt_trichotomy j x with d | d | d
      · rw [e1 j d]; exact i4 k j hkj (by omega)
      · rw [d, e2]; exact lo k c
      · obtain ⟨j, rfl⟩ : ∃ z, j = z + 1 := ⟨j - 1, by omega⟩
        rw [e3 j (by omega) (by omega)]; exact i4 k j (by omega) (by omega)
    · obtain ⟨j, rfl⟩ : ∃ z, j = z + 1 := ⟨j - 1, by omega⟩
      rw [c, e2, e3 j (by omega) (by omega)]; exact hi' j (by omega) (by omega)
    · obtain ⟨j, rfl⟩ : ∃ z, j = z + 1 := ⟨j - 1, by omega⟩
      obtain ⟨k, rfl⟩ : ∃ z, k = z + 1 := ⟨k - 1, by omega⟩
      rw [e3 j (by omega) (by omega), e3 k (by omega) (by omega)]; exact i4 k j (by omega) (by omega)
theorem sa_two {a : Nat → Int32} {n : Nat} (hP : ∀ i, i < n → gm_P (a i)) (hl : ∀ i j, i < j → j < n → gm_la (a i) < gm_la (a j)) {i : Nat} (hi : i ≤ 2) (hn : i ≤ n) : sa_I a a i := by
  refine ⟨rfl, fun _ _ => rfl, fun k hk => ⟨k, hk, rfl⟩, fun k hk => ⟨k, hk, rfl⟩, fun k j hkj hj => ?_⟩
  rw [show k = 0 by omega, sa_B (hP 0 (by omega)) (hP j (by omega)), gm_ppr]
  exact Or.inr ⟨rfl, hl 0 j (by omega) (by omega)⟩
theorem wx_sort_spots {post : SX → Prop} {fp fs : Int32} {a0 a1 a2 a3 : Nat → Int32} {n : Nat} (hn : n ≤ 24) (hP : ∀ i, i < n → gm_P (a1 i)) (hl : ∀ i j, i < j → j < n → gm_la (a1 i) < gm_la (a1 j))
    (h : ∀ L, sa_I a1 L n → post (fp, fs, a0, L, a2, a3)) : wpX_sortAroundFirst__spots post (fp, fs, a0, a1, a2, a3) (nI n) := by
  have key : ∀ d i, 2 ≤ i → i + d = n → ∀ L, sa_I a1 L i → wX_sortAroundFirst__spots_2 post (nI n) fp fs (d + 1) (nI i) a0 L a2 a3 := by
    intro d
    induction d with
    | zero =>
      intro i h2 hi L hL
      rw [show i = n by omega] at hL ⊢
      exact br_t (nI_le (Nat.le_refl n) (by omega)) (h L hL)
    | succ d ih =>
      intro i h2 hi L hL
      have ei : L i = a1 i := hL.2.1 i (Nat.le_refl i)
      refine br_f (nI_ge (by omega) (by omega)) ⟨vp_in_nI (by omega) (by omega), nm_e ?_⟩
      rw [nI_clamp (by omega), ei]
      have fin : ∀ x, 1 ≤ x → x ≤ i → (x = 1 ∨ 0 ≤ gm_tr (a1 0) (L (x - 1)) (a1 i)) → (∀ k, x ≤ k → k < i → gm_tr (a1 0) (L k) (a1 i) < 0) →
          wX_sortAroundFirst__spots_2 post (nI n) fp fs (d + 1) (nI (i + 1)) a0 (ar_ins L i x (a1 i)) a2 a3 := by
        intro x h1 h3 h4 h5
        exact ih (i + 1) (by omega) (by omega) _ (sa_ins hP hl (by omega) hL h1 h3 h4 h5)
      have inner : ∀ x, x + 1 ≤ i → (∀ k, x + 1 ≤ k → k < i → gm_tr (a1 0) (L k) (a1 i) < 0) →
          wX_sortAroundFirst__spots_14 post (wX_sortAroundFirst__spots_2 post (nI n) fp fs (d + 1)) (nI n) (nI i) (a1 i) fp fs (x + 1) (nI (x + 1)) a0 (ar_sh L i (x + 1)) a2 a3 := by
        intro x
        induction x with
        | zero =>
          intro hx hk
          refine br_t (nI_le (a := 1) (b := 1) (by omega) (by decide)) ⟨vp_in_nI (by omega) (by omega), nm_e (nm_r (nI_1 i) ?_)⟩
          rw [nI_clamp (by omega), ar_she _ (by omega)]
          exact fin 1 (by omega) (by omega) (Or.inl rfl) hk
        | succ x ihx =>
          intro hx hk
          have q0 : ar_sh L i (x + 1 + 1) 0 = a1 0 := by unfold ar_sh; rw [if_neg (by omega)]; exact hL.1
          have q1 : ar_sh L i (x + 1 + 1) (x + 1) = L (x + 1) := by unfold ar_sh; rw [if_neg (by omega)]
          refine br_f (nI_ge (b := x + 1 + 1) (a := 1) (by omega) (by omega)) ?_
          rw [nI_pred]
          refine ⟨vp_in_nI (by omega) (by omega), wx_turn ?_⟩
          have hPx : gm_P (L (x + 1)) := by obtain ⟨j, hj, e⟩ := hL.2.2.1 (x + 1) (by omega); rw [e]; exact hP j (by omega)
          rw [nI_clamp (by omega), q0, q1]
          have Bd := gm_trB (hP 0 (by omega)) hPx (hP i (by omega))
          have e1 := i3_ge0 (i := gm_tr (a1 0) (L (x + 1)) (a1 i)) (by omega)
          refine ⟨fun hg => ⟨vp_in_nI (by omega) (by omega), nm_e (nm_r (nI_1 i) ?_)⟩, fun hg => ⟨vp_in_nI (by omega) (by omega), vp_in_nI (by omega) (by omega), nm_e (nm_r (pk_m1 (x + 1)) ?_)⟩⟩
          · rw [nI_clamp (by omega), ar_she _ (by omega)]
            exact fin (x + 1 + 1) (by omega) (by omega) (Or.inr (e1.mp hg)) hk
          · have e2 := ar_shs L (n := i) (i := x + 1) (by omega)
            rw [q1] at e2
            rw [nI_clamp (by omega), e2]
            refine ihx (by omega) fun k h1 h3 => ?_
            by_cases ek : k = x + 1
            · rw [ek]
              have := mt e1.mpr hg
              omega
            · exact hk k (by omega) h3
      have h9 := inner (i - 1) (by omega) (fun k h1 h3 => by omega)
      rw [show i - 1 + 1 = i by omega, ar_sh0] at h9
      exact ⟨_, h9⟩
  by_cases c : n < 2
  · exact ⟨1, br_t (nI_le (b := 2) (by omega) (by omega)) (h _ (sa_two hP hl (by omega) (Nat.le_refl n)))⟩
  · exact ⟨_, key (n - 2) 2 (by omega) (by omega) _ (sa_two hP hl (by omega) (by omega))⟩
theorem wx_sort_ring {post : SX → Prop} {fp fs : Int32} {a0 a1 a2 a3 : Nat → Int32} {n : Nat} (hn : n ≤ 24) (hP : ∀ i, i < n → gm_P (a2 i)) (hl : ∀ i j, i < j → j < n → gm_la (a2 i) < gm_la (a2 j))
    (h : ∀ L, sa_I a2 L n → post (fp, fs, a0, a1, L, a3)) : wpX_sortAroundFirst__ring post (fp, fs, a0, a1, a2, a3) (nI n) := by
  have key : ∀ d i, 2 ≤ i → i + d = n → ∀ L, sa_I a2 L i → wX_sortAroundFirst__ring_2 post (nI n) fp fs (d + 1) (nI i) a0 a1 L a3 := by
    intro d
    induction d with
    | zero =>
      intro i h2 hi L hL
      rw [show i = n by omega] at hL ⊢
      exact br_t (nI_le (Nat.le_refl n) (by omega)) (h L hL)
    | succ d ih =>
      intro i h2 hi L hL
      have ei : L i = a2 i := hL.2.1 i (Nat.le_refl i)
      refine br_f (nI_ge (by omega) (by omega)) ⟨vp_in_nI (by omega) (by omega), nm_e ?_⟩
      rw [nI_clamp (by omega), ei]
      have fin : ∀ x, 1 ≤ x → x ≤ i → (x = 1 ∨ 0 ≤ gm_tr (a2 0) (L (x - 1)) (a2 i)) → (∀ k, x ≤ k → k < i → gm_tr (a2 0) (L k) (a2 i) < 0) →
          wX_sortAroundFirst__ring_2 post (nI n) fp fs (d + 1) (nI (i + 1)) a0 a1 (ar_ins L i x (a2 i)) a3 := by
        intro x h1 h3 h4 h5
        exact ih (i + 1) (by omega) (by omega) _ (sa_ins hP hl (by omega) hL h1 h3 h4 h5)
      have inner : ∀ x, x + 1 ≤ i → (∀ k, x + 1 ≤ k → k < i → gm_tr (a2 0) (L k) (a2 i) < 0) →
          wX_sortAroundFirst__ring_14 post (wX_sortAroundFirst__ring_2 post (nI n) fp fs (d + 1)) (nI n) (nI i) (a2 i) fp fs (x + 1) (nI (x + 1)) a0 a1 (ar_sh L i (x + 1)) a3 := by
        intro x
        induction x with
        | zero =>
          intro hx hk
          refine br_t (nI_le (a := 1) (b := 1) (by omega) (by decide)) ⟨vp_in_nI (by omega) (by omega), nm_e (nm_r (nI_1 i) ?_)⟩
          rw [nI_clamp (by omega), ar_she _ (by omega)]
          exact fin 1 (by omega) (by omega) (Or.inl rfl) hk
        | succ x ihx =>
          intro hx hk
          have q0 : ar_sh L i (x + 1 + 1) 0 = a2 0 := by unfold ar_sh; rw [if_neg (by omega)]; exact hL.1
          have q1 : ar_sh L i (x + 1 + 1) (x + 1) = L (x + 1) := by unfold ar_sh; rw [if_neg (by omega)]
          refine br_f (nI_ge (b := x + 1 + 1) (a := 1) (by omega) (by omega)) ?_
          rw [nI_pred]
          refine ⟨vp_in_nI (by omega) (by omega), wx_turn ?_⟩
          have hPx : gm_P (L (x + 1)) := by obtain ⟨j, hj, e⟩ := hL.2.2.1 (x + 1) (by omega); rw [e]; exact hP j (by omega)
          rw [nI_clamp (by omega), q0, q1]
          have Bd := gm_trB (hP 0 (by omega)) hPx (hP i (by omega))
          have e1 := i3_ge0 (i := gm_tr (a2 0) (L (x + 1)) (a2 i)) (by omega)
          refine ⟨fun hg => ⟨vp_in_nI (by omega) (by omega), nm_e (nm_r (nI_1 i) ?_)⟩, fun hg => ⟨vp_in_nI (by omega) (by omega), vp_in_nI (by omega) (by omega), nm_e (nm_r (pk_m1 (x + 1)) ?_)⟩⟩
          · rw [nI_clamp (by omega), ar_she _ (by omega)]
            exact fin (x + 1 + 1) (by omega) (by omega) (Or.inr (e1.mp hg)) hk
          · have e2 := ar_shs L (n := i) (i := x + 1) (by omega)
            rw [q1] at e2
            rw [nI_clamp (by omega), e2]
            refine ihx (by omega) fun k h1 h3 => ?_
            by_cases ek : k = x + 1
            · rw [ek]
              have := mt e1.mpr hg
              omega
            · exact hk k (by omega) h3
      have h9 := inner (i - 1) (by omega) (fun k h1 h3 => by omega)
      rw [show i - 1 + 1 = i by omega, ar_sh0] at h9
      exact ⟨_, h9⟩
  by_cases c : n < 2
  · exact ⟨1, br_t (nI_le (b := 2) (by omega) (by omega)) (h _ (sa_two hP hl (by omega) (Nat.le_refl n)))⟩
  · exact ⟨_, key (n - 2) 2 (by omega) (by omega) _ (sa_two hP hl (by omega) (by omega))⟩
theorem wx_sort_otherRing {post : SX → Prop} {fp fs : Int32} {a0 a1 a2 a3 : Nat → Int32} {n : Nat} (hn : n ≤ 24) (hP : ∀ i, i < n → gm_P (a3 i)) (hl : ∀ i j, i < j → j < n → gm_la (a3 i) < gm_la (a3 j))
    (h : ∀ L, sa_I a3 L n → post (fp, fs, a0, a1, a2, L)) : wpX_sortAroundFirst__otherRing post (fp, fs, a0, a1, a2, a3) (nI n) := by
  have key : ∀ d i, 2 ≤ i → i + d = n → ∀ L, sa_I a3 L i → wX_sortAroundFirst__otherRing_2 post (nI n) fp fs (d + 1) (nI i) a0 a1 a2 L := by
    intro d
    induction d with
    | zero =>
      intro i h2 hi L hL
      rw [show i = n by omega] at hL ⊢
      exact br_t (nI_le (Nat.le_refl n) (by omega)) (h L hL)
    | succ d ih =>
      intro i h2 hi L hL
      have ei : L i = a3 i := hL.2.1 i (Nat.le_refl i)
      refine br_f (nI_ge (by omega) (by omega)) ⟨vp_in_nI (by omega) (by omega), nm_e ?_⟩
      rw [nI_clamp (by omega), ei]
      have fin : ∀ x, 1 ≤ x → x ≤ i → (x = 1 ∨ 0 ≤ gm_tr (a3 0) (L (x - 1)) (a3 i)) → (∀ k, x ≤ k → k < i → gm_tr (a3 0) (L k) (a3 i) < 0) →
          wX_sortAroundFirst__otherRing_2 post (nI n) fp fs (d + 1) (nI (i + 1)) a0 a1 a2 (ar_ins L i x (a3 i)) := by
        intro x h1 h3 h4 h5
        exact ih (i + 1) (by omega) (by omega) _ (sa_ins hP hl (by omega) hL h1 h3 h4 h5)
      have inner : ∀ x, x + 1 ≤ i → (∀ k, x + 1 ≤ k → k < i → gm_tr (a3 0) (L k) (a3 i) < 0) →
          wX_sortAroundFirst__otherRing_14 post (wX_sortAroundFirst__otherRing_2 post (nI n) fp fs (d + 1)) (nI n) (nI i) (a3 i) fp fs (x + 1) (nI (x + 1)) a0 a1 a2 (ar_sh L i (x + 1)) := by
        intro x
        induction x with
        | zero =>
          intro hx hk
          refine br_t (nI_le (a := 1) (b := 1) (by omega) (by decide)) ⟨vp_in_nI (by omega) (by omega), nm_e (nm_r (nI_1 i) ?_)⟩
          rw [nI_clamp (by omega), ar_she _ (by omega)]
          exact fin 1 (by omega) (by omega) (Or.inl rfl) hk
        | succ x ihx =>
          intro hx hk
          have q0 : ar_sh L i (x + 1 + 1) 0 = a3 0 := by unfold ar_sh; rw [if_neg (by omega)]; exact hL.1
          have q1 : ar_sh L i (x + 1 + 1) (x + 1) = L (x + 1) := by unfold ar_sh; rw [if_neg (by omega)]
          refine br_f (nI_ge (b := x + 1 + 1) (a := 1) (by omega) (by omega)) ?_
          rw [nI_pred]
          refine ⟨vp_in_nI (by omega) (by omega), wx_turn ?_⟩
          have hPx : gm_P (L (x + 1)) := by obtain ⟨j, hj, e⟩ := hL.2.2.1 (x + 1) (by omega); rw [e]; exact hP j (by omega)
          rw [nI_clamp (by omega), q0, q1]
          have Bd := gm_trB (hP 0 (by omega)) hPx (hP i (by omega))
          have e1 := i3_ge0 (i := gm_tr (a3 0) (L (x + 1)) (a3 i)) (by omega)
          refine ⟨fun hg => ⟨vp_in_nI (by omega) (by omega), nm_e (nm_r (nI_1 i) ?_)⟩, fun hg => ⟨vp_in_nI (by omega) (by omega), vp_in_nI (by omega) (by omega), nm_e (nm_r (pk_m1 (x + 1)) ?_)⟩⟩
          · rw [nI_clamp (by omega), ar_she _ (by omega)]
            exact fin (x + 1 + 1) (by omega) (by omega) (Or.inr (e1.mp hg)) hk
          · have e2 := ar_shs L (n := i) (i := x + 1) (by omega)
            rw [q1] at e2
            rw [nI_clamp (by omega), e2]
            refine ihx (by omega) fun k h1 h3 => ?_
            by_cases ek : k = x + 1
            · rw [ek]
              have := mt e1.mpr hg
              omega
            · exact hk k (by omega) h3
      have h9 := inner (i - 1) (by omega) (fun k h1 h3 => by omega)
      rw [show i - 1 + 1 = i by omega, ar_sh0] at h9
      exact ⟨_, h9⟩
  by_cases c : n < 2
  · exact ⟨1, br_t (nI_le (b := 2) (by omega) (by omega)) (h _ (sa_two hP hl (by omega) (Nat.le_refl n)))⟩
  · exact ⟨_, key (n - 2) 2 (by omega) (by omega) _ (sa_two hP hl (by omega) (by omega))⟩
