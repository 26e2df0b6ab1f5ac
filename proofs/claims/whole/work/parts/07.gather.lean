/-- a list of n with p put at k -/
def ar_ins (a : Nat → Int32) (n k : Nat) (p : Int32) : Nat → Int32 := fun i => if i < k then a i else if i = k then p else if i ≤ n then a (i - 1) else a i
def ar_sh (a : Nat → Int32) (n i : Nat) : Nat → Int32 := fun j => if i < j ∧ j ≤ n then a (j - 1) else a j
theorem ar_sh0 (a : Nat → Int32) (n : Nat) : ar_sh a n n = a := by
  funext j
  unfold ar_sh
  rw [if_neg (by omega)]
theorem ar_shs (a : Nat → Int32) {n i : Nat} (h : i < n) : upd (ar_sh a n (i + 1)) (i + 1) (ar_sh a n (i + 1) i) = ar_sh a n i := by
  funext j
  unfold ar_sh upd; dsimp only
  by_cases e : j = i + 1
  · rw [if_pos e, if_neg (by omega), if_pos (by omega), e]; rfl
  · rw [if_neg e]
    by_cases c : i < j ∧ j ≤ n
    · rw [if_pos (by omega), if_pos c]
    · rw [if_neg (by omega), if_neg c]
theorem ar_she (a : Nat → Int32) {n k : Nat} (h : k ≤ n) (p : Int32) : upd (ar_sh a n k) k p = ar_ins a n k p := by
  funext j
  unfold ar_sh ar_ins upd; dsimp only
  rcases Nat.lt_trichotomy j k with c | c | c
  · rw [if_neg (by omega), if_neg (by omega), if_pos c]
  · rw [if_pos c, if_neg (by omega), if_pos c]
  · rw [if_neg (show ¬ j = k by omega), if_neg (show ¬ j < k by omega), if_neg (show ¬ j = k by omega)]
    by_cases d : j ≤ n
    · rw [if_pos ⟨c, d⟩, if_pos d]
    · rw [if_neg (by omega), if_neg d]
theorem wx_ins_spots {post : Int32 → SX → Prop} {fp fs : Int32} {a0 a1 a2 a3 : Nat → Int32} {n k : Nat} {p : Int32} (hk : k ≤ n) (hn : n < 24)
    (h : post (nI (n + 1)) (fp, fs, a0, ar_ins a1 n k p, a2, a3)) : wpX_insert__spots post (fp, fs, a0, a1, a2, a3) (nI n) (nI k) p := by
  have key : ∀ d, k + d ≤ n → wX_insert__spots_3 post (nI n) (nI k) p fp fs (d + 1) (nI (k + d)) a0 (ar_sh a1 n (k + d)) a2 a3 := by
    intro d
    induction d with
    | zero =>
      intro _
      refine br_t (nI_le (by omega) (by omega)) ⟨vp_in_nI (by omega) (by omega), nm_e ?_⟩
      rw [nI_clamp (by omega), Nat.add_zero, ar_she _ hk, nI_1]
      exact h
    | succ d ih =>
      intro hd
      refine br_f (nI_ge (by omega) (by omega)) ?_
      rw [show k + (d + 1) = (k + d) + 1 by omega, nI_pred]
      refine ⟨vp_in_nI (by omega) (by omega), vp_in_nI (by omega) (by omega), nm_e (nm_r (pk_m1 _) ?_)⟩
      rw [nI_clamp (by omega), nI_clamp (by omega), ar_shs _ (by omega)]
      exact ih (by omega)
  have h2 := key (n - k) (by omega)
  rw [show k + (n - k) = n by omega, ar_sh0] at h2
  exact ⟨_, h2⟩
theorem wx_ins_ring {post : Int32 → SX → Prop} {fp fs : Int32} {a0 a1 a2 a3 : Nat → Int32} {n k : Nat} {p : Int32} (hk : k ≤ n) (hn : n < 25)
    (h : post (nI (n + 1)) (fp, fs, a0, a1, ar_ins a2 n k p, a3)) : wpX_insert__ring post (fp, fs, a0, a1, a2, a3) (nI n) (nI k) p := by
  have key : ∀ d, k + d ≤ n → wX_insert__ring_3 post (nI n) (nI k) p fp fs (d + 1) (nI (k + d)) a0 a1 (ar_sh a2 n (k + d)) a3 := by
    intro d
    induction d with
    | zero =>
      intro _
      refine br_t (nI_le (by omega) (by omega)) ⟨vp_in_nI (by omega) (by omega), nm_e ?_⟩
      rw [nI_clamp (by omega), Nat.add_zero, ar_she _ hk, nI_1]
      exact h
    | succ d ih =>
      intro hd
      refine br_f (nI_ge (by omega) (by omega)) ?_
      rw [show k + (d + 1) = (k + d) + 1 by omega, nI_pred]
      refine ⟨vp_in_nI (by omega) (by omega), vp_in_nI (by omega) (by omega), nm_e (nm_r (pk_m1 _) ?_)⟩
      rw [nI_clamp (by omega), nI_clamp (by omega), ar_shs _ (by omega)]
      exact ih (by omega)
  have h2 := key (n - k) (by omega)
  rw [show k + (n - k) = n by omega, ar_sh0] at h2
  exact ⟨_, h2⟩
theorem wx_ins_otherRing {post : Int32 → SX → Prop} {fp fs : Int32} {a0 a1 a2 a3 : Nat → Int32} {n k : Nat} {p : Int32} (hk : k ≤ n) (hn : n < 25)
    (h : post (nI (n + 1)) (fp, fs, a0, a1, a2, ar_ins a3 n k p)) : wpX_insert__otherRing post (fp, fs, a0, a1, a2, a3) (nI n) (nI k) p := by
  have key : ∀ d, k + d ≤ n → wX_insert__otherRing_3 post (nI n) (nI k) p fp fs (d + 1) (nI (k + d)) a0 a1 a2 (ar_sh a3 n (k + d)) := by
    intro d
    induction d with
    | zero =>
      intro _
      refine br_t (nI_le (by omega) (by omega)) ⟨vp_in_nI (by omega) (by omega), nm_e ?_⟩
      rw [nI_clamp (by omega), Nat.add_zero, ar_she _ hk, nI_1]
      exact h
    | succ d ih =>
      intro hd
      refine br_f (nI_ge (by omega) (by omega)) ?_
      rw [show k + (d + 1) = (k + d) + 1 by omega, nI_pred]
      refine ⟨vp_in_nI (by omega) (by omega), vp_in_nI (by omega) (by omega), nm_e (nm_r (pk_m1 _) ?_)⟩
      rw [nI_clamp (by omega), nI_clamp (by omega), ar_shs _ (by omega)]
      exact ih (by omega)
  have h2 := key (n - k) (by omega)
  rw [show k + (n - k) = n by omega, ar_sh0] at h2
  exact ⟨_, h2⟩
/-- the spots: each place of S once, in order -/
def sp_I (S : Int32 → Prop) (a : Nat → Int32) (N : Nat) : Prop := (∀ i, i < N → gm_P (a i)) ∧ (∀ i j, i < j → j < N → gm_la (a i) < gm_la (a j)) ∧ (∀ r, S r ↔ ∃ i, i < N ∧ a i = r)
theorem sp_ins {S : Int32 → Prop} {a : Nat → Int32} {N k : Nat} {p : Int32} (h : sp_I S a N) (hp : gm_P p) (hk : k ≤ N) (h1 : ∀ i, i < k → gm_la (a i) < gm_la p) (h2 : ∀ i, k ≤ i → i < N → gm_la p < gm_la (a i)) :
    sp_I (fun r => S r ∨ r = p) (ar_ins a N k p) (N + 1) := by
  obtain ⟨hP, hl, hS⟩ := h
  have e1 : ∀ i, i < k → ar_ins a N k p i = a i := fun i hi => by unfold ar_ins; rw [if_pos hi]
  have e2 : ar_ins a N k p k = p := by unfold ar_ins; rw [if_neg (by omega), if_pos rfl]
  have e3 : ∀ i, k ≤ i → i < N → ar_ins a N k p (i + 1) = a i := fun i hi hN => by unfold ar_ins; rw [if_neg (by omega), if_neg (by omega), if_pos (by omega)]; rfl
  refine ⟨fun i hi => ?_, fun i j hij hj => ?_, fun r => ⟨fun hr => ?_, ?_⟩⟩
  · rcases Nat.lt_trichotomy i k with c | c | c
    · rw [e1 i c]; exact hP i (by omega)
    · rw [c, e2]; exact hp
    · obtain ⟨i, rfl⟩ : ∃ j, i = j + 1 := ⟨i - 1, by omega⟩
      rw [e3 i (by omega) (by omega)]; exact hP i (by omega)
  · rcases Nat.lt_trichotomy i k with c | c | c
    · rw [e1 i c]
      rcases Nat.lt_trichotomy j k with d | d | d
      · rw [e1 j d]; exact hl i j hij (by omega)
      · rw [d, e2]; exact h1 i c
      · obtain ⟨j, rfl⟩ : ∃ x, j = x + 1 := ⟨j - 1, by omega⟩
        rw [e3 j (by omega) (by omega)]; exact hl i j (by omega) (by omega)
    · obtain ⟨j, rfl⟩ : ∃ x, j = x + 1 := ⟨j - 1, by omega⟩
      rw [c, e2, e3 j (by omega) (by omega)]; exact h2 j (by omega) (by omega)
    · obtain ⟨j, rfl⟩ : ∃ x, j = x + 1 := ⟨j - 1, by omega⟩
      obtain ⟨i, rfl⟩ : ∃ x, i = x + 1 := ⟨i - 1, by omega⟩
      rw [e3 i (by omega) (by omega), e3 j (by omega) (by omega)]; exact hl i j (by omega) (by omega)
  · rcases hr with hr | hr
    · obtain ⟨i, hi, e⟩ := (hS r).mp hr
      by_cases c : i < k
      · exact ⟨i, by omega, (e1 i c).trans e⟩
      · exact ⟨i + 1, by omega, (e3 i (by omega) hi).trans e⟩
    · exact ⟨k, by omega, e2.trans hr.symm⟩
  · rintro ⟨i, hi, e⟩
    rcases Nat.lt_trichotomy i k with c | c | c
    · exact Or.inl ((hS r).mpr ⟨i, by omega, (e1 i c).symm.trans e⟩)
    · rw [c, e2] at e; exact Or.inr e.symm
    · obtain ⟨i, rfl⟩ : ∃ x, i = x + 1 := ⟨i - 1, by omega⟩
      exact Or.inl ((hS r).mpr ⟨i, by omega, (e3 i (by omega) (by omega)).symm.trans e⟩)
theorem sp_sub {S T : Int32 → Prop} {a : Nat → Int32} {N : Nat} (h : sp_I S a N) (e : ∀ r, S r ↔ T r) : sp_I T a N := ⟨h.1, h.2.1, fun r => (e r).symm.trans (h.2.2 r)⟩
/-- addSpot: from the spots of S to those of S and p -/
theorem wx_addSpot {post : SX → Prop} {fp : Int32} {a0 a1 a2 a3 : Nat → Int32} {S : Int32 → Prop} {N : Nat} {p : Int32} (hN : N < 24) (hI : sp_I S a1 N) (hp : gm_P p)
    (h : ∀ a N', N' ≤ N + 1 → sp_I (fun r => S r ∨ r = p) a N' → post (fp, nI N', a0, a, a2, a3)) : wpX_addSpot post (fp, nI N, a0, a1, a2, a3) p := by
  have hJ : ∀ k, k ≤ N → (∀ i, k ≤ i → i < N → gm_la p < gm_la (a1 i)) → (∀ i, i < k → gm_la (a1 i) ≤ gm_la p) → wX_addSpot_30 post p (nI k) fp (nI N) a0 a1 a2 a3 := by
    intro k hk h2 h1
    have ins : (∀ i, i < k → gm_la (a1 i) < gm_la p) → wX_addSpot_46 post p (nI k) fp (nI N) a0 a1 a2 a3 := by
      intro h1
      exact wx_ins_spots hk hN (h _ _ (Nat.le_refl _) (sp_ins hI hp hk h1 h2))
    refine pk_eq k 0 (fun c => ins (fun i hi => by omega)) (fun c => ?_) rfl rfl
    obtain ⟨k, rfl⟩ : ∃ x, k = x + 1 := ⟨k - 1, by omega⟩
    rw [nI_pred]
    refine ⟨vp_in_nI (by omega) (by omega), ?_⟩
    rw [nI_clamp (by omega)]
    refine ⟨fun e => h a1 N (by omega) (sp_sub hI fun r => ⟨Or.inl, fun hr => hr.elim id fun e' => (hI.2.2 r).mpr ⟨k, by omega, e.trans e'.symm⟩⟩), fun e => ins fun i hi => ?_⟩
    have l := h1 k (by omega)
    have l' : gm_la (a1 k) ≠ gm_la p := fun z => e (gm_laext (hI.1 k (by omega)) hp z)
    by_cases c : i = k
    · rw [c]; omega
    · have := hI.2.1 i k (by omega) (by omega)
      omega
  have key : ∀ k, k ≤ N → (∀ i, k ≤ i → i < N → gm_la p < gm_la (a1 i)) → wX_addSpot_5 post p fp (nI N) a0 a1 a2 a3 (k + 1) (nI k) := by
    intro k
    induction k with
    | zero => exact fun hk h2 => br_t (nI_le (a := 0) (b := 0) (Nat.le_refl 0) (by decide)) (hJ 0 hk h2 (fun i hi => by omega))
    | succ k ih =>
      intro hk h2
      refine br_f (nI_ge (b := k + 1) (a := 0) (by omega) (by omega)) ?_
      rw [nI_pred]
      refine ⟨vp_in_nI (by omega) (by omega), ?_⟩
      rw [nI_clamp (by omega)]
      refine wx_before hp (hI.1 k (by omega)) (fun l => ?_) (fun l => ?_)
      · refine br_f (by decide) (nm_r (pk_m1 k) (ih (by omega) fun i h1 h3 => ?_))
        by_cases c : i = k
        · rw [c]; exact l
        · exact h2 i (by omega) h3
      · refine br_t rfl (hJ (k + 1) hk h2 fun i hi => ?_)
        by_cases c : i = k
        · rw [c]; exact l
        · have := hI.2.1 i k (by omega) (by omega)
          omega
  exact ⟨_, key N (Nat.le_refl N) (fun i h1 h2 => by omega)⟩
/-- the places of the points whose bits are set in x -/
def pl_S (x : Int32) (a : Nat → Int32) (n : Nat) : Int32 → Prop := fun r => ∃ k, k < n ∧ bt x k = true ∧ a k = r
theorem wx_gather {post : SX → Prop} {fp fs x : Int32} {a0 a1 a2 a3 : Nat → Int32} (hP : ∀ k, k < 24 → gm_P (a0 k))
    (h : ∀ a N, N ≤ 24 → sp_I (pl_S x a0 24) a N → post (fp, nI N, a0, a, a2, a3)) : wpX_gather post (fp, fs, a0, a1, a2, a3) x := by
  have key : ∀ d k, k + d = 24 → ∀ a N, N ≤ k → sp_I (pl_S x a0 k) a N → wX_gather_7 post x (d + 1) (nI k) fp (nI N) a0 a a2 a3 := by
    intro d
    induction d with
    | zero =>
      intro k hk a N hN hI
      rw [show k = 24 by omega] at hI ⊢
      exact br_t (nI_le (a := 24) (by omega) (by omega)) (h a N (by omega) hI)
    | succ d ih =>
      intro k hk a N hN hI
      refine br_f (nI_ge (b := 24) (by omega) (by omega)) (wx_hasBit (by omega) (fun c => br_f (by decide) ⟨vp_in_nI (by omega) (by omega), ?_⟩) (fun c => br_t rfl (nm_r (nI_1 k) (ih (k + 1) (by omega) a N (by omega) ?_))))
      · rw [nI_clamp (by omega)]
        refine wx_addSpot (by omega) hI (hP k (by omega)) (fun a' N' hN' hI' => nm_r (nI_1 k) (ih (k + 1) (by omega) a' N' (by omega) (sp_sub hI' fun r => ?_)))
        constructor
        · rintro (⟨j, hj, hb, e⟩ | e)
          · exact ⟨j, by omega, hb, e⟩
          · exact ⟨k, by omega, c, e.symm⟩
        · rintro ⟨j, hj, hb, e⟩
          by_cases ej : j = k
          · rw [ej] at e; exact Or.inr e.symm
          · exact Or.inl ⟨j, by omega, hb, e⟩
      · refine sp_sub hI fun r => ⟨fun ⟨j, hj, hb, e⟩ => ⟨j, by omega, hb, e⟩, ?_⟩
        rintro ⟨j, hj, hb, e⟩
        by_cases ej : j = k
        · rw [ej, c] at hb; exact absurd hb (by decide)
        · exact ⟨j, by omega, hb, e⟩
  exact ⟨_, key 24 0 (by omega) a1 0 (by omega) ⟨fun i hi => by omega, fun i j _ hj => by omega, fun r => ⟨fun ⟨k, hk, _⟩ => by omega, fun ⟨k, hk, _⟩ => by omega⟩⟩⟩
