def i_Rel (_ : Nat) (u : SX) (v : SY) : Prop := rl_R u.1 u.2.2.1 v.2.1
theorem i_up {k : Nat} {u : SX} {v : SY} (h : i_Rel k u v) : i_Rel (k + 3) u v := h
theorem rl_1 {fp : Int32} {a0 sp : Nat → Int32} (h : rl_R fp a0 sp) {k : Nat} (hk : k < 24) (hb : bt fp k = true) : sp k - 1 = a0 k := by
  rw [h.2.2 k hk, if_pos hb, Int32.add_sub_cancel]
theorem i_vc0 : wpX_init (fun u => wpY_init (fun v => i_Rel 0 u v)) := by
  show rl_R 0 (fun _ => 0) (fun _ => 0)
  refine ⟨fun k hk => (show gm_P 0 from ⟨by decide, by decide⟩), fun i _ _ => b_0 i, fun k hk => ?_⟩
  rw [b_0, if_neg (by decide)]
theorem rl_add {fp p : Int32} {a0 sp : Nat → Int32} (h : rl_R fp a0 sp) (hp : gm_P p) {j : Nat} (hj : j < 24) : rl_R (fp ||| ((1 : Int32) <<< (nI j &&& 31))) (upd a0 j p) (upd sp j (p + 1)) := by
  have hb : ∀ i, i < 32 → bt (fp ||| ((1 : Int32) <<< (nI j &&& 31))) i = (bt fp i || decide (i = j)) := fun i hi => by rw [b_or, b_one (by omega) hi]
  refine ⟨fun k hk => ?_, fun i h1 h2 => ?_, fun k hk => ?_⟩
  · by_cases e : k = j
    · rw [e, pk_us]; exact hp
    · rw [pk_un e]; exact h.1 k hk
  · rw [hb i h2, h.2.1 i h1 h2, decide_eq_false (by omega)]; rfl
  · rw [hb k (by omega)]
    by_cases e : k = j
    · rw [e, pk_us, pk_us, decide_eq_true rfl, Bool.or_true, if_pos rfl]
    · rw [pk_un e, pk_un e, decide_eq_false e, Bool.or_false]; exact h.2.2 k hk
theorem i_vc_add {k : Nat} {u : SX} {v : SY} (I : i_Rel k u v) (hk : k + 3 ≤ 1536) (v1 : Int32) : wpX_add (fun r u' => wpY_add (fun r' v' => r' = r ∧ i_Rel (k + 3) u' v') v v1) u v1 := by
  obtain ⟨fp, fs, a0, a1, a2, a3⟩ := u
  obtain ⟨fm, sp, lf, li⟩ := v
  have I : rl_R fp a0 sp := I
  unfold wpX_add
  refine wx_isPlace (fun hp => br_f (by decide) ?_) (fun hp => br_t rfl ?_)
  rotate_left
  · unfold wpY_add
    exact wy_isPlace (fun q => absurd q hp) (fun _ => br_t rfl ⟨rfl, I⟩)
  by_cases hx : ∃ j, j < 24 ∧ bt fp j = false
  · obtain ⟨j, ⟨hj, hb⟩, hl⟩ := pk_least (fun j => j < 24 ∧ bt fp j = false) hx
    have ht : ∀ i, i < j → bt fp i = true := by
      intro i hi
      have := hl i hi
      cases c : bt fp i
      · exact absurd ⟨by omega, c⟩ this
      · rfl
    have X : ∀ post : Int32 → SX → Prop, post (nI j) (fp ||| ((1 : Int32) <<< (nI j &&& 31)), fs, upd a0 j v1, a1, a2, a3) → ∀ d i, i + d = j → wX_add_13 post v1 fp fs a0 a1 a2 a3 (d + 1) (nI i) := by
      intro post hpost d
      induction d with
      | zero =>
        intro i hi
        rw [show i = j by omega]
        refine br_f (nI_ge (b := 24) hj (by omega)) (wx_hasBit (by omega) (fun q => absurd q (by rw [hb]; decide)) (fun _ => br_t rfl ⟨vp_in_nI hj (by omega), nm_e (nm_e ?_)⟩))
        rw [nI_clamp (by omega)]
        exact hpost
      | succ d ih =>
        intro i hi
        exact br_f (nI_ge (b := 24) (by omega) (by omega)) (wx_hasBit (by omega) (fun _ => br_f (by decide) (nm_r (nI_1 i) (ih (i + 1) (by omega)))) (fun q => absurd q (by rw [ht i (by omega)]; decide)))
    have Y : ∀ post : Int32 → SY → Prop, post (nI j) (fm, upd sp j (v1 + 1), lf, li) → ∀ d i, i + d = j → wY_add_14 post v1 fm sp lf li (d + 1) (nI i) := by
      intro post hpost d
      induction d with
      | zero =>
        intro i hi
        rw [show i = j by omega]
        refine br_f (nI_ge (b := 24) hj (by omega)) ⟨vp_in_nI hj (by omega), ?_⟩
        rw [nI_clamp (by omega)]
        exact br_t ((rl_0 I hj).mpr hb) ⟨vp_in_nI hj (by omega), nm_e hpost⟩
      | succ d ih =>
        intro i hi
        refine br_f (nI_ge (b := 24) (by omega) (by omega)) ⟨vp_in_nI (by omega) (by omega), ?_⟩
        rw [nI_clamp (by omega)]
        refine br_f (fun q => ?_) (nm_r (nI_1 i) (ih (i + 1) (by omega)))
        have := (rl_0 I (by omega)).mp q
        rw [ht i (by omega)] at this
        exact absurd this (by decide)
    refine ⟨_, X _ ?_ j 0 (by omega)⟩
    unfold wpY_add
    refine wy_isPlace (fun _ => br_f (by decide) ⟨_, Y _ ⟨rfl, ?_⟩ j 0 (by omega)⟩) (fun q => absurd hp q)
    exact rl_add I hp hj
  · have ht : ∀ i, i < 24 → bt fp i = true := by
      intro i hi
      cases c : bt fp i
      · exact absurd ⟨i, hi, c⟩ hx
      · rfl
    have X : ∀ post : Int32 → SX → Prop, post (-20000) (fp, fs, a0, a1, a2, a3) → ∀ d i, i + d = 24 → wX_add_13 post v1 fp fs a0 a1 a2 a3 (d + 1) (nI i) := by
      intro post hpost d
      induction d with
      | zero =>
        intro i hi
        exact br_t (nI_le (a := 24) (by omega) (by omega)) hpost
      | succ d ih =>
        intro i hi
        exact br_f (nI_ge (b := 24) (by omega) (by omega)) (wx_hasBit (by omega) (fun _ => br_f (by decide) (nm_r (nI_1 i) (ih (i + 1) (by omega)))) (fun q => absurd q (by rw [ht i (by omega)]; decide)))
    have Y : ∀ post : Int32 → SY → Prop, post (-20000) (fm, sp, lf, li) → ∀ d i, i + d = 24 → wY_add_14 post v1 fm sp lf li (d + 1) (nI i) := by
      intro post hpost d
      induction d with
      | zero =>
        intro i hi
        exact br_t (nI_le (a := 24) (by omega) (by omega)) hpost
      | succ d ih =>
        intro i hi
        refine br_f (nI_ge (b := 24) (by omega) (by omega)) ⟨vp_in_nI (by omega) (by omega), ?_⟩
        rw [nI_clamp (by omega)]
        refine br_f (fun q => ?_) (nm_r (nI_1 i) (ih (i + 1) (by omega)))
        have := (rl_0 I (by omega)).mp q
        rw [ht i (by omega)] at this
        exact absurd this (by decide)
    refine ⟨_, X _ ?_ 24 0 (by omega)⟩
    unfold wpY_add
    exact wy_isPlace (fun _ => br_f (by decide) ⟨_, Y _ ⟨rfl, I⟩ 24 0 (by omega)⟩) (fun q => absurd hp q)
theorem wx_isPoint {post : Int32 → Prop} {fp fs : Int32} {a0 a1 a2 a3 : Nat → Int32} {x : Int32} (h1 : ∀ j, j < 24 → x = nI j → bt fp j = true → post 1) (h0 : (∀ j, j < 24 → x = nI j → bt fp j = false) → post 0) : wpX_isPoint post (fp, fs, a0, a1, a2, a3) x := by
  have nn : ∀ j, j < 24 → ¬ nI j < 0 := fun j hj => nI_pos (by omega)
  refine ⟨fun c => h0 fun j hj e => absurd (e ▸ c) (nn j hj), fun c => ⟨fun c2 => h0 fun j hj e => ?_, fun c2 => ?_⟩⟩
  · rw [e] at c2
    exact absurd c2 (nI_ge (b := 24) hj (by omega))
  · rcases pk_ix x (n := 24) (by omega) with q | q | ⟨j, hj, e⟩
    · exact absurd q c
    · exact absurd q c2
    · subst e
      refine wx_hasBit (by omega) (fun hb => br_f (by decide) (h1 j hj rfl hb)) (fun hb => br_t rfl (h0 fun i hi e => ?_))
      rw [(nI_eq (by omega) (by omega)).mp e] at hb
      exact hb
theorem wy_isP {post : Int32 → Prop} {fm fp : Int32} {a0 sp lf li : Nat → Int32} (h : rl_R fp a0 sp) {x : Int32} (h1 : ∀ j, j < 24 → x = nI j → bt fp j = true → post 1) (h0 : (∀ j, j < 24 → x = nI j → bt fp j = false) → post 0) : wpY_is post (fm, sp, lf, li) x := by
  rcases pk_ix x (n := 24) (by omega) with q | q | ⟨j, hj, e⟩
  · exact br_t q (h0 fun j hj e => absurd (e ▸ q) (nI_pos (by omega)))
  · by_cases c : x < 0
    · exact br_t c (h0 fun j hj e => absurd (e ▸ c) (nI_pos (by omega)))
    · refine br_f c (br_t q (h0 fun j hj e => ?_))
      rw [e] at q
      exact absurd q (nI_ge (b := 24) hj (by omega))
  · subst e
    refine wy_is h hj (fun hb => h1 j hj rfl hb) (fun hb => h0 fun i hi e => ?_)
    rw [(nI_eq (by omega) (by omega)).mp e] at hb
    exact hb
theorem rl_rem {fp : Int32} {a0 sp : Nat → Int32} (h : rl_R fp a0 sp) {j : Nat} (hj : j < 24) : rl_R (fp &&& (((1 : Int32) <<< (nI j &&& 31)) ^^^ (-1))) a0 (upd sp j 0) := by
  have hb : ∀ i, i < 32 → bt (fp &&& (((1 : Int32) <<< (nI j &&& 31)) ^^^ (-1))) i = (bt fp i && !decide (i = j)) := fun i hi => by
    rw [b_and, b_xor, b_one (by omega) hi, b_m1 i hi, Bool.xor_true]
  refine ⟨h.1, fun i h1 h2 => ?_, fun k hk => ?_⟩
  · rw [hb i h2, h.2.1 i h1 h2]; rfl
  · rw [hb k (by omega)]
    by_cases e : k = j
    · rw [e, pk_us, decide_eq_true rfl]; simp
    · rw [pk_un e, decide_eq_false e]; simp only [Bool.not_false, Bool.and_true]; exact h.2.2 k hk
theorem i_vc_remove {k : Nat} {u : SX} {v : SY} (I : i_Rel k u v) (hk : k + 3 ≤ 1536) (v1 : Int32) : wpX_remove (fun r u' => wpY_remove (fun r' v' => r' = r ∧ i_Rel (k + 3) u' v') v v1) u v1 := by
  obtain ⟨fp, fs, a0, a1, a2, a3⟩ := u
  obtain ⟨fm, sp, lf, li⟩ := v
  have I : rl_R fp a0 sp := I
  unfold wpX_remove
  refine wx_isPoint (fun j hj e hb => br_f (by decide) (nm_e ?_)) (fun hn => br_t rfl ?_)
  · subst e
    refine ⟨vp_in_nI hj (by omega), ?_⟩
    unfold wpY_remove
    refine wy_is I hj (fun _ => br_f (by decide) ⟨vp_in_nI hj (by omega), nm_e ⟨vp_in_nI hj (by omega), nm_e ⟨?_, ?_⟩⟩⟩) (fun q => absurd hb (by rw [q]; decide))
    · rw [nI_clamp (by omega), rl_1 I hj hb]
    · rw [nI_clamp (by omega)]
      exact rl_rem I hj
  · unfold wpY_remove
    exact wy_isP I (fun j hj e hb => absurd hb (by rw [hn j hj e]; decide)) (fun _ => br_t rfl ⟨rfl, I⟩)
theorem wy_points {post : Int32 → Prop} {fm fp : Int32} {a0 sp lf li : Nat → Int32} (h : rl_R fp a0 sp) (hp : post fp) : wpY_points post (fm, sp, lf, li) := by
  have key : ∀ d i, i + d = 24 → ∀ x, (∀ j, j < 32 → (bt x j = true ↔ (j < i ∧ bt fp j = true))) → wY_points_4 post fm sp lf li (d + 1) x (nI i) := by
    intro d
    induction d with
    | zero =>
      intro i hi x hx
      have e24 : i = 24 := by omega
      subst e24
      have e : x = fp := b_iff fun j hj => by
        rw [hx j hj]
        refine ⟨fun q => q.2, fun q => ⟨?_, q⟩⟩
        apply Classical.byContradiction
        intro c
        rw [h.2.1 j (by omega) hj] at q
        exact absurd q (by decide)
      rw [e]
      exact br_t (nI_le (a := 24) (by omega) (by omega)) hp
    | succ d ih =>
      intro i hi x hx
      refine br_f (nI_ge (b := 24) (by omega) (by omega)) (wy_is h (by omega) (fun hb => br_f (by decide) (nm_e (nm_r (nI_1 i) (ih (i + 1) (by omega) _ fun j hj => ?_)))) (fun hb => br_t rfl (nm_r (nI_1 i) (ih (i + 1) (by omega) x fun j hj => ?_))))
      · rw [b_or, b_one (by omega) hj, Bool.or_eq_true, hx j hj, decide_eq_true_eq]
        by_cases ej : j = i
        · rw [ej]; exact ⟨fun _ => ⟨by omega, hb⟩, fun _ => Or.inr rfl⟩
        · exact ⟨fun q => q.elim (fun q => ⟨by omega, q.2⟩) (fun q => absurd q ej), fun q => Or.inl ⟨by omega, q.2⟩⟩
      · rw [hx j hj]
        by_cases ej : j = i
        · rw [ej, hb]; exact ⟨fun q => absurd q.2 (by decide), fun q => absurd q.2 (by decide)⟩
        · exact ⟨fun q => ⟨by omega, q.2⟩, fun q => ⟨by omega, q.2⟩⟩
  exact ⟨_, key 24 0 (by omega) 0 (fun j hj => by rw [b_0]; exact ⟨fun q => absurd q (by decide), fun q => by omega⟩)⟩
theorem i_vc_points {k : Nat} {u : SX} {v : SY} (I : i_Rel k u v) (hk : k + 3 ≤ 1536) : wpX_points (fun r => wpY_points (fun r' => r' = r ∧ i_Rel (k + 3) u v) v) u := by
  obtain ⟨fp, fs, a0, a1, a2, a3⟩ := u
  obtain ⟨fm, sp, lf, li⟩ := v
  have I : rl_R fp a0 sp := I
  exact wy_points I ⟨rfl, I⟩
theorem i_vc_corners {k : Nat} {u : SX} {v : SY} (I : i_Rel k u v) (hk : k + 3 ≤ 1536) (v1 : Int32) : wpX_corners (fun r u' => wpY_corners (fun r' v' => r' = r ∧ i_Rel (k + 3) u' v') v v1) u v1 := by
  obtain ⟨fp, fs, a0, a1, a2, a3⟩ := u
  obtain ⟨fm, sp, lf, li⟩ := v
  have I : rl_R fp a0 sp := I
  unfold wpX_corners wpY_corners
  refine wx_isEngine (fun he => br_f (by decide) (wx_find_ring I.1 he fun m L b f hm hr => wy_look I fun m' L' lf' hm' hc hr' => wy_engine (fun _ => br_f (by decide) ⟨?_, I⟩) (fun q => absurd he q))) (fun he => br_t rfl (wy_look I fun m' L' lf' hm' hc hr' => wy_engine (fun q => absurd q he) (fun _ => br_t rfl ⟨rfl, I⟩)))
  rw [(gm_run (pl_P I.1) hr hr').1]
theorem i_vc_corner {k : Nat} {u : SX} {v : SY} (I : i_Rel k u v) (hk : k + 3 ≤ 1536) (v1 : Int32) (v2 : Int32) : wpX_corner (fun r u' => wpY_corner (fun r' v' => r' = r ∧ i_Rel (k + 3) u' v') v v1 v2) u v1 v2 := by
  obtain ⟨fp, fs, a0, a1, a2, a3⟩ := u
  obtain ⟨fm, sp, lf, li⟩ := v
  have I : rl_R fp a0 sp := I
  unfold wpX_corner wpY_corner
  refine wx_isEngine (fun he => br_f (by decide) (wx_find_ring I.1 he fun m L b f hm hr => ?_)) (fun he => br_t rfl (wy_look I fun m' L' lf' hm' hc hr' => wy_engine (fun q => absurd q he) (fun _ => br_t rfl ⟨rfl, I⟩)))
  refine ⟨fun c => wy_look I fun m' L' lf' hm' hc hr' => wy_engine (fun _ => br_f (by decide) (br_t c ⟨rfl, I⟩)) (fun q => absurd he q), fun c => ?_⟩
  rcases pk_ix v2 (n := m) (by omega) with q | q | ⟨j, hj, e⟩
  · exact absurd q c
  · refine br_f (Int32.not_lt.mpr q) (wy_look I fun m' L' lf' hm' hc hr' => wy_engine (fun _ => br_f (by decide) (br_f c (br_t ?_ ⟨rfl, I⟩))) (fun q => absurd he q))
    rw [← (gm_run (pl_P I.1) hr hr').1]
    exact q
  · subst e
    refine br_t (nI_lt hj (by omega)) ⟨vp_in_nI (by omega) (by omega), wy_look I fun m' L' lf' hm' hc hr' => wy_engine (fun _ => br_f (by decide) (br_f c ?_)) (fun q => absurd he q)⟩
    obtain ⟨em, eL⟩ := gm_run (pl_P I.1) hr hr'
    subst em
    refine br_f (nI_ge hj (by omega)) ⟨vp_in_nI (by omega) (by omega), ?_, I⟩
    rw [nI_clamp (by omega), eL j hj]
theorem i_vc_agree {k : Nat} {u : SX} {v : SY} (I : i_Rel k u v) (hk : k + 3 ≤ 1536) (v1 : Int32) (v2 : Int32) : wpX_agree (fun r u' => wpY_agree (fun r' => r' = r ∧ i_Rel (k + 3) u' v) v v1 v2) u v1 v2 := by
  obtain ⟨fp, fs, a0, a1, a2, a3⟩ := u
  obtain ⟨fm, sp, lf, li⟩ := v
  have I : rl_R fp a0 sp := I
  unfold wpX_agree
  refine wx_isEngine (fun he => br_f (by decide) (wx_isEngine (fun he2 => br_f (by decide) (wx_find_ring I.1 he fun m L b f hm hr => wx_find_otherRing I.1 he2 fun m' L' b' f' hm' hr' => ?_)) (fun he2 => br_t rfl ?_))) (fun he => br_t rfl ?_)
  · obtain ⟨em, eL⟩ := gm_run (pl_P I.1) hr hr'
    subst em
    refine br_t rfl ?_
    have key : ∀ d i, i + d = m → ∀ post : Int32 → SX → Prop, post 1 (fp, f', a0, b', L, L') → wX_agree_48 post (nI m) fp f' a0 b' L L' (d + 1) (nI i) := by
      intro d
      induction d with
      | zero => exact fun i hi post hp => br_t (nI_le (by omega) (by omega)) hp
      | succ d ih =>
        intro i hi post hp
        refine br_f (nI_ge (by omega) (by omega)) ⟨vp_in_nI (by omega) (by omega), vp_in_nI (by omega) (by omega), ?_⟩
        rw [nI_clamp (by omega)]
        exact br_t (eL i (by omega)) (nm_r (nI_1 i) (ih (i + 1) (by omega) post hp))
    refine ⟨_, key m 0 (by omega) _ ?_⟩
    unfold wpY_agree
    exact wy_engine (fun _ => br_f (by decide) (wy_engine (fun _ => br_f (by decide) ⟨rfl, I⟩) (fun q => absurd he2 q))) (fun q => absurd he q)
  · unfold wpY_agree
    exact wy_engine (fun _ => br_f (by decide) (wy_engine (fun q => absurd q he2) (fun _ => br_t rfl ⟨rfl, I⟩))) (fun q => absurd he q)
  · unfold wpY_agree
    exact wy_engine (fun q => absurd q he) (fun _ => br_t rfl ⟨rfl, I⟩)
/-- the fan's sum -/
def ar_sm (L : Nat → Int32) : Nat → Int32
  | 0 => 0
  | t + 1 => ar_sm L t + Int32.ofInt (gm_tr (L 0) (L (t + 1)) (L (t + 2)))
theorem ar_smc {L L' : Nat → Int32} {m : Nat} (e : ∀ i, i < m → L i = L' i) : ∀ t, t + 2 ≤ m ∨ t = 0 → ar_sm L t = ar_sm L' t := by
  intro t
  induction t with
  | zero => exact fun _ => rfl
  | succ t ih =>
    intro h
    unfold ar_sm
    rw [ih (by omega), e 0 (by omega), e (t + 1) (by omega), e (t + 2) (by omega)]
theorem i_vc_area {k : Nat} {u : SX} {v : SY} (I : i_Rel k u v) (hk : k + 3 ≤ 1536) (v1 : Int32) : wpX_area (fun r u' => wpY_area (fun r' v' => r' = r ∧ i_Rel (k + 3) u' v') v v1) u v1 := by
  obtain ⟨fp, fs, a0, a1, a2, a3⟩ := u
  obtain ⟨fm, sp, lf, li⟩ := v
  have I : rl_R fp a0 sp := I
  have hP := pl_P (x := fp) I.1
  have X : ∀ (m : Nat) (L b : Nat → Int32) (f : Int32) (post : Int32 → SX → Prop), m ≤ 24 → post (ar_sm L (m - 2)) (fp, f, a0, b, L, a3) → ∀ d t, (t + d + 2 = m ∨ m < 2 ∧ t = 0) → wX_area_26 post (nI m) fp f a0 b L a3 (d + 1) (ar_sm L t) (nI (t + 2)) := by
    intro m L b f post hm hp d
    induction d with
    | zero =>
      intro t ht
      have e : m - 2 = t := by omega
      rw [e] at hp
      exact br_t (nI_le (by omega) (by omega)) hp
    | succ d ih =>
      intro t ht
      by_cases c : m < 2
      · have e : m - 2 = t := by omega
        rw [e] at hp
        exact br_t (nI_le (by omega) (by omega)) hp
      · refine br_f (nI_ge (by omega) (by omega)) ?_
        rw [show t + 2 = (t + 1) + 1 by omega, nI_pred]
        refine ⟨vp_in_nI (by omega) (by omega), vp_in_nI (by omega) (by omega), wx_turn (nm_e (nm_r (nI_1 _) ?_))⟩
        rw [nI_clamp (by omega), nI_clamp (by omega)]
        exact ih (t + 1) (by omega)
  have Y : ∀ (m : Nat) (lf' L : Nat → Int32) (post : Int32 → SY → Prop), m ≤ 24 → (∀ i, i < m → gm_P (L i)) → wpY_engine (fun r_7 => (((r_7 = 0 → (post (-10000) (nI m, sp, lf', L))) ∧ (¬ r_7 = 0 → (post (ar_sm L (m - 2)) (nI m, sp, lf', L)))))) (nI m, sp, lf', L) v1 → ∀ d t, (t + d + 2 = m ∨ m < 2 ∧ t = 0) → wY_area_8 post v1 (nI m) sp lf' L (d + 1) (ar_sm L t) (nI (t + 2)) := by
    intro m lf' L post hm hPL hp d
    induction d with
    | zero =>
      intro t ht
      have e : m - 2 = t := by omega
      rw [e] at hp
      exact br_t (nI_le (by omega) (by omega)) hp
    | succ d ih =>
      intro t ht
      by_cases c : m < 2
      · have e : m - 2 = t := by omega
        rw [e] at hp
        exact br_t (nI_le (by omega) (by omega)) hp
      · refine br_f (nI_ge (by omega) (by omega)) ?_
        rw [show t + 2 = (t + 1) + 1 by omega, nI_pred]
        refine ⟨vp_in_nI (by omega) (by omega), vp_in_nI (by omega) (by omega), ?_⟩
        rw [nI_clamp (by omega), nI_clamp (by omega)]
        refine wy_turn (hPL 0 (by omega)) (hPL _ (by omega)) (hPL _ (by omega)) (nm_e (nm_r (nI_1 _) ?_))
        exact ih (t + 1) (by omega)
  have pos : ∀ {m : Nat} {L : Nat → Int32}, gm_ref (pl_S fp a0 24) L m → ∀ i, i < m → gm_P (L i) := fun hr i hi => hP _ ((hr.1 _).mpr ⟨i, hi, rfl⟩).1
  unfold wpX_area
  refine wx_isEngine (fun he => br_f (by decide) (wx_find_ring I.1 he fun m L b f hm hr => ⟨_, X m L b f _ hm ?_ (m - 2) 0 (by omega)⟩)) (fun he => br_t rfl ?_)
  · unfold wpY_area
    refine wy_look I fun m' L' lf' hm' hc hr' => ⟨_, Y m' lf' L' _ hm' (pos hr') (wy_engine (fun _ => br_f (by decide) ⟨?_, I⟩) (fun q => absurd he q)) (m' - 2) 0 (by omega)⟩
    obtain ⟨em, eL⟩ := gm_run (pl_P I.1) hr hr'
    subst em
    exact (ar_smc eL (m - 2) (by omega)).symm
  · unfold wpY_area
    exact wy_look I fun m' L' lf' hm' hc hr' => ⟨_, Y m' lf' L' _ hm' (pos hr') (wy_engine (fun q => absurd q he) (fun _ => br_t rfl ⟨rfl, I⟩)) (m' - 2) 0 (by omega)⟩
theorem i_vc_border {k : Nat} {u : SX} {v : SY} (I : i_Rel k u v) (hk : k + 3 ≤ 1536) : wpX_border (fun r u' => wpY_border (fun r' v' => r' = r ∧ i_Rel (k + 3) u' v') v) u := by
  obtain ⟨fp, fs, a0, a1, a2, a3⟩ := u
  obtain ⟨fm, sp, lf, li⟩ := v
  have I : rl_R fp a0 sp := I
  unfold wpX_border
  refine wx_bord I.1 (fun L b f r hr => ?_)
  unfold wpY_border
  refine wy_look I fun m L' lf' hm hc hr' => ?_
  have hC := hl_of I.1 hr'
  have key : ∀ post : Int32 → SY → Prop, (∀ r', (∀ j, j < 32 → (bt r' j = true ↔ (j < 24 ∧ bt fp j = true ∧ hl_st fp a0 (a0 j) 1))) → post r' (nI m, sp, lf', L')) → ∀ d i, i + d = 24 → ∀ x, (∀ j, j < 32 → (bt x j = true ↔ (j < i ∧ bt fp j = true ∧ hl_st fp a0 (a0 j) 1))) → wY_border_8 post (nI m) sp lf' L' (d + 1) x (nI i) := by
    intro post hpost d
    induction d with
    | zero =>
      intro i hi x hx
      have e24 : i = 24 := by omega
      subst e24
      exact br_t (nI_le (a := 24) (by omega) (by omega)) (hpost x hx)
    | succ d ih =>
      intro i hi x hx
      have no : (bt fp i = true → ¬ hl_st fp a0 (a0 i) 1) → ∀ y : Int32, y = nI i + 1 → wY_border_8 post (nI m) sp lf' L' (d + 1) x y := by
        intro hn
        refine nm_r (nI_1 i) (ih (i + 1) (by omega) x fun j hj => ?_)
        rw [hx j hj]
        by_cases ej : j = i
        · rw [ej]
          exact ⟨fun q => by omega, fun q => absurd q.2.2 (hn q.2.1)⟩
        · exact ⟨fun q => ⟨by omega, q.2⟩, fun q => ⟨by omega, q.2⟩⟩
      refine br_f (nI_ge (b := 24) (by omega) (by omega)) (wy_is I (by omega) (fun hb => br_f (by decide) ⟨vp_in_nI (by omega) (by omega), ?_⟩) (fun hb => br_t rfl (no fun q => absurd q (by rw [hb]; decide))))
      rw [nI_clamp (by omega), rl_1 I (by omega) hb]
      refine wy_wher I.1 hm hC (I.1 i (by omega)) (fun v hv => ⟨fun e => nm_e (nm_r (nI_1 i) (ih (i + 1) (by omega) _ fun j hj => ?_)), fun e => no fun _ q => e (hl_stu I.1 (I.1 i (by omega)) hv q)⟩)
      rw [b_or, b_one (by omega) hj, Bool.or_eq_true, hx j hj, decide_eq_true_eq]
      by_cases ej : j = i
      · rw [ej]
        exact ⟨fun _ => ⟨by omega, hb, e ▸ hv⟩, fun _ => Or.inr rfl⟩
      · exact ⟨fun q => q.elim (fun q => ⟨by omega, q.2⟩) (fun q => absurd q ej), fun q => Or.inl ⟨by omega, q.2⟩⟩
  refine ⟨_, key _ (fun r' hr' => ⟨?_, I⟩) 24 0 (by omega) 0 (fun j hj => by rw [b_0]; exact ⟨fun q => absurd q (by decide), fun q => by omega⟩)⟩
  exact b_iff fun j hj => by rw [hr j hj, hr' j hj]
theorem i_vc_holds {k : Nat} {u : SX} {v : SY} (I : i_Rel k u v) (hk : k + 3 ≤ 1536) (v1 : Int32) : wpX_holds (fun r u' => wpY_holds (fun r' v' => r' = r ∧ i_Rel (k + 3) u' v') v v1) u v1 := by
  obtain ⟨fp, fs, a0, a1, a2, a3⟩ := u
  obtain ⟨fm, sp, lf, li⟩ := v
  have I : rl_R fp a0 sp := I
  unfold wpX_holds
  refine wx_isPlace (fun hp => br_f (by decide) (wx_hull I.1 fun m L b f hm hc => wx_stand I.1 hm hc hp fun v hv => ?_)) (fun hp => br_t rfl ?_)
  · unfold wpY_holds
    exact wy_look I fun m' L' lf' hm' hc' hr' => wy_isPlace (fun _ => br_f (by decide) (wy_wher I.1 hm' (hl_of I.1 hr') hp fun v' hv' => ⟨hl_stu I.1 hp hv' hv, I⟩)) (fun q => absurd hp q)
  · unfold wpY_holds
    exact wy_look I fun m' L' lf' hm' hc' hr' => wy_isPlace (fun q => absurd q hp) (fun _ => br_t rfl ⟨rfl, I⟩)
