/-- how many of the first n bits are set -/
def ly_c (x : Int32) : Nat → Nat
  | 0 => 0
  | n + 1 => ly_c x n + (if bt x n = true then 1 else 0)
theorem ly_le (x : Int32) : ∀ n, ly_c x n ≤ n := by
  intro n
  induction n with
  | zero => exact Nat.le_refl 0
  | succ n ih => unfold ly_c; split <;> omega
theorem ly_pos {x : Int32} {k : Nat} (hb : bt x k = true) : ∀ n, k < n → 1 ≤ ly_c x n := by
  intro n
  induction n with
  | zero => intro h; omega
  | succ n ih =>
    intro h
    unfold ly_c
    by_cases e : k = n
    · rw [← e, if_pos hb]; omega
    · have := ih (by omega); omega
theorem ly_mono {x y : Int32} (h : ∀ i, i < 24 → bt y i = true → bt x i = true) : ∀ n, n ≤ 24 → ly_c y n ≤ ly_c x n := by
  intro n
  induction n with
  | zero => intro _; exact Nat.le_refl 0
  | succ n ih =>
    intro hn
    have a := ih (by omega)
    have b := h n (by omega)
    unfold ly_c
    by_cases c : bt y n = true
    · rw [if_pos c, if_pos (b c)]; omega
    · rw [if_neg c]; omega
theorem ly_lt {x y : Int32} (h : ∀ i, i < 24 → bt y i = true → bt x i = true) {k : Nat} (hx : bt x k = true) (hy : bt y k = false) : ∀ n, k < n → n ≤ 24 → ly_c y n < ly_c x n := by
  intro n
  induction n with
  | zero => intro h; omega
  | succ n ih =>
    intro hk hn
    have b := h n (by omega)
    unfold ly_c
    by_cases e : k = n
    · have := ly_mono h n (by omega)
      rw [← e, if_pos hx, if_neg (by rw [hy]; decide)]
      rw [e]
      omega
    · have a := ih (by omega) (by omega)
      by_cases c : bt y n = true
      · rw [if_pos c, if_pos (b c)]; omega
      · rw [if_neg c]; omega
theorem ly_mk (P : Nat → Prop) : ∀ n, n ≤ 31 → ∃ r : Int32, ∀ i, i < 32 → (bt r i = true ↔ (i < n ∧ P i)) := by
  intro n
  induction n with
  | zero => exact fun _ => ⟨0, fun i hi => by rw [b_0]; exact ⟨fun q => absurd q (by decide), fun q => by omega⟩⟩
  | succ n ih =>
    intro hn
    obtain ⟨r, hr⟩ := ih (by omega)
    by_cases c : P n
    · refine ⟨r ||| ((1 : Int32) <<< (nI n &&& 31)), fun i hi => ?_⟩
      rw [b_or, b_one (by omega) hi, Bool.or_eq_true, hr i hi, decide_eq_true_eq]
      by_cases e : i = n
      · rw [e]; exact ⟨fun _ => ⟨by omega, c⟩, fun _ => Or.inr rfl⟩
      · exact ⟨fun q => q.elim (fun q => ⟨by omega, q.2⟩) (fun q => absurd q e), fun q => Or.inl ⟨by omega, q.2⟩⟩
    · refine ⟨r, fun i hi => ?_⟩
      rw [hr i hi]
      by_cases e : i = n
      · rw [e]; exact ⟨fun q => by omega, fun q => absurd q.2 c⟩
      · exact ⟨fun q => ⟨by omega, q.2⟩, fun q => ⟨by omega, q.2⟩⟩
/-- peel: what stands on the border goes -/
theorem wy_peel {post : SY → Prop} {sp lf li : Nat → Int32} {x y : Int32} {a0 : Nat → Int32} {m : Nat} (h : yc_R x a0 sp lf) (hm : m ≤ 24) (hc : hl_C x a0 li m)
    (hy : ∀ i, i < 24 → (bt y i = true ↔ (bt x i = true ∧ ¬ hl_st x a0 (a0 i) 1))) (hp : ∀ lf', yc_R y a0 sp lf' → post (nI m, sp, lf', li)) : wpY_peel post (nI m, sp, lf, li) := by
  have key : ∀ d i, i + d = 24 → ∀ lf', (∀ j, j < i → lf' j = if bt y j = true then 1 else 0) → (∀ j, i ≤ j → lf' j = lf j) → wY_peel_2 post (nI m) (d + 1) (nI i) sp lf' li := by
    intro d
    induction d with
    | zero =>
      intro i hi lf' h1 h2
      have e24 : i = 24 := by omega
      subst e24
      exact br_t (nI_le (a := 24) (by omega) (by omega)) (hp lf' ⟨h.1, h1, fun k hk hb => h.2.2 k hk ((hy k hk).mp hb).1⟩)
    | succ d ih =>
      intro i hi lf' h1 h2
      have vin : vp_in (nI i) 24 := vp_in_nI (by omega) (by omega)
      have st : ∀ z : Int32, z = (if bt y i = true then 1 else 0) → ∀ a : Nat → Int32, a = upd lf' i z → ∀ w : Int32, w = nI i + 1 → wY_peel_2 post (nI m) (d + 1) w sp a li := by
        intro z ez
        refine nm_e (nm_r (nI_1 i) (ih (i + 1) (by omega) _ (fun j hj => ?_) (fun j hj => ?_)))
        · by_cases ej : j = i
          · rw [ej, pk_us]; exact ez
          · rw [pk_un ej]; exact h1 j (by omega)
        · rw [pk_un (by omega)]; exact h2 j (by omega)
      refine br_f (nI_ge (b := 24) (by omega) (by omega)) ⟨vin, ?_⟩
      rw [nI_clamp (by omega), h2 i (Nat.le_refl i), yc_vn.1, yc_vn.2]
      refine ⟨fun c => ⟨vin, st 0 ?_⟩, fun c => ⟨vin, ?_⟩⟩
      · have hb := (yc_0 h (by omega)).mp c
        rw [if_neg]
        intro q
        rw [((hy i (by omega)).mp q).1] at hb
        exact absurd hb (by decide)
      · have hb : bt x i = true := by
          have := mt (yc_0 h (k := i) (by omega)).mpr c
          simpa using this
        rw [yc_1 h (by omega) hb]
        refine wy_wher h.1 hm hc (h.1 i (by omega)) (fun v hv => ⟨fun e => ⟨vin, st 0 ?_⟩, fun e => ⟨vin, st 1 ?_⟩⟩)
        · rw [if_neg]
          intro q
          exact ((hy i (by omega)).mp q).2 (e ▸ hv)
        · rw [if_pos ((hy i (by omega)).mpr ⟨hb, fun q => e (hl_stu h.1 (h.1 i (by omega)) hv q)⟩)]
  exact ⟨_, key 24 0 (by omega) lf (fun j hj => by omega) (fun j _ => rfl)⟩
/-- a point of the set stands on its border -/
theorem ly_bd {x : Int32} {a0 : Nat → Int32} (hP : ∀ k, k < 24 → gm_P (a0 k)) {k : Nat} (hk : k < 24) (hb : bt x k = true) : ∃ i, i < 24 ∧ bt x i = true ∧ hl_st x a0 (a0 i) 1 := by
  obtain ⟨L, m, hc⟩ := hl_ex (x := x) hP
  have hc' := hc
  rcases hc with ⟨_, hn⟩ | hc
  · exact absurd ⟨k, hk, hb, rfl⟩ (hn (a0 k))
  · obtain ⟨i, hi, hbi, e⟩ := gm_cS hc hc.1
    refine ⟨i, hi, hbi, L, m, hc', Or.inr (Or.inl ⟨rfl, 0, hc.1, ?_⟩)⟩
    rw [e, gm_prp]
    exact ⟨rfl, by unfold gm_dt; grind⟩
theorem ly_main {fp : Int32} {a0 sp a3 : Nat → Int32} (I : rl_R fp a0 sp) {k : Nat} (hk : k < 24) : ∀ n x t, ly_c x 24 ≤ n → bt x k = true → (∀ i, i < 24 → bt x i = true → bt fp i = true) → t + ly_c x 24 ≤ 24 →
    ∃ d : Nat, (∀ (post : Int32 → SX → Prop) fs a1 a2, (∀ f b L, post (nI d) (fp, f, a0, b, L, a3)) → wX_layer_19 post (nI k) (n + 1) x (nI t) fp fs a0 a1 a2 a3) ∧
      (∀ (post : Int32 → SY → Prop) lf li m, yc_R x a0 sp lf → m ≤ 24 → gm_ref (pl_S x a0 24) li m → (∀ f lf' li', post (nI d) (f, sp, lf', li')) → wY_layer_18 post (nI k) (n + 1) (nI t) (nI m) sp lf li) := by
  intro n
  induction n with
  | zero =>
    intro x t hn hb _ _
    have := ly_pos hb 24 hk
    omega
  | succ n ih =>
    intro x t hn hb hsub ht
    have c1 := ly_pos hb 24 hk
    have vin : vp_in (nI k) 24 := vp_in_nI hk (by omega)
    by_cases Q : hl_st x a0 (a0 k) 1
    · refine ⟨t, fun post fs a1 a2 hp => ?_, fun post lf li m hy hm hr hp => ?_⟩
      · refine br_f (nI_ge (b := 24) (by omega) (by omega)) (wx_bord I.1 fun L b f r hr => ?_)
        exact wx_hasBit (by omega) (fun _ => br_f (by decide) (hp f b L)) (fun q => absurd ((hr k (by omega)).mpr ⟨hk, hb, Q⟩) (by rw [q]; decide))
      · refine ⟨vin, ?_⟩
        rw [nI_clamp (by omega), yc_1 hy hk hb]
        exact wy_wher I.1 hm (hl_of I.1 hr) (I.1 k hk) fun v hv => br_t (hl_stu I.1 (I.1 k hk) hv Q) (hp _ _ _)
    · obtain ⟨r0, hr0⟩ := ly_mk (fun i => bt x i = true ∧ hl_st x a0 (a0 i) 1) 24 (by omega)
      have hx' : ∀ i, i < 32 → bt (x &&& (r0 ^^^ (-1))) i = (bt x i && !bt r0 i) := fun i hi => by rw [b_and, b_xor, b_m1 i hi, Bool.xor_true]
      have hb' : ∀ i, i < 24 → (bt (x &&& (r0 ^^^ (-1))) i = true ↔ (bt x i = true ∧ ¬ hl_st x a0 (a0 i) 1)) := by
        intro i hi
        rw [hx' i (by omega), Bool.and_eq_true, Bool.not_eq_true']
        constructor
        · rintro ⟨q1, q2⟩
          refine ⟨q1, fun q => ?_⟩
          rw [(hr0 i (by omega)).mpr ⟨hi, q1, q⟩] at q2
          exact absurd q2 (by decide)
        · rintro ⟨q1, q2⟩
          refine ⟨q1, ?_⟩
          cases c : bt r0 i
          · rfl
          · exact absurd ((hr0 i (by omega)).mp c).2.2 q2
      have hbk := (hb' k hk).mpr ⟨hb, Q⟩
      have sub : ∀ i, i < 24 → bt (x &&& (r0 ^^^ (-1))) i = true → bt x i = true := fun i hi q => ((hb' i hi).mp q).1
      obtain ⟨j, hj, hbj, hs⟩ := ly_bd I.1 hk hb
      have hj0 : bt (x &&& (r0 ^^^ (-1))) j = false := by
        cases c : bt (x &&& (r0 ^^^ (-1))) j
        · rfl
        · exact absurd hs ((hb' j hj).mp c).2
      have lt := ly_lt sub hbj hj0 24 hj (Nat.le_refl 24)
      obtain ⟨d, hX, hY⟩ := ih (x &&& (r0 ^^^ (-1))) (t + 1) (by omega) hbk (fun i hi q => hsub i hi (sub i hi q)) (by omega)
      refine ⟨d, fun post fs a1 a2 hp => ?_, fun post lf li m hy hm hr hp => ?_⟩
      · refine br_f (nI_ge (b := 24) (by omega) (by omega)) (wx_bord I.1 fun L b f r hr => ?_)
        have er : r = r0 := b_iff fun i hi => by rw [hr i hi, hr0 i hi]
        rw [er]
        refine wx_hasBit (by omega) (fun q => absurd ((hr0 k (by omega)).mp q).2.2 Q) (fun _ => br_t rfl (nm_e (nm_r (nI_1 t) ?_)))
        exact hX post f b L hp
      · refine ⟨vin, ?_⟩
        rw [nI_clamp (by omega), yc_1 hy hk hb]
        have hC := hl_of I.1 hr
        refine wy_wher I.1 hm hC (I.1 k hk) fun v hv => br_f (fun e => Q (e ▸ hv)) (wy_peel hy hm hC hb' fun lf' hy' => wy_find hy' fun m' L' hm' hr' => nm_r (nI_1 t) ?_)
        exact hY post lf' L' m' hy' hm' hr' hp
theorem i_vc_layer {k : Nat} {u : SX} {v : SY} (I : i_Rel k u v) (hk : k + 3 ≤ 1536) (v1 : Int32) : wpX_layer (fun r u' => wpY_layer (fun r' v' => r' = r ∧ i_Rel (k + 3) u' v') v v1) u v1 := by
  obtain ⟨fp, fs, a0, a1, a2, a3⟩ := u
  obtain ⟨fm, sp, lf, li⟩ := v
  have I : rl_R fp a0 sp := I
  unfold wpX_layer
  refine wx_isPoint (fun j hj e hb => br_f (by decide) ?_) (fun hn => br_t rfl ?_)
  · subst e
    have le := ly_le fp 24
    obtain ⟨d, hX, hY⟩ := ly_main (a3 := a3) I hj 24 fp 0 le hb (fun i _ q => q) (by omega)
    refine ⟨_, hX _ fs a1 a2 fun f b L => ?_⟩
    unfold wpY_layer
    exact wy_is I hj (fun _ => br_f (by decide) (wy_look I fun m L' lf' hm hc hr => ⟨_, hY _ lf' L' m hc hm hr fun f lf'' li' => ⟨rfl, I⟩⟩)) (fun q => absurd hb (by rw [q]; decide))
  · unfold wpY_layer
    exact wy_isP I (fun j hj e hb => absurd hb (by rw [hn j hj e]; decide)) (fun _ => br_t rfl ⟨rfl, I⟩)
/-- how many of the first n places have P -/
noncomputable def pc_n (P : Nat → Prop) : Nat → Nat
  | 0 => 0
  | n + 1 => pc_n P n + @ite Nat (P n) (Classical.propDecidable _) 1 0
theorem pc_t {P : Nat → Prop} {n : Nat} (h : P n) : pc_n P (n + 1) = pc_n P n + 1 := by
  show pc_n P n + @ite Nat (P n) (Classical.propDecidable _) 1 0 = pc_n P n + 1
  rw [if_pos h]
theorem pc_f {P : Nat → Prop} {n : Nat} (h : ¬ P n) : pc_n P (n + 1) = pc_n P n := by
  show pc_n P n + @ite Nat (P n) (Classical.propDecidable _) 1 0 = pc_n P n
  rw [if_neg h]; rfl
theorem i_vc_places {k : Nat} {u : SX} {v : SY} (I : i_Rel k u v) (hk : k + 3 ≤ 1536) : wpX_places (fun r u' => wpY_places (fun r' v' => r' = r ∧ i_Rel (k + 3) u' v') v) u := by
  obtain ⟨fp, fs, a0, a1, a2, a3⟩ := u
  obtain ⟨fm, sp, lf, li⟩ := v
  have I : rl_R fp a0 sp := I
  unfold wpX_places
  refine wx_hull I.1 fun m L b f hm hc => ?_
  have X : ∀ post : Int32 → SX → Prop, post (nI (pc_n (fun i => ¬ hl_st fp a0 (nI i) 0) 4096)) (fp, f, a0, b, L, a3) → ∀ d i, i + d = 4096 → wX_places_13 post (nI m) fp f a0 b L a3 (d + 1) (nI (pc_n (fun i => ¬ hl_st fp a0 (nI i) 0) i)) (nI i) := by
    intro post hp d
    induction d with
    | zero =>
      intro i hi
      have e : i = 4096 := by omega
      subst e
      exact br_t (nI_le (a := 4096) (by omega) (by omega)) hp
    | succ d ih =>
      intro i hi
      have P : gm_P (nI i) := gm_nP (by omega)
      refine br_f (nI_ge (b := 4096) (by omega) (by omega)) (wx_stand I.1 hm hc P fun v hv => ⟨fun e => nm_r (nI_1 i) ?_, fun e => nm_r (nI_1 _) (nm_r (nI_1 i) ?_)⟩)
      · have := ih (i + 1) (by omega)
        rw [pc_f (P := fun i => ¬ hl_st fp a0 (nI i) 0) (n := i) (fun q => q (e ▸ hv))] at this
        exact this
      · have := ih (i + 1) (by omega)
        rw [pc_t (P := fun i => ¬ hl_st fp a0 (nI i) 0) (n := i) (fun q => e (hl_stu I.1 P hv q))] at this
        exact this
  have X0 := X (fun r u' => wpY_places (fun r' v' => r' = r ∧ i_Rel (k + 3) u' v') (fm, sp, lf, li))
  refine ⟨_, X0 ?_ 4096 0 (by omega)⟩
  unfold wpY_places
  refine wy_look I fun m' L' lf' hm' hy hr' => ?_
  have hc' := hl_of I.1 hr'
  have Y : ∀ post : Int32 → SY → Prop, post (nI (pc_n (fun i => ¬ hl_st fp a0 (nI i) 0) 4096)) (nI m', sp, lf', L') → ∀ d i, i + d = 4096 → wY_places_8 post (nI m') sp lf' L' (d + 1) (nI (pc_n (fun i => ¬ hl_st fp a0 (nI i) 0) i)) (nI i) := by
    intro post hp d
    induction d with
    | zero =>
      intro i hi
      have e : i = 4096 := by omega
      subst e
      exact br_t (nI_le (a := 4096) (by omega) (by omega)) hp
    | succ d ih =>
      intro i hi
      have P : gm_P (nI i) := gm_nP (by omega)
      refine br_f (nI_ge (b := 4096) (by omega) (by omega)) (wy_wher I.1 hm' hc' P fun v hv => ⟨fun e => nm_r (nI_1 i) ?_, fun e => nm_r (nI_1 _) (nm_r (nI_1 i) ?_)⟩)
      · have ev : v = 0 := by
          rcases hl_st3 hv with q | q | q
          · exact q
          · rw [q] at e; exact absurd e (by decide)
          · rw [q] at e; exact absurd e (by decide)
        have := ih (i + 1) (by omega)
        rw [pc_f (P := fun i => ¬ hl_st fp a0 (nI i) 0) (n := i) (fun q => q (ev ▸ hv))] at this
        exact this
      · have := ih (i + 1) (by omega)
        rw [pc_t (P := fun i => ¬ hl_st fp a0 (nI i) 0) (n := i) (fun q => e (by rw [hl_stu I.1 P hv q]; decide))] at this
        exact this
  exact ⟨_, Y _ ⟨rfl, I⟩ 4096 0 (by omega)⟩
