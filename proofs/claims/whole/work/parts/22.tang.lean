/-- the tangent's search over the first i corners -/
noncomputable def tn_f (L : Nat → Int32) (m : Nat) (p : Int32) : Nat → Int32
  | 0 => -10000
  | i + 1 => @ite Int32 ((∀ j, j < m → gm_tr p (L i) (L j) ≤ 0) ∧ (tn_f L m p i = -10000 ∨ gm_sq p (L i) < gm_sq p (tn_f L m p i))) (Classical.propDecidable _) (L i) (tn_f L m p i)
theorem tn_t {L : Nat → Int32} {m : Nat} {p : Int32} {i : Nat} (h1 : ∀ j, j < m → gm_tr p (L i) (L j) ≤ 0) (h2 : tn_f L m p i = -10000 ∨ gm_sq p (L i) < gm_sq p (tn_f L m p i)) : tn_f L m p (i + 1) = L i := by
  show @ite Int32 _ (Classical.propDecidable _) (L i) (tn_f L m p i) = L i
  rw [if_pos ⟨h1, h2⟩]
theorem tn_n {L : Nat → Int32} {m : Nat} {p : Int32} {i : Nat} (h : ¬ ((∀ j, j < m → gm_tr p (L i) (L j) ≤ 0) ∧ (tn_f L m p i = -10000 ∨ gm_sq p (L i) < gm_sq p (tn_f L m p i)))) : tn_f L m p (i + 1) = tn_f L m p i := by
  show @ite Int32 _ (Classical.propDecidable _) (L i) (tn_f L m p i) = tn_f L m p i
  rw [if_neg h]
theorem tn_P {L : Nat → Int32} {m : Nat} {p : Int32} (hL : ∀ i, i < m → gm_P (L i)) : ∀ i, i ≤ m → tn_f L m p i = -10000 ∨ gm_P (tn_f L m p i) := by
  intro i
  induction i with
  | zero => exact fun _ => Or.inl rfl
  | succ i ih =>
    intro hi
    by_cases h : (∀ j, j < m → gm_tr p (L i) (L j) ≤ 0) ∧ (tn_f L m p i = -10000 ∨ gm_sq p (L i) < gm_sq p (tn_f L m p i))
    · rw [tn_t h.1 h.2]; exact Or.inr (hL i (by omega))
    · rw [tn_n h]; exact ih (by omega)
theorem tn_c {L L' : Nat → Int32} {m : Nat} {p : Int32} (e : ∀ i, i < m → L i = L' i) : ∀ i, i ≤ m → tn_f L m p i = tn_f L' m p i := by
  intro i
  induction i with
  | zero => exact fun _ => rfl
  | succ i ih =>
    intro hi
    have q := ih (by omega)
    by_cases h : (∀ j, j < m → gm_tr p (L i) (L j) ≤ 0) ∧ (tn_f L m p i = -10000 ∨ gm_sq p (L i) < gm_sq p (tn_f L m p i))
    · have h' : (∀ j, j < m → gm_tr p (L' i) (L' j) ≤ 0) ∧ (tn_f L' m p i = -10000 ∨ gm_sq p (L' i) < gm_sq p (tn_f L' m p i)) := by
        rw [← q, ← e i (by omega)]
        exact ⟨fun j hj => by rw [← e j hj]; exact h.1 j hj, h.2⟩
      rw [tn_t h.1 h.2, tn_t h'.1 h'.2, e i (by omega)]
    · have h' : ¬ ((∀ j, j < m → gm_tr p (L' i) (L' j) ≤ 0) ∧ (tn_f L' m p i = -10000 ∨ gm_sq p (L' i) < gm_sq p (tn_f L' m p i))) := by
        rw [← q, ← e i (by omega)]
        intro g
        exact h ⟨fun j hj => by rw [e j hj]; exact g.1 j hj, g.2⟩
      rw [tn_n h, tn_n h', q]
theorem wx_none {post : Int32 → Prop} {fp fs : Int32} {a0 a1 a2 a3 : Nat → Int32} {m : Nat} {p q : Int32} (hm : m ≤ 24) (hL : ∀ i, i < m → gm_P (a2 i)) (hp : gm_P p) (hq : gm_P q)
    (h1 : (∀ j, j < m → gm_tr p q (a2 j) ≤ 0) → post 1) (h0 : ¬ (∀ j, j < m → gm_tr p q (a2 j) ≤ 0) → post 0) : wpX_noneOnLeft post (fp, fs, a0, a1, a2, a3) (nI m) p q := by
  have key : ∀ d i, i + d = m → (∀ j, j < i → gm_tr p q (a2 j) ≤ 0) → wX_noneOnLeft_3 post (nI m) p q fp fs a0 a1 a2 a3 (d + 1) (nI i) := by
    intro d
    induction d with
    | zero => exact fun i hi h => br_t (nI_le (by omega) (by omega)) (h1 fun j hj => h j (by omega))
    | succ d ih =>
      intro i hi h
      have B := gm_trB hp hq (hL i (by omega))
      have e1 := i3_le0 (i := gm_tr p q (a2 i)) (by omega)
      refine br_f (nI_ge (by omega) (by omega)) ⟨vp_in_nI (by omega) (by omega), ?_⟩
      rw [nI_clamp (by omega)]
      refine wx_turn ⟨fun hl => nm_r (nI_1 i) (ih (i + 1) (by omega) fun j hj => ?_), fun hl => h0 fun g => hl (e1.mpr (g i (by omega)))⟩
      by_cases ej : j = i
      · rw [ej]; exact e1.mp hl
      · exact h j (by omega)
  exact ⟨_, key m 0 (by omega) (fun j hj => by omega)⟩
theorem tn_X {post : Int32 → SX → Prop} {fp fs : Int32} {a0 a1 a2 a3 : Nat → Int32} {m : Nat} {p : Int32} (hm : m ≤ 24) (hL : ∀ i, i < m → gm_P (a2 i)) (hp : gm_P p) (h : post (tn_f a2 m p m) (fp, fs, a0, a1, a2, a3)) :
    ∀ d i, i + d = m → ∀ y : Int32, (tn_f a2 m p i = -10000 ∨ y = Int32.ofInt (gm_sq p (tn_f a2 m p i))) → wX_tangent_50 post p (nI m) fp fs a0 a1 a2 a3 (d + 1) (tn_f a2 m p i) y (nI i) := by
  intro d
  induction d with
  | zero =>
    intro i hi y hy
    have e : i = m := by omega
    subst e
    exact br_t (nI_le (Nat.le_refl i) (by omega)) h
  | succ d ih =>
    intro i hi y hy
    have vin : vp_in (nI i) 25 := vp_in_nI (by omega) (by omega)
    have Pi := hL i (by omega)
    have B1 := gm_sqB hp Pi
    have keep : (¬ ((∀ j, j < m → gm_tr p (a2 i) (a2 j) ≤ 0) ∧ (tn_f a2 m p i = -10000 ∨ gm_sq p (a2 i) < gm_sq p (tn_f a2 m p i)))) → ∀ w : Int32, w = nI i + 1 → wX_tangent_50 post p (nI m) fp fs a0 a1 a2 a3 (d + 1) (tn_f a2 m p i) y w := by
      intro hn
      refine nm_r (nI_1 i) ?_
      have := ih (i + 1) (by omega) y (by rw [tn_n hn]; exact hy)
      rw [tn_n hn] at this
      exact this
    have try1 : (tn_f a2 m p i = -10000 ∨ gm_sq p (a2 i) < gm_sq p (tn_f a2 m p i)) → wX_tangent_83 post (wX_tangent_50 post p (nI m) fp fs a0 a1 a2 a3 (d + 1)) p (nI m) (tn_f a2 m p i) y (nI i) (Int32.ofInt (gm_sq p (a2 i))) fp fs a0 a1 a2 a3 := by
      intro hc
      refine br_f (by decide) ⟨vin, ?_⟩
      rw [nI_clamp (by omega)]
      refine wx_none hm hL hp Pi (fun hall => br_f (by decide) ⟨vin, nm_e (nm_r (nI_1 i) ?_)⟩) (fun hno => br_t rfl (keep fun g => hno g.1))
      have := ih (i + 1) (by omega) (Int32.ofInt (gm_sq p (a2 i))) (by rw [tn_t hall hc]; exact Or.inr rfl)
      rw [tn_t hall hc] at this
      exact this
    refine br_f (nI_ge (by omega) (by omega)) ⟨vin, ?_⟩
    rw [nI_clamp (by omega)]
    refine wx_square ⟨fun e => try1 (Or.inl e), fun e => ?_⟩
    have hy := hy.resolve_left e
    have PT := (tn_P (p := p) hL i (by omega)).resolve_left e
    have B2 := gm_sqB hp PT
    have e1 := i3_le (i := gm_sq p (tn_f a2 m p i)) (j := gm_sq p (a2 i)) (by omega) (by omega)
    rw [← hy] at e1
    refine ⟨fun hl => br_t rfl (keep fun g => ?_), fun hl => try1 (Or.inr ?_)⟩
    · have := e1.mp hl
      rcases g.2 with q | q
      · exact e q
      · omega
    · have := mt e1.mpr hl
      omega
theorem tn_Y {post : Int32 → SY → Prop} {sp lf li : Nat → Int32} {m : Nat} {p : Int32} (hm : m ≤ 24) (hL : ∀ i, i < m → gm_P (li i)) (hp : gm_P p) (h : post (tn_f li m p m) (nI m, sp, lf, li)) :
    ∀ d i, i + d = m → wY_tangent_37 post p (nI m) sp lf li (d + 1) (tn_f li m p i) (nI i) := by
  intro d
  induction d with
  | zero =>
    intro i hi
    have e : i = m := by omega
    subst e
    exact br_t (nI_le (Nat.le_refl i) (by omega)) h
  | succ d ih =>
    intro i hi
    have vin : vp_in (nI i) 24 := vp_in_nI (by omega) (by omega)
    have Pi := hL i (by omega)
    have B1 := gm_sqB hp Pi
    have keep : (¬ ((∀ j, j < m → gm_tr p (li i) (li j) ≤ 0) ∧ (tn_f li m p i = -10000 ∨ gm_sq p (li i) < gm_sq p (tn_f li m p i)))) → ∀ w : Int32, w = nI i + 1 → wY_tangent_37 post p (nI m) sp lf li (d + 1) (tn_f li m p i) w := by
      intro hn
      refine nm_r (nI_1 i) ?_
      have := ih (i + 1) (by omega)
      rw [tn_n hn] at this
      exact this
    have take : (∀ j, j < m → gm_tr p (li i) (li j) ≤ 0) → (tn_f li m p i = -10000 ∨ gm_sq p (li i) < gm_sq p (tn_f li m p i)) → wY_tangent_128 post (wY_tangent_37 post p (nI m) sp lf li (d + 1)) p (nI i) (nI m) sp lf li := by
      intro h1 h2
      refine ⟨vin, ?_⟩
      rw [nI_clamp (by omega)]
      refine nm_e (nm_r (nI_1 i) ?_)
      have := ih (i + 1) (by omega)
      rw [tn_t h1 h2] at this
      exact this
    have inner : ∀ t j, j + t = m → ∀ x4 : Int32, ((x4 = 1 ∧ ∀ j', j' < j → gm_tr p (li i) (li j') ≤ 0) ∨ (x4 = 0 ∧ ¬ (∀ j', j' < m → gm_tr p (li i) (li j') ≤ 0))) →
        wY_tangent_51 post (wY_tangent_37 post p (nI m) sp lf li (d + 1)) p (tn_f li m p i) (nI i) (nI m) sp lf li (t + 1) x4 (nI j) := by
      intro t
      induction t with
      | zero =>
        intro j hj x4 hx
        have e : j = m := by omega
        subst e
        refine br_t (nI_le (Nat.le_refl j) (by omega)) ?_
        rcases hx with ⟨rfl, hall⟩ | ⟨rfl, hno⟩
        · refine br_f (by decide) ?_
          rcases tn_P (p := p) hL i (by omega) with e | PT
          · exact br_t (by rw [e]; decide) (take hall (Or.inl e))
          · have ne : tn_f li j p i ≠ -10000 := fun e => by
              rw [e] at PT
              exact absurd PT.1 (by decide)
            have nlt : ¬ tn_f li j p i < 0 := fun z => by
              have z1 := Int32.lt_iff_toInt_lt.mp z
              have z0 : (0 : Int32).toInt = 0 := rfl
              have := PT.1
              omega
            have B2 := gm_sqB hp PT
            have e1 := i3_le (i := gm_sq p (tn_f li j p i)) (j := gm_sq p (li i)) (by omega) (by omega)
            refine br_f nlt ⟨vin, ?_⟩
            rw [nI_clamp (by omega)]
            refine wy_square hp Pi (wy_square hp PT ⟨fun hl => keep fun g => ?_, fun hl => take hall (Or.inr ?_)⟩)
            · have := e1.mp hl
              rcases g.2 with q | q
              · exact ne q
              · omega
            · have := mt e1.mpr hl
              omega
        · exact br_t rfl (keep fun g => hno g.1)
      | succ t iht =>
        intro j hj x4 hx
        refine br_f (nI_ge (by omega) (by omega)) ?_
        rcases hx with ⟨rfl, hall⟩ | ⟨rfl, hno⟩
        · have B := gm_trB hp Pi (hL j (by omega))
          have e1 := i3_gt0 (i := gm_tr p (li i) (li j)) (by omega)
          refine br_f (by decide) ⟨vin, vp_in_nI (by omega) (by omega), ?_⟩
          rw [nI_clamp (n := i) (by omega), nI_clamp (n := j) (by omega)]
          refine wy_turn hp Pi (hL j (by omega)) ⟨fun hg => nm_r (nI_1 j) (iht (j + 1) (by omega) 0 (Or.inr ⟨rfl, fun g => ?_⟩)), fun hg => nm_r (nI_1 j) (iht (j + 1) (by omega) 1 (Or.inl ⟨rfl, fun j' hj' => ?_⟩))⟩
          · have := e1.mp hg
            have := g j (by omega)
            omega
          · have := mt e1.mpr hg
            by_cases ej : j' = j
            · rw [ej]; omega
            · exact hall j' (by omega)
        · exact br_t rfl (nm_r (nI_1 j) (iht (j + 1) (by omega) 0 (Or.inr ⟨rfl, hno⟩)))
    exact br_f (nI_ge (by omega) (by omega)) ⟨_, inner m 0 (by omega) 1 (Or.inl ⟨rfl, fun j' hj' => by omega⟩)⟩
theorem i_vc_tangent {k : Nat} {u : SX} {v : SY} (I : i_Rel k u v) (hk : k + 3 ≤ 1536) (v1 : Int32) : wpX_tangent (fun r u' => wpY_tangent (fun r' v' => r' = r ∧ i_Rel (k + 3) u' v') v v1) u v1 := by
  obtain ⟨fp, fs, a0, a1, a2, a3⟩ := u
  obtain ⟨fm, sp, lf, li⟩ := v
  have I : rl_R fp a0 sp := I
  unfold wpX_tangent
  refine wx_isPlace (fun hp => br_f (by decide) ⟨fun z => ?_, fun nz => wx_hull I.1 fun m L b f hm hc => wx_stand I.1 hm hc hp fun v hv => ?_⟩) (fun hp => br_t rfl ?_)
  · unfold wpY_tangent
    refine wy_look I fun m' L' lf' hm' hy hr' => wy_isPlace (fun _ => br_f (by decide) (br_t ?_ ⟨rfl, I⟩)) (fun q => absurd hp q)
    rcases hl_of I.1 hr' with ⟨e, _⟩ | q
    · rw [e]; rfl
    · obtain ⟨i, hi, hb, _⟩ := gm_cS q q.1
      rw [mx_z z] at hb
      exact absurd hb (by decide)
  · have m0 : 0 < m := by
      rcases hc with ⟨_, hn⟩ | hc
      · obtain ⟨i, hi, hb⟩ := mx_nz I nz
        exact absurd ⟨i, hi, hb, rfl⟩ (hn (a0 i))
      · exact hc.1
    have Yside : ∀ (r : Int32) (u' : SX), rl_R u'.1 u'.2.2.1 sp → (v = 0 → r = tn_f L m v1 m) → (v ≠ 0 → r = -10000) → wpY_tangent (fun r' v' => r' = r ∧ i_Rel (k + 3) u' v') (fm, sp, lf, li) v1 := by
      intro r u' hrel h0 h1
      unfold wpY_tangent
      refine wy_look I fun m' L' lf' hm' hy hr' => wy_isPlace (fun _ => br_f (by decide) ?_) (fun q => absurd hp q)
      have hc' := hl_of I.1 hr'
      obtain ⟨em, eL⟩ := hl_un I.1 hc hc'
      subst em
      refine br_f (nI_ne0 m0 (by omega)) (wy_wher I.1 hm hc' hp fun v' hv' => ?_)
      have ev := hl_stu I.1 hp hv' hv
      subst ev
      refine ⟨fun e => ?_, fun e => ⟨(h1 fun z => e (by rw [z]; decide)).symm, hrel⟩⟩
      have ev : v' = 0 := by
        rcases hl_st3 hv' with q | q | q
        · exact q
        · rw [q] at e; exact absurd e (by decide)
        · rw [q] at e; exact absurd e (by decide)
      refine ⟨_, tn_Y hm (fun i hi => hl_P I.1 hc' hi) hp ⟨?_, hrel⟩ m 0 (by omega)⟩
      rw [h0 ev, tn_c eL m (Nat.le_refl m)]
    refine ⟨fun e => ?_, fun e => Yside _ _ I (fun z => absurd z e) (fun _ => rfl)⟩
    refine ⟨_, tn_X hm (fun i hi => hl_P I.1 hc hi) hp (Yside _ _ I (fun _ => rfl) (fun z => absurd e z)) m 0 (by omega) 0 (Or.inl rfl)⟩
  · unfold wpY_tangent
    exact wy_look I fun m' L' lf' hm' hy hr' => wy_isPlace (fun q => absurd q hp) (fun _ => br_t rfl ⟨rfl, I⟩)
