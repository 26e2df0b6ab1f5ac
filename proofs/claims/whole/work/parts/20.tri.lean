/-- y is the greatest doubled area -/
def tg_M (S : Int32 → Prop) (y : Int) : Prop := 0 ≤ y ∧ (y = 0 ∨ ∃ p q r, S p ∧ S q ∧ S r ∧ y = gm_tr p q r) ∧ ∀ p q r, S p → S q → S r → gm_tr p q r ≤ y
theorem tg_u {S : Int32 → Prop} {y y' : Int} (h : tg_M S y) (h' : tg_M S y') : y = y' := by
  have key : ∀ {y y' : Int}, tg_M S y → tg_M S y' → y ≤ y' := by
    intro y y' h h'
    rcases h.2.1 with e | ⟨p, q, r, hp, hq, hr, e⟩
    · have := h'.1; omega
    · have := h'.2.2 p q r hp hq hr; omega
  have a := key h h'
  have b := key h' h
  omega
theorem wx_great {post : Int32 → Prop} {fp : Int32} {a0 b a2 a3 : Nat → Int32} {S : Int32 → Prop} {N i j : Nat} (hN : N ≤ 24) (hI : sp_I S b N) (hi : i < N) (hj : j < i)
    (h : ∀ y : Int, 0 ≤ y → y ≤ 7938 → (y = 0 ∨ ∃ p q r, S p ∧ S q ∧ S r ∧ y = gm_tr p q r) → (∀ t, t < j → gm_tr (b i) (b j) (b t) ≤ y ∧ - gm_tr (b i) (b j) (b t) ≤ y) → post (Int32.ofInt y)) : wpX_greatestOn post (fp, nI N, a0, b, a2, a3) (nI i) (nI j) := by
  have hS : ∀ i, i < N → S (b i) := fun i hi => (hI.2.2 _).mpr ⟨i, hi, rfl⟩
  have key : ∀ d t, t + d = j → ∀ y : Int, 0 ≤ y → y ≤ 7938 → (y = 0 ∨ ∃ p q r, S p ∧ S q ∧ S r ∧ y = gm_tr p q r) → (∀ t', t' < t → gm_tr (b i) (b j) (b t') ≤ y ∧ - gm_tr (b i) (b j) (b t') ≤ y) → wX_greatestOn_5 post (nI i) (nI j) fp (nI N) a0 b a2 a3 (d + 1) (Int32.ofInt y) (nI t) := by
    intro d
    induction d with
    | zero =>
      intro t ht y y0 yB ye yl
      rw [show t = j by omega] at yl ⊢
      exact br_t (nI_le (Nat.le_refl j) (by omega)) (h y y0 yB ye yl)
    | succ d ih =>
      intro t ht y y0 yB ye yl
      have B := gm_trB (hI.1 i hi) (hI.1 j (by omega)) (hI.1 t (by omega))
      have e1 := i3_ge0 (i := gm_tr (b i) (b j) (b t)) (by omega)
      have st : ∀ z : Int, 0 ≤ z → z ≤ 7938 → (∃ p q r, S p ∧ S q ∧ S r ∧ z = gm_tr p q r) → gm_tr (b i) (b j) (b t) ≤ z → - gm_tr (b i) (b j) (b t) ≤ z →
          wX_greatestOn_45 post (wX_greatestOn_5 post (nI i) (nI j) fp (nI N) a0 b a2 a3 (d + 1)) (nI i) (nI j) (Int32.ofInt y) (nI t) (Int32.ofInt z) fp (nI N) a0 b a2 a3 := by
        intro z z0 zB ze z1 z2
        have e2 := i3_le (i := z) (j := y) (by omega) (by omega)
        refine ⟨fun hl => nm_r (nI_1 t) (ih (t + 1) (by omega) y y0 yB ye fun t' ht' => ?_), fun hl => nm_r (nI_1 t) (ih (t + 1) (by omega) z z0 zB (Or.inr ze) fun t' ht' => ?_)⟩
        · have := e2.mp hl
          by_cases et : t' = t
          · rw [et]; omega
          · exact yl t' (by omega)
        · have := mt e2.mpr hl
          by_cases et : t' = t
          · rw [et]; exact ⟨z1, z2⟩
          · have := yl t' (by omega)
            omega
      refine br_f (nI_ge (by omega) (by omega)) ⟨vp_in_nI (by omega) (by omega), vp_in_nI (by omega) (by omega), vp_in_nI (by omega) (by omega), ?_⟩
      rw [nI_clamp (n := i) (by omega), nI_clamp (n := j) (by omega), nI_clamp (n := t) (by omega)]
      refine wx_turn ⟨fun hg => st _ (e1.mp hg) (by omega) ⟨_, _, _, hS i hi, hS j (by omega), hS t (by omega), rfl⟩ (Int.le_refl _) (by have := e1.mp hg; omega), fun hg => ?_⟩
      have ng := mt e1.mpr hg
      refine nm_r (show -(Int32.ofInt (gm_tr (b i) (b j) (b t))) = Int32.ofInt (-gm_tr (b i) (b j) (b t)) from (Int32.ofInt_neg _).symm) ?_
      exact st _ (by omega) (by omega) ⟨_, _, _, hS i hi, hS t (by omega), hS j (by omega), (gm_swp _ _ _).symm⟩ (by omega) (Int.le_refl _)
  exact ⟨_, key j 0 (by omega) 0 (by omega) (by omega) (Or.inl rfl) (fun t ht => by omega)⟩
theorem tg_all {S : Int32 → Prop} {b : Nat → Int32} {N : Nat} (hI : sp_I S b N) {y : Int} (y0 : 0 ≤ y) (yl : ∀ u v w, w < v → v < u → u < N → gm_tr (b u) (b v) (b w) ≤ y ∧ - gm_tr (b u) (b v) (b w) ≤ y) : ∀ p q r, S p → S q → S r → gm_tr p q r ≤ y := by
  intro p q r hp hq hr
  obtain ⟨u, hu, rfl⟩ := (hI.2.2 p).mp hp
  obtain ⟨v, hv, rfl⟩ := (hI.2.2 q).mp hq
  obtain ⟨w, hw, rfl⟩ := (hI.2.2 r).mp hr
  have s1 : gm_tr (b u) (b v) (b w) = - gm_tr (b u) (b w) (b v) := by unfold gm_tr; grind
  have s2 : gm_tr (b u) (b v) (b w) = - gm_tr (b v) (b u) (b w) := by unfold gm_tr; grind
  have s3 : gm_tr (b u) (b v) (b w) = gm_tr (b v) (b w) (b u) := by unfold gm_tr; grind
  have s4 : gm_tr (b u) (b v) (b w) = gm_tr (b w) (b u) (b v) := by unfold gm_tr; grind
  have s5 : gm_tr (b u) (b v) (b w) = - gm_tr (b w) (b v) (b u) := by unfold gm_tr; grind
  by_cases c1 : u = v
  · rw [c1, gm_ppr]; exact y0
  by_cases c2 : v = w
  · rw [c2, gm_prr]; exact y0
  by_cases c3 : u = w
  · rw [c3, gm_prp]; exact y0
  by_cases d1 : v < u
  · by_cases d2 : w < v
    · exact (yl u v w d2 d1 hu).1
    · by_cases d3 : w < u
      · have := yl u w v (by omega) d3 hu; omega
      · have := yl w u v d1 (by omega) hw; omega
  · by_cases d2 : w < u
    · have := yl v u w d2 (by omega) hv; omega
    · by_cases d3 : w < v
      · have := yl v w u (by omega) d3 hv; omega
      · have := yl w v u (by omega) (by omega) hw; omega
theorem wx_triangle {post : Int32 → SX → Prop} {fp fs : Int32} {a0 a1 a2 a3 : Nat → Int32} (hP : ∀ k, k < 24 → gm_P (a0 k)) (h1 : ∀ b f y, tg_M (pl_S fp a0 24) y → post (Int32.ofInt y) (fp, f, a0, b, a2, a3)) : wpX_triangle post (fp, fs, a0, a1, a2, a3) := by
  unfold wpX_triangle
  refine wx_gather hP fun b N hN hI => ?_
  have outer : ∀ d i, i + d = N → ∀ y : Int, 0 ≤ y → y ≤ 7938 → (y = 0 ∨ ∃ p q r, pl_S fp a0 24 p ∧ pl_S fp a0 24 q ∧ pl_S fp a0 24 r ∧ y = gm_tr p q r) → (∀ u v w, w < v → v < u → u < i → gm_tr (b u) (b v) (b w) ≤ y ∧ - gm_tr (b u) (b v) (b w) ≤ y) → wX_triangle_12 post fp (nI N) a0 b a2 a3 (d + 1) (Int32.ofInt y) (nI i) := by
    intro d
    induction d with
    | zero =>
      intro i hi y y0 yB ye yl
      have e : i = N := by omega
      subst e
      exact br_t (nI_le (Nat.le_refl i) (by omega)) (h1 b _ y ⟨y0, ye, tg_all hI y0 yl⟩)
    | succ d ih =>
      intro i hi y y0 yB ye yl
      refine br_f (nI_ge (by omega) (by omega)) ?_
      have inner : ∀ t j, j + t = i → ∀ y : Int, 0 ≤ y → y ≤ 7938 → (y = 0 ∨ ∃ p q r, pl_S fp a0 24 p ∧ pl_S fp a0 24 q ∧ pl_S fp a0 24 r ∧ y = gm_tr p q r) → (∀ u v w, w < v → v < u → u < i → gm_tr (b u) (b v) (b w) ≤ y ∧ - gm_tr (b u) (b v) (b w) ≤ y) → (∀ v w, w < v → v < j → gm_tr (b i) (b v) (b w) ≤ y ∧ - gm_tr (b i) (b v) (b w) ≤ y) →
          wX_triangle_22 post (wX_triangle_12 post fp (nI N) a0 b a2 a3 (d + 1)) (nI i) fp (nI N) a0 b a2 a3 (t + 1) (Int32.ofInt y) (nI j) := by
        intro t
        induction t with
        | zero =>
          intro j hj y y0 yB ye yl yj
          refine br_t (nI_le (by omega) (by omega)) (nm_r (nI_1 i) (ih (i + 1) (by omega) y y0 yB ye fun u v w hwv hvu hu => ?_))
          by_cases eu : u = i
          · rw [eu]; exact yj v w hwv (by omega)
          · exact yl u v w hwv hvu (by omega)
        | succ t iht =>
          intro j hj y y0 yB ye yl yj
          refine br_f (nI_ge (by omega) (by omega)) (wx_great hN hI (by omega) (by omega) fun z z0 zB ze zl => ?_)
          have e1 := i3_le (i := z) (j := y) (by omega) (by omega)
          refine ⟨fun hl => nm_r (nI_1 j) (iht (j + 1) (by omega) y y0 yB ye yl fun v w hwv hv => ?_), fun hl => nm_r (nI_1 j) (iht (j + 1) (by omega) z z0 zB ze (fun u v w hwv hvu hu => ?_) fun v w hwv hv => ?_)⟩
          · have := e1.mp hl
            by_cases ev : v = j
            · have := zl w (by omega)
              rw [ev]; omega
            · exact yj v w hwv (by omega)
          · have := mt e1.mpr hl
            have := yl u v w hwv hvu hu
            omega
          · have := mt e1.mpr hl
            by_cases ev : v = j
            · rw [ev]; exact zl w (by omega)
            · have := yj v w hwv (by omega)
              omega
      exact ⟨_, inner i 0 (by omega) y y0 yB ye yl (fun v w _ hv => by omega)⟩
  exact ⟨_, outer N 0 (by omega) 0 (by omega) (by omega) (Or.inl rfl) (fun u v w _ _ hu => by omega)⟩
theorem wy_triangle {post : Int32 → Prop} {fm fp : Int32} {a0 sp lf li : Nat → Int32} (I : rl_R fp a0 sp) (h1 : ∀ y, tg_M (pl_S fp a0 24) y → post (Int32.ofInt y)) : wpY_triangle post (fm, sp, lf, li) := by
  have outer : ∀ d c, c + d = 576 → ∀ y : Int, 0 ≤ y → y ≤ 7938 → (y = 0 ∨ ∃ p q r, pl_S fp a0 24 p ∧ pl_S fp a0 24 q ∧ pl_S fp a0 24 r ∧ y = gm_tr p q r) → (∀ c', c' < c → bt fp (c' / 24) = true → bt fp (c' % 24) = true → ∀ k, k < 24 → bt fp k = true → gm_tr (a0 (c' / 24)) (a0 (c' % 24)) (a0 k) ≤ y) → wY_triangle_4 post fm sp lf li (d + 1) (Int32.ofInt y) (nI c) := by
    intro d
    induction d with
    | zero =>
      intro c hc y y0 yB ye yl
      refine br_t (nI_le (a := 576) (by omega) (by omega)) (h1 y ⟨y0, ye, ?_⟩)
      rintro p q r ⟨u, hu, hbu, rfl⟩ ⟨v, hv, hbv, rfl⟩ ⟨w, hw, hbw, rfl⟩
      have := yl (u * 24 + v) (by omega)
      rw [show (u * 24 + v) / 24 = u by omega, show (u * 24 + v) % 24 = v by omega] at this
      exact this hbu hbv w hw hbw
    | succ d ih =>
      intro c hc y y0 yB ye yl
      obtain ⟨e1, e2⟩ := mx_div (c := c) (by omega)
      refine br_f (nI_ge (b := 576) (by omega) (by omega)) ?_
      have inner : ∀ t k, k + t = 24 → ∀ y : Int, 0 ≤ y → y ≤ 7938 → (y = 0 ∨ ∃ p q r, pl_S fp a0 24 p ∧ pl_S fp a0 24 q ∧ pl_S fp a0 24 r ∧ y = gm_tr p q r) → (∀ c', c' < c → bt fp (c' / 24) = true → bt fp (c' % 24) = true → ∀ k, k < 24 → bt fp k = true → gm_tr (a0 (c' / 24)) (a0 (c' % 24)) (a0 k) ≤ y) →
          (bt fp (c / 24) = true → bt fp (c % 24) = true → ∀ k', k' < k → bt fp k' = true → gm_tr (a0 (c / 24)) (a0 (c % 24)) (a0 k') ≤ y) →
          wY_triangle_13 post (wY_triangle_4 post fm sp lf li (d + 1)) (nI c) fm sp lf li (t + 1) (Int32.ofInt y) (nI k) := by
        intro t
        induction t with
        | zero =>
          intro k hk y y0 yB ye yl yk
          refine br_t (nI_le (a := 24) (by omega) (by omega)) (nm_r (nI_1 c) (ih (c + 1) (by omega) y y0 yB ye fun c' hc' b1 b2 k' hk' b3 => ?_))
          by_cases ec : c' = c
          · rw [ec] at b1 b2 ⊢; exact yk b1 b2 k' (by omega) b3
          · exact yl c' (by omega) b1 b2 k' hk' b3
        | succ t iht =>
          intro k hk y y0 yB ye yl yk
          have no : ¬ (bt fp (c / 24) = true ∧ bt fp (c % 24) = true ∧ bt fp k = true) → wY_triangle_86 post (wY_triangle_4 post fm sp lf li (d + 1)) (wY_triangle_13 post (wY_triangle_4 post fm sp lf li (d + 1)) (nI c) fm sp lf li (t + 1)) (Int32.ofInt y) (nI c) (nI k) fm sp lf li := by
            intro hn
            refine br_t ((i3_ge0 (by omega)).mpr y0) (nm_r (nI_1 k) (iht (k + 1) (by omega) y y0 yB ye yl fun b1 b2 k' hk' b3 => ?_))
            by_cases ek : k' = k
            · rw [ek] at b3; exact absurd ⟨b1, b2, b3⟩ hn
            · exact yk b1 b2 k' (by omega) b3
          refine br_f (nI_ge (b := 24) (by omega) (by omega)) ⟨wy_24, ?_⟩
          rw [e2, e1]
          refine wy_is I (by omega) (fun b1 => br_f (by decide) ⟨wy_24, wy_is I (by omega) (fun b2 => br_f (by decide) (wy_is I (by omega) (fun b3 => br_f (by decide) ⟨wy_24, vp_in_nI (by omega) (by omega), wy_24, vp_in_nI (by omega) (by omega), vp_in_nI (by omega) (by omega), ?_⟩) (fun b3 => br_t rfl (no fun q => absurd q.2.2 (by rw [b3]; decide))))) (fun b2 => br_t rfl (no fun q => absurd q.2.1 (by rw [b2]; decide)))⟩) (fun b1 => br_t rfl (no fun q => absurd q.1 (by rw [b1]; decide)))
          rw [nI_clamp (n := c / 24) (by omega), nI_clamp (n := c % 24) (by omega), nI_clamp (n := k) (by omega), rl_1 I (by omega) b1, rl_1 I (by omega) b2, rl_1 I (by omega) b3]
          have P1 := I.1 (c / 24) (by omega)
          have P2 := I.1 (c % 24) (by omega)
          have P3 := I.1 k (by omega)
          have B := gm_trB P1 P2 P3
          have e3 := i3_le (i := gm_tr (a0 (c / 24)) (a0 (c % 24)) (a0 k)) (j := y) (by omega) (by omega)
          refine wy_turn P1 P2 P3 ⟨fun hl => nm_r (nI_1 k) (iht (k + 1) (by omega) y y0 yB ye yl fun b1' b2' k' hk' b3' => ?_), fun hl => nm_r (nI_1 k) (iht (k + 1) (by omega) _ ?_ B.2 (Or.inr ⟨_, _, _, ⟨_, by omega, b1, rfl⟩, ⟨_, by omega, b2, rfl⟩, ⟨_, by omega, b3, rfl⟩, rfl⟩) (fun c' hc' b1' b2' k' hk' b3' => ?_) fun b1' b2' k' hk' b3' => ?_)⟩
          · by_cases ek : k' = k
            · rw [ek]; exact e3.mp hl
            · exact yk b1' b2' k' (by omega) b3'
          · have := mt e3.mpr hl
            omega
          · have := mt e3.mpr hl
            have := yl c' hc' b1' b2' k' hk' b3'
            omega
          · have := mt e3.mpr hl
            by_cases ek : k' = k
            · rw [ek]; exact Int.le_refl _
            · have := yk b1' b2' k' (by omega) b3'
              omega
      exact ⟨_, inner 24 0 (by omega) y y0 yB ye yl (fun _ _ k' hk' => by omega)⟩
  exact ⟨_, outer 576 0 (by omega) 0 (by omega) (by omega) (Or.inl rfl) (fun c' hc' => by omega)⟩
theorem i_vc_triangle {k : Nat} {u : SX} {v : SY} (I : i_Rel k u v) (hk : k + 3 ≤ 1536) : wpX_triangle (fun r u' => wpY_triangle (fun r' => r' = r ∧ i_Rel (k + 3) u' v) v) u := by
  obtain ⟨fp, fs, a0, a1, a2, a3⟩ := u
  obtain ⟨fm, sp, lf, li⟩ := v
  have I : rl_R fp a0 sp := I
  exact wx_triangle I.1 (fun b f y hy => wy_triangle I (fun y' hy' => ⟨by rw [tg_u hy' hy], I⟩))
