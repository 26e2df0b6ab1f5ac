theorem mx_nz {fp : Int32} {a0 sp : Nat → Int32} (I : rl_R fp a0 sp) (h : fp ≠ 0) : ∃ k, k < 24 ∧ bt fp k = true := by
  apply Classical.byContradiction
  intro hn
  apply h
  apply b_ext
  intro i hi
  rw [b_0]
  by_cases c : i < 24
  · cases e : bt fp i
    · rfl
    · exact absurd ⟨i, c, e⟩ hn
  · exact I.2.1 i (by omega) hi
theorem mx_z {fp : Int32} (h : fp = 0) (k : Nat) : bt fp k = false := by rw [h, b_0]
theorem gm_sqs (p q : Int32) : gm_sq p q = gm_sq q p := by unfold gm_sq; grind
theorem gm_sqpp (p : Int32) : gm_sq p p = 0 := by unfold gm_sq; grind
/-- y is the greatest square -/
def fr_M (S : Int32 → Prop) (y : Int) : Prop := (∃ p q, S p ∧ S q ∧ y = gm_sq p q) ∧ ∀ p q, S p → S q → gm_sq p q ≤ y
theorem fr_u {S : Int32 → Prop} {y y' : Int} (h : fr_M S y) (h' : fr_M S y') : y = y' := by
  obtain ⟨⟨p, q, hp, hq, e⟩, hl⟩ := h
  obtain ⟨⟨p', q', hp', hq', e'⟩, hl'⟩ := h'
  have a := hl p' q' hp' hq'
  have b := hl' p q hp hq
  omega
theorem wx_farthest {post : Int32 → SX → Prop} {fp fs : Int32} {a0 a1 a2 a3 : Nat → Int32} {sp : Nat → Int32} (I : rl_R fp a0 sp) (h0 : fp = 0 → post (-10000) (fp, fs, a0, a1, a2, a3)) (h1 : fp ≠ 0 → ∀ b f y, fr_M (pl_S fp a0 24) y → post (Int32.ofInt y) (fp, f, a0, b, a2, a3)) : wpX_farthest post (fp, fs, a0, a1, a2, a3) := by
  unfold wpX_farthest
  refine ⟨h0, fun nz => wx_gather I.1 fun b N hN hI => ?_⟩
  have hS : ∀ i, i < N → pl_S fp a0 24 (b i) := fun i hi => (hI.2.2 _).mpr ⟨i, hi, rfl⟩
  have outer : ∀ d i, i + d = N → ∀ y : Int, 0 ≤ y → y ≤ 7938 → (y = 0 ∨ ∃ p q, pl_S fp a0 24 p ∧ pl_S fp a0 24 q ∧ y = gm_sq p q) → (∀ u v, v < u → u < i → gm_sq (b u) (b v) ≤ y) → wX_farthest_23 post fp (nI N) a0 b a2 a3 (d + 1) (Int32.ofInt y) (nI i) := by
    intro d
    induction d with
    | zero =>
      intro i hi y y0 yB ye yl
      refine br_t (nI_le (by omega) (by omega)) (h1 nz b _ y ⟨?_, fun p q hp hq => ?_⟩)
      · rcases ye with e | e
        · obtain ⟨k, hk, hb⟩ := mx_nz I nz
          exact ⟨a0 k, a0 k, ⟨k, hk, hb, rfl⟩, ⟨k, hk, hb, rfl⟩, by rw [gm_sqpp]; exact e⟩
        · exact e
      · obtain ⟨u, hu, rfl⟩ := (hI.2.2 p).mp hp
        obtain ⟨v, hv, rfl⟩ := (hI.2.2 q).mp hq
        rcases Nat.lt_trichotomy u v with c | c | c
        · rw [gm_sqs]; exact yl v u c (by omega)
        · rw [c, gm_sqpp]; exact y0
        · exact yl u v c (by omega)
    | succ d ih =>
      intro i hi y y0 yB ye yl
      refine br_f (nI_ge (by omega) (by omega)) ?_
      have inner : ∀ t j, j + t = i → ∀ y : Int, 0 ≤ y → y ≤ 7938 → (y = 0 ∨ ∃ p q, pl_S fp a0 24 p ∧ pl_S fp a0 24 q ∧ y = gm_sq p q) → (∀ u v, v < u → u < i → gm_sq (b u) (b v) ≤ y) → (∀ v, v < j → gm_sq (b i) (b v) ≤ y) →
          wX_farthest_33 post (wX_farthest_23 post fp (nI N) a0 b a2 a3 (d + 1)) (nI i) fp (nI N) a0 b a2 a3 (t + 1) (Int32.ofInt y) (nI j) := by
        intro t
        induction t with
        | zero =>
          intro j hj y y0 yB ye yl yj
          refine br_t (nI_le (by omega) (by omega)) (nm_r (nI_1 i) (ih (i + 1) (by omega) y y0 yB ye fun u v huv hu => ?_))
          by_cases eu : u = i
          · rw [eu]; exact yj v (by omega)
          · exact yl u v huv (by omega)
        | succ t iht =>
          intro j hj y y0 yB ye yl yj
          have B := gm_sqB (hI.1 i (by omega)) (hI.1 j (by omega))
          have e1 := i3_le (i := gm_sq (b i) (b j)) (j := y) (by omega) (by omega)
          refine br_f (nI_ge (by omega) (by omega)) ⟨vp_in_nI (by omega) (by omega), vp_in_nI (by omega) (by omega), ?_⟩
          rw [nI_clamp (n := i) (by omega), nI_clamp (n := j) (by omega)]
          refine wx_square ⟨fun hl => nm_r (nI_1 j) (iht (j + 1) (by omega) y y0 yB ye yl fun v hv => ?_), fun hl => nm_r (nI_1 j) (iht (j + 1) (by omega) _ B.1 B.2 (Or.inr ⟨_, _, hS i (by omega), hS j (by omega), rfl⟩) (fun u v huv hu => ?_) fun v hv => ?_)⟩
          · by_cases ev : v = j
            · rw [ev]; exact e1.mp hl
            · exact yj v (by omega)
          · have := mt e1.mpr hl
            have := yl u v huv hu
            omega
          · have := mt e1.mpr hl
            by_cases ev : v = j
            · rw [ev]; exact Int.le_refl _
            · have := yj v (by omega)
              omega
      exact ⟨_, inner i 0 (by omega) y y0 yB ye yl (fun v hv => by omega)⟩
  exact ⟨_, outer N 0 (by omega) 0 (by omega) (by omega) (Or.inl rfl) (fun u v _ hu => by omega)⟩
theorem mx_div {c : Nat} (h : c < 576) : nI c / 24 = nI (c / 24) ∧ nI c - nI c / 24 * 24 = nI (c % 24) := ⟨pk_div (d := 24) (by omega) (by omega) (by omega), pk_rem (d := 24) (by omega) (by omega) (by omega)⟩
theorem mx_bad : Int32.ofInt (-10000) = (-10000 : Int32) := by decide
theorem wy_farthest {post : Int32 → Prop} {fm fp : Int32} {a0 sp lf li : Nat → Int32} (I : rl_R fp a0 sp) (h0 : fp = 0 → post (-10000)) (h1 : fp ≠ 0 → ∀ y, fr_M (pl_S fp a0 24) y → post (Int32.ofInt y)) : wpY_farthest post (fm, sp, lf, li) := by
  have key : ∀ d c, c + d = 576 → ∀ y : Int, (y = -10000 ∨ ∃ p q, pl_S fp a0 24 p ∧ pl_S fp a0 24 q ∧ y = gm_sq p q) → (∀ c', c' < c → bt fp (c' / 24) = true → bt fp (c' % 24) = true → gm_sq (a0 (c' / 24)) (a0 (c' % 24)) ≤ y) → wY_farthest_6 post fm sp lf li (d + 1) (Int32.ofInt y) (nI c) := by
    intro d
    induction d with
    | zero =>
      intro c hc y ye yl
      refine br_t (nI_le (a := 576) (by omega) (by omega)) ?_
      have all : ∀ p q, pl_S fp a0 24 p → pl_S fp a0 24 q → gm_sq p q ≤ y := by
        rintro p q ⟨u, hu, hbu, rfl⟩ ⟨v, hv, hbv, rfl⟩
        have := yl (u * 24 + v) (by omega)
        rw [show (u * 24 + v) / 24 = u by omega, show (u * 24 + v) % 24 = v by omega] at this
        exact this hbu hbv
      by_cases nz : fp = 0
      · rcases ye with e | ⟨p, q, ⟨u, hu, hbu, _⟩, _⟩
        · rw [e, mx_bad]; exact h0 nz
        · rw [mx_z nz] at hbu; exact absurd hbu (by decide)
      · refine h1 nz y ⟨?_, all⟩
        rcases ye with e | e
        · obtain ⟨k, hk, hb⟩ := mx_nz I nz
          have := all _ _ ⟨k, hk, hb, rfl⟩ ⟨k, hk, hb, rfl⟩
          rw [gm_sqpp] at this
          omega
        · exact e
    | succ d ih =>
      intro c hc y ye yl
      have By : -10000 ≤ y ∧ y ≤ 7938 := by
        rcases ye with e | ⟨p, q, hp, hq, e⟩
        · omega
        · have := gm_sqB (pl_P I.1 p hp) (pl_P I.1 q hq)
          omega
      obtain ⟨e1, e2⟩ := mx_div (c := c) (by omega)
      have no : (¬ (bt fp (c / 24) = true ∧ bt fp (c % 24) = true)) → wY_farthest_64 post (wY_farthest_6 post fm sp lf li (d + 1)) (Int32.ofInt y) (nI c) fm sp lf li := by
        intro hn
        refine br_t (by rw [← mx_bad]; exact (i3_le (by omega) (by omega)).mpr By.1) (nm_r (nI_1 c) (ih (c + 1) (by omega) y ye fun c' hc' b1 b2 => ?_))
        by_cases ec : c' = c
        · rw [ec] at b1 b2; exact absurd ⟨b1, b2⟩ hn
        · exact yl c' (by omega) b1 b2
      refine br_f (nI_ge (b := 576) (by omega) (by omega)) ⟨wy_24, ?_⟩
      rw [e2, e1]
      refine wy_is I (by omega) (fun b1 => br_f (by decide) ⟨wy_24, wy_is I (by omega) (fun b2 => br_f (by decide) ⟨wy_24, vp_in_nI (by omega) (by omega), wy_24, vp_in_nI (by omega) (by omega), ?_⟩) (fun b2 => br_t rfl (no fun q => absurd q.2 (by rw [b2]; decide)))⟩) (fun b1 => br_t rfl (no fun q => absurd q.1 (by rw [b1]; decide)))
      rw [nI_clamp (n := c / 24) (by omega), nI_clamp (n := c % 24) (by omega), rl_1 I (by omega) b1, rl_1 I (by omega) b2]
      have P1 := I.1 (c / 24) (by omega)
      have P2 := I.1 (c % 24) (by omega)
      have B := gm_sqB P1 P2
      have e3 := i3_le (i := gm_sq (a0 (c / 24)) (a0 (c % 24))) (j := y) (by omega) (by omega)
      refine wy_square P1 P2 ⟨fun hl => nm_r (nI_1 c) (ih (c + 1) (by omega) y ye fun c' hc' b1' b2' => ?_), fun hl => nm_r (nI_1 c) (ih (c + 1) (by omega) _ (Or.inr ⟨_, _, ⟨_, by omega, b1, rfl⟩, ⟨_, by omega, b2, rfl⟩, rfl⟩) fun c' hc' b1' b2' => ?_)⟩
      · by_cases ec : c' = c
        · rw [ec]; exact e3.mp hl
        · exact yl c' (by omega) b1' b2'
      · have := mt e3.mpr hl
        by_cases ec : c' = c
        · rw [ec]; exact Int.le_refl _
        · have := yl c' (by omega) b1' b2'
          omega
  exact ⟨_, key 576 0 (by omega) (-10000) (Or.inl rfl) (fun c' hc' => by omega)⟩
theorem i_vc_farthest {k : Nat} {u : SX} {v : SY} (I : i_Rel k u v) (hk : k + 3 ≤ 1536) : wpX_farthest (fun r u' => wpY_farthest (fun r' => r' = r ∧ i_Rel (k + 3) u' v) v) u := by
  obtain ⟨fp, fs, a0, a1, a2, a3⟩ := u
  obtain ⟨fm, sp, lf, li⟩ := v
  have I : rl_R fp a0 sp := I
  exact wx_farthest I (fun z => wy_farthest I (fun _ => ⟨rfl, I⟩) (fun nz => absurd z nz)) (fun nz b f y hy => wy_farthest I (fun z => absurd z nz) (fun _ y' hy' => ⟨by rw [fr_u hy' hy], I⟩))
/-- how far p reaches -/
def xt_r (dx dy p : Int32) : Int := dx.toInt * gm_x p + dy.toInt * gm_y p
theorem xt_E (dx dy p : Int32) : (dx * (p &&& 63)) + (dy * (p >>> ((6 : Int32) &&& 31))) = Int32.ofInt (xt_r dx dy p) := by
  unfold xt_r gm_x gm_y
  simp only [Int32.ofInt_mul, Int32.ofInt_add, Int32.ofInt_toInt]
def xt_st (d : Int32) : Prop := -64 ≤ d.toInt ∧ d.toInt ≤ 64
theorem xt_abs {a b : Int} (ha : -64 ≤ a ∧ a ≤ 64) (hb : 0 ≤ b ∧ b ≤ 63) : -4032 ≤ a * b ∧ a * b ≤ 4032 := by
  have h1 : a.natAbs ≤ 64 := by omega
  have h2 : b.natAbs ≤ 63 := by omega
  have h := Nat.mul_le_mul h1 h2
  rw [← Int.natAbs_mul] at h
  omega
theorem xt_B {dx dy p : Int32} (hx : xt_st dx) (hy : xt_st dy) (hp : gm_P p) : -8064 ≤ xt_r dx dy p ∧ xt_r dx dy p ≤ 8064 := by
  have c := gm_co hp
  have a := xt_abs hx (b := gm_x p) (by omega)
  have b := xt_abs hy (b := gm_y p) (by omega)
  unfold xt_r
  omega
theorem xt_c (d : Int32) : (d < -64 ↔ d.toInt < -64) ∧ (64 < d ↔ 64 < d.toInt) ∧ (d ≤ 64 ↔ d.toInt ≤ 64) := ⟨Int32.lt_iff_toInt_lt, Int32.lt_iff_toInt_lt, Int32.le_iff_toInt_le⟩
theorem wx_isStep {post : Int32 → Prop} {d : Int32} (h1 : xt_st d → post 1) (h0 : ¬ xt_st d → post 0) : wpX_isStep post d := by
  obtain ⟨e1, e2, _⟩ := xt_c d
  unfold xt_st at h1 h0
  refine ⟨fun c => h0 ?_, fun c => ⟨fun c2 => h0 ?_, fun c2 => h1 ?_⟩⟩
  · have := e1.mp c; omega
  · have := e2.mp c2; omega
  · have := mt e1.mpr c; have := mt e2.mpr c2; omega
def xt_M (S : Int32 → Prop) (dx dy : Int32) (y : Int) : Prop := (∃ p, S p ∧ y = xt_r dx dy p) ∧ ∀ p, S p → xt_r dx dy p ≤ y
theorem xt_u {S : Int32 → Prop} {dx dy : Int32} {y y' : Int} (h : xt_M S dx dy y) (h' : xt_M S dx dy y') : y = y' := by
  obtain ⟨⟨p, hp, e⟩, hl⟩ := h
  obtain ⟨⟨p', hp', e'⟩, hl'⟩ := h'
  have a := hl p' hp'
  have b := hl' p hp
  omega
theorem wx_extreme {post : Int32 → SX → Prop} {fp fs dx dy : Int32} {a0 a1 a2 a3 : Nat → Int32} {sp : Nat → Int32} (I : rl_R fp a0 sp) (h0 : (fp = 0 ∨ ¬ xt_st dx ∨ ¬ xt_st dy) → post (-10000) (fp, fs, a0, a1, a2, a3)) (h1 : fp ≠ 0 → xt_st dx → xt_st dy → ∀ b f y, xt_M (pl_S fp a0 24) dx dy y → post (Int32.ofInt y) (fp, f, a0, b, a2, a3)) : wpX_extreme post (fp, fs, a0, a1, a2, a3) dx dy := by
  unfold wpX_extreme
  refine ⟨fun z => h0 (Or.inl z), fun nz => wx_isStep (fun hx => br_f (by decide) (wx_isStep (fun hy => br_f (by decide) (wx_gather I.1 fun b N hN hI => ?_)) (fun hy => br_t rfl (h0 (Or.inr (Or.inr hy)))))) (fun hx => br_t rfl (h0 (Or.inr (Or.inl hx))))⟩
  have hS : ∀ i, i < N → pl_S fp a0 24 (b i) := fun i hi => (hI.2.2 _).mpr ⟨i, hi, rfl⟩
  have N0 : 0 < N := by
    obtain ⟨k, hk, hb⟩ := mx_nz I nz
    obtain ⟨i, hi, _⟩ := (hI.2.2 (a0 k)).mp ⟨k, hk, hb, rfl⟩
    omega
  unfold wpX_reach
  dsimp only
  rw [xt_E]
  have key : ∀ d i, i + d = N → ∀ y : Int, (∃ p, pl_S fp a0 24 p ∧ y = xt_r dx dy p) → (∀ u, u < i → xt_r dx dy (b u) ≤ y) → wX_extreme_48 post dx dy fp (nI N) a0 b a2 a3 (d + 1) (Int32.ofInt y) (nI i) := by
    intro d
    induction d with
    | zero =>
      intro i hi y ye yl
      refine br_t (nI_le (by omega) (by omega)) (h1 nz hx hy b _ y ⟨ye, fun p hp => ?_⟩)
      obtain ⟨u, hu, rfl⟩ := (hI.2.2 p).mp hp
      exact yl u (by omega)
    | succ d ih =>
      intro i hi y ye yl
      have By : -8064 ≤ y ∧ y ≤ 8064 := by
        obtain ⟨p, hp, e⟩ := ye
        rw [e]; exact xt_B hx hy (pl_P I.1 p hp)
      have B := xt_B hx hy (hI.1 i (by omega))
      have e1 := i3_le (i := xt_r dx dy (b i)) (j := y) (by omega) (by omega)
      refine br_f (nI_ge (by omega) (by omega)) ⟨vp_in_nI (by omega) (by omega), ?_⟩
      unfold wpX_reach
      rw [nI_clamp (by omega), xt_E]
      refine ⟨fun hl => nm_r (nI_1 i) (ih (i + 1) (by omega) y ye fun u hu => ?_), fun hl => nm_r (nI_1 i) (ih (i + 1) (by omega) _ ⟨_, hS i (by omega), rfl⟩ fun u hu => ?_)⟩
      · by_cases eu : u = i
        · rw [eu]; exact e1.mp hl
        · exact yl u (by omega)
      · have := mt e1.mpr hl
        by_cases eu : u = i
        · rw [eu]; exact Int.le_refl _
        · have := yl u (by omega)
          omega
  exact ⟨_, key (N - 1) 1 (by omega) _ ⟨_, hS 0 N0, rfl⟩ (fun u hu => by rw [show u = 0 by omega]; exact Int.le_refl _)⟩
theorem mx_low : Int32.ofInt (-100000) = (-100000 : Int32) := by decide
theorem wy_extreme {post : Int32 → Prop} {fm fp dx dy : Int32} {a0 sp lf li : Nat → Int32} (I : rl_R fp a0 sp) (h0 : (fp = 0 ∨ ¬ xt_st dx ∨ ¬ xt_st dy) → post (-10000)) (h1 : fp ≠ 0 → xt_st dx → xt_st dy → ∀ y, xt_M (pl_S fp a0 24) dx dy y → post (Int32.ofInt y)) : wpY_extreme post (fm, sp, lf, li) dx dy := by
  obtain ⟨x1, x2, _⟩ := xt_c dx
  obtain ⟨y1, _, y3⟩ := xt_c dy
  unfold wpY_extreme
  refine wy_points I ⟨fun z => h0 (Or.inl z), fun nz => ⟨fun c => h0 (Or.inr (Or.inl ?_)), fun c1 => ⟨fun c => h0 (Or.inr (Or.inl ?_)), fun c2 => ⟨fun c => h0 (Or.inr (Or.inr ?_)), fun c3 => ⟨fun c => ?_, fun c => h0 (Or.inr (Or.inr ?_))⟩⟩⟩⟩⟩
  · have := x1.mp c; unfold xt_st; omega
  · have := x2.mp c; unfold xt_st; omega
  · have := y1.mp c; unfold xt_st; omega
  · have hx : xt_st dx := by have := mt x1.mpr c1; have := mt x2.mpr c2; unfold xt_st; omega
    have hy : xt_st dy := by have := mt y1.mpr c3; have := y3.mp c; unfold xt_st; omega
    have key : ∀ d i, i + d = 24 → ∀ y : Int, (y = -100000 ∨ ∃ p, pl_S fp a0 24 p ∧ y = xt_r dx dy p) → (∀ u, u < i → bt fp u = true → xt_r dx dy (a0 u) ≤ y) → wY_extreme_41 post dx dy fm sp lf li (d + 1) (Int32.ofInt y) (nI i) := by
      intro d
      induction d with
      | zero =>
        intro i hi y ye yl
        have all : ∀ p, pl_S fp a0 24 p → xt_r dx dy p ≤ y := by
          rintro p ⟨u, hu, hb, rfl⟩
          exact yl u (by omega) hb
        refine br_t (nI_le (a := 24) (by omega) (by omega)) (h1 nz hx hy y ⟨?_, all⟩)
        rcases ye with e | e
        · obtain ⟨k, hk, hb⟩ := mx_nz I nz
          have := all _ ⟨k, hk, hb, rfl⟩
          have := xt_B hx hy (I.1 k hk)
          omega
        · exact e
      | succ d ih =>
        intro i hi y ye yl
        have By : -100000 ≤ y ∧ y ≤ 8064 := by
          rcases ye with e | ⟨p, hp, e⟩
          · omega
          · have := xt_B hx hy (pl_P I.1 p hp)
            omega
        have P := I.1 i (by omega)
        have B := xt_B hx hy P
        have e1 := i3_le (i := xt_r dx dy (a0 i)) (j := y) (by omega) (by omega)
        refine br_f (nI_ge (b := 24) (by omega) (by omega)) (wy_is I (by omega) (fun hb => br_f (by decide) ⟨vp_in_nI (by omega) (by omega), wy_64, vp_in_nI (by omega) (by omega), wy_64, ?_⟩) (fun hb => br_t rfl (br_t (Int32.le_refl _) (nm_r (nI_1 i) (ih (i + 1) (by omega) y ye fun u hu hbu => ?_)))))
        · rw [nI_clamp (by omega), rl_1 I (by omega) hb, wy_rem P, wy_div P, xt_E]
          refine ⟨fun hl => nm_r (nI_1 i) (ih (i + 1) (by omega) y ye fun u hu hbu => ?_), fun hl => nm_r (nI_1 i) (ih (i + 1) (by omega) _ (Or.inr ⟨_, ⟨i, by omega, hb, rfl⟩, rfl⟩) fun u hu hbu => ?_)⟩
          · by_cases eu : u = i
            · rw [eu]; exact e1.mp hl
            · exact yl u (by omega) hbu
          · have := mt e1.mpr hl
            by_cases eu : u = i
            · rw [eu]; exact Int.le_refl _
            · have := yl u (by omega) hbu
              omega
        · by_cases eu : u = i
          · rw [eu, hb] at hbu; exact absurd hbu (by decide)
          · exact yl u (by omega) hbu
    exact ⟨_, key 24 0 (by omega) (-100000) (Or.inl rfl) (fun u hu => by omega)⟩
  · have := mt y3.mpr c; unfold xt_st; omega
theorem i_vc_extreme {k : Nat} {u : SX} {v : SY} (I : i_Rel k u v) (hk : k + 3 ≤ 1536) (v1 : Int32) (v2 : Int32) : wpX_extreme (fun r u' => wpY_extreme (fun r' => r' = r ∧ i_Rel (k + 3) u' v) v v1 v2) u v1 v2 := by
  obtain ⟨fp, fs, a0, a1, a2, a3⟩ := u
  obtain ⟨fm, sp, lf, li⟩ := v
  have I : rl_R fp a0 sp := I
  refine wx_extreme I (fun z => wy_extreme I (fun _ => ⟨rfl, I⟩) (fun nz hx hy => ?_)) (fun nz hx hy b f y hM => wy_extreme I (fun z => ?_) (fun _ _ _ y' hM' => ⟨by rw [xt_u hM' hM], I⟩))
  · rcases z with z | z | z
    · exact absurd z nz
    · exact absurd hx z
    · exact absurd hy z
  · rcases z with z | z | z
    · exact absurd z nz
    · exact absurd hx z
    · exact absurd hy z
