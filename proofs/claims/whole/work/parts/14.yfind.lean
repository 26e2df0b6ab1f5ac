/-- the reference's arrays show the points of x at the places a0 -/
def yc_R (x : Int32) (a0 sp lf : Nat → Int32) : Prop := (∀ k, k < 24 → gm_P (a0 k)) ∧ (∀ k, k < 24 → lf k = if bt x k = true then 1 else 0) ∧ (∀ k, k < 24 → bt x k = true → sp k = a0 k + 1)
theorem yc_0 {x : Int32} {a0 sp lf : Nat → Int32} (h : yc_R x a0 sp lf) {k : Nat} (hk : k < 24) : lf k = 0 ↔ bt x k = false := by
  rw [h.2.1 k hk]
  by_cases c : bt x k = true
  · rw [if_pos c, c]; decide
  · rw [if_neg c]; simp [c]
theorem yc_1 {x : Int32} {a0 sp lf : Nat → Int32} (h : yc_R x a0 sp lf) {k : Nat} (hk : k < 24) (hb : bt x k = true) : sp k - 1 = a0 k := by
  rw [h.2.2 k hk hb, Int32.add_sub_cancel]
theorem yc_S {x : Int32} {a0 sp lf : Nat → Int32} (h : yc_R x a0 sp lf) : ∀ r, pl_S x a0 24 r → gm_P r := by
  rintro r ⟨k, hk, _, rfl⟩
  exact h.1 k hk
theorem yc_nb : narrow .boolean (.int 0) = .int 0 ∧ narrow .boolean (.int 1) = .int 1 := ⟨by rfl, by rfl⟩
theorem yc_vn : vp_nar .boolean 0 = 0 ∧ vp_nar .boolean 1 = 1 := ⟨by rfl, by rfl⟩
theorem wy_turnA {post : Int32 → Prop} {u : SY} {a b c : Int32} (h : ∀ v, post v) : wpY_turn post u a b c := by
  obtain ⟨fm, sp, lf, li⟩ := u
  exact ⟨wy_64, wy_64, wy_64, wy_64, wy_64, wy_64, wy_64, wy_64, h _⟩
theorem wy_behindA {post : Int32 → Prop} {u : SY} {a b c : Int32} (h0 : post 0) (h1 : post 1) : wpY_behind post u a b c := by
  obtain ⟨fm, sp, lf, li⟩ := u
  exact ⟨wy_64, wy_64, wy_64, wy_64, wy_64, wy_64, wy_64, wy_64, fun _ => h0, fun _ => h1⟩
theorem wy_freeA {post : Int32 → Prop} {fm : Int32} {sp lf li : Nat → Int32} {p q : Int32} (h0 : post 0) (h1 : post 1) : wpY_free post (fm, sp, lf, li) p q := by
  have key : ∀ d i, i + d = 24 → wY_free_5 post p q fm sp lf li (d + 1) 0 (nI i) ∧ wY_free_5 post p q fm sp lf li (d + 1) 1 (nI i) := by
    intro d
    induction d with
    | zero =>
      intro i hi
      have l : (24 : Int32) ≤ nI i := nI_le (a := 24) (by omega) (by omega)
      exact ⟨br_t l ⟨yc_nb.1, h0⟩, br_t l ⟨yc_nb.2, h1⟩⟩
    | succ d ih =>
      intro i hi
      have l : ¬ (24 : Int32) ≤ nI i := nI_ge (b := 24) (by omega) (by omega)
      obtain ⟨i0, i1⟩ := ih (i + 1) (by omega)
      have vin : vp_in (nI i) 24 := vp_in_nI (by omega) (by omega)
      refine ⟨br_f l (br_t rfl ⟨yc_nb.1, h0⟩), br_f l (br_f (by decide) ⟨vin, nm_e ⟨vin, ?_⟩⟩)⟩
      have j : ∀ z, wY_free_49 post (wY_free_5 post p q fm sp lf li (d + 1)) p q (nI i) (sp (nI i).toNatClampNeg - 1) z fm sp lf li := by
        intro z
        exact ⟨fun _ => nm_r (nI_1 i) i1, fun _ => ⟨fun _ => wy_behindA (br_t rfl (nm_r (nI_1 i) i1)) (br_f (by decide) (nm_r (nI_1 i) i0)), fun _ => nm_r (nI_1 i) i0⟩⟩
      exact ⟨fun _ => j 1, fun _ => wy_turnA j⟩
  exact ⟨_, (key 24 0 (by omega)).2⟩
theorem wy_free {post : Int32 → Prop} {fm : Int32} {sp lf li : Nat → Int32} {x : Int32} {a0 : Nat → Int32} {p q : Int32} (h : yc_R x a0 sp lf) (hp : gm_P p) (hq : gm_P q)
    (h1 : (∀ r, pl_S x a0 24 r → gm_F p q r) → post 1) (h0 : (∃ r, pl_S x a0 24 r ∧ ¬ gm_F p q r) → post 0) : wpY_free post (fm, sp, lf, li) p q := by
  have kz : ∀ d i, i + d = 24 → (∃ r, pl_S x a0 24 r ∧ ¬ gm_F p q r) → wY_free_5 post p q fm sp lf li (d + 1) 0 (nI i) := by
    intro d i hi hn
    exact ⟨fun _ => ⟨yc_nb.1, h0 hn⟩, fun _ => br_t rfl ⟨yc_nb.1, h0 hn⟩⟩
  have key : ∀ d i, i + d = 24 → (∀ j, j < i → bt x j = true → gm_F p q (a0 j)) → wY_free_5 post p q fm sp lf li (d + 1) 1 (nI i) := by
    intro d
    induction d with
    | zero =>
      intro i hi hF
      refine br_t (nI_le (a := 24) (by omega) (by omega)) ⟨yc_nb.2, h1 ?_⟩
      rintro r ⟨k, hk, hb, rfl⟩
      exact hF k (by omega) hb
    | succ d ih =>
      intro i hi hF
      have l : ¬ (24 : Int32) ≤ nI i := nI_ge (b := 24) (by omega) (by omega)
      have vin : vp_in (nI i) 24 := vp_in_nI (by omega) (by omega)
      have good : (bt x i = true → gm_F p q (a0 i)) → wY_free_5 post p q fm sp lf li (d + 1) 1 (nI (i + 1)) := by
        intro hg
        refine ih (i + 1) (by omega) fun j hj hb => ?_
        by_cases ej : j = i
        · rw [ej] at hb ⊢; exact hg hb
        · exact hF j (by omega) hb
      refine br_f l (br_f (by decide) ⟨vin, nm_e ⟨vin, ?_⟩⟩)
      rw [nI_clamp (by omega)]
      refine ⟨fun c => br_t (by decide) (nm_r (nI_1 i) (good fun hb => ?_)), fun c => ?_⟩
      · rw [(yc_0 h (by omega)).mp c] at hb; exact absurd hb (by decide)
      · have hb : bt x i = true := by
          have := mt (yc_0 h (k := i) (by omega)).mpr c
          simpa using this
        rw [yc_1 h (by omega) hb]
        have hP := h.1 i (by omega)
        have hSi : pl_S x a0 24 (a0 i) := ⟨i, by omega, hb, rfl⟩
        have Bd := gm_trB hp hq hP
        have e1 := i3_gt0 (i := gm_tr p q (a0 i)) (by omega)
        have e2 := i3_eq0 (i := gm_tr p q (a0 i)) (by omega)
        refine wy_turn hp hq hP ⟨fun hg => nm_r (nI_1 i) (good fun _ => ?_), fun hg => ⟨fun hz => wy_behind hp hq hP (fun hd => br_t rfl (nm_r (nI_1 i) (good fun _ => ?_))) (fun hd => br_f (by decide) (nm_r (nI_1 i) (kz d (i + 1) (by omega) ⟨_, hSi, fun F => ?_⟩))), fun hz => nm_r (nI_1 i) (kz d (i + 1) (by omega) ⟨_, hSi, fun F => ?_⟩)⟩⟩
        · have := e1.mp hg
          exact ⟨by omega, fun z => by omega⟩
        · have := e2.mp hz
          exact ⟨by omega, fun _ => hd⟩
        · have := e2.mp hz
          have := F.2 this
          omega
        · have := mt e1.mpr hg
          have := mt e2.mpr hz
          have := F.1
          omega
  exact ⟨_, key 24 0 (by omega) (fun j hj => by omega)⟩
theorem pl_EF {x : Int32} {a0 : Nat → Int32} (hP : ∀ k, k < 24 → gm_P (a0 k)) {c : Int32} (hc : pl_S x a0 24 c) (hE : gm_E (pl_S x a0 24) c) : (∀ r, pl_S x a0 24 r → r = c) ∨ ∃ q, pl_S x a0 24 q ∧ q ≠ c ∧ ∀ r, pl_S x a0 24 r → gm_F c q r := by
  have hS : ∀ r, pl_S x a0 24 r → gm_P r := by rintro r ⟨k, hk, _, rfl⟩; exact hP k hk
  have e : ∀ r, pl_S x a0 24 r ↔ ∃ i, i < 24 ∧ (fun k => if bt x k = true then a0 k else c) i = r := by
    intro r
    constructor
    · rintro ⟨k, hk, hb, rfl⟩
      exact ⟨k, hk, by dsimp only; rw [if_pos hb]⟩
    · rintro ⟨k, hk, rfl⟩
      dsimp only
      by_cases hb : bt x k = true
      · rw [if_pos hb]; exact ⟨k, hk, hb, rfl⟩
      · rw [if_neg hb]; exact hc
  have e' : pl_S x a0 24 = fun r => ∃ i, i < 24 ∧ (fun k => if bt x k = true then a0 k else c) i = r := funext fun r => propext (e r)
  obtain ⟨q, hq, h⟩ := gm_nxX (s := 1) (Or.inl rfl) (hS c hc) (fun k => if bt x k = true then a0 k else c) 24 (fun i hi => hS _ ((e _).mpr ⟨i, hi, rfl⟩)) (e' ▸ hE)
  have h' : ∀ r, pl_S x a0 24 r → gm_N c q r := fun r hr => gm_N1.mpr (h r ((e r).mp hr))
  by_cases ne : q = c
  · refine Or.inl fun r hr => ?_
    have := h' r hr
    rw [ne] at this
    exact gm_uc (hS c hc) (hS r hr) (gm_N1.mp this)
  · have hqS : pl_S x a0 24 q := hq.elim (fun z => absurd z ne) (fun z => (e q).mpr z)
    exact Or.inr ⟨q, hqS, ne, gm_nxF ⟨hqS, h'⟩⟩
/-- isCorner of a point that isn't left -/
theorem wy_cornA {post : Int32 → Prop} {fm : Int32} {sp lf li : Nat → Int32} {k : Nat} (hk : k < 24) (hl : lf k = 0) (h0 : post 0) : wpY_isCorner post (fm, sp, lf, li) (nI k) := by
  have vk : vp_in (nI k) 24 := vp_in_nI hk (by omega)
  have k2 : ∀ d i, i + d = k → ∀ x3 x4, wY_isCorner_115 post (nI k) fm sp lf li (d + 1) x3 x4 (nI i) := by
    intro d
    induction d with
    | zero =>
      intro i hi x3 x4
      refine br_t (nI_le (by omega) (by omega)) ⟨vk, ?_⟩
      rw [nI_clamp (by omega)]
      exact br_t hl h0
    | succ d ih =>
      intro i hi x3 x4
      have vin : vp_in (nI i) 24 := vp_in_nI (by omega) (by omega)
      have j : ∀ z, wY_isCorner_157 post (wY_isCorner_115 post (nI k) fm sp lf li (d + 1)) (nI k) x3 (nI i) z fm sp lf li := by
        intro z
        exact ⟨fun _ => nm_r (nI_1 i) (ih (i + 1) (by omega) _ _), fun _ => ⟨vin, fun _ => nm_r (nI_1 i) (ih (i + 1) (by omega) _ _), fun _ => nm_r (nI_1 i) (ih (i + 1) (by omega) _ _)⟩⟩
      exact br_f (nI_ge (by omega) (by omega)) ⟨fun _ => j 0, fun _ => ⟨vin, fun _ => j 1, fun _ => ⟨vin, vk, fun _ => j 0, fun _ => j 1⟩⟩⟩
  have k1 : ∀ d i, i + d = 24 → ∀ x3 x4, wY_isCorner_17 post (nI k) (sp (nI k).toNatClampNeg - 1) fm sp lf li (d + 1) x3 x4 (nI i) := by
    intro d
    induction d with
    | zero =>
      intro i hi x3 x4
      exact br_t (nI_le (a := 24) (by omega) (by omega)) ⟨_, k2 k 0 (by omega) x3 x4⟩
    | succ d ih =>
      intro i hi x3 x4
      have vin : vp_in (nI i) 24 := vp_in_nI (by omega) (by omega)
      have nx : ∀ a b, ∀ y : Int32, y = nI i + 1 → wY_isCorner_17 post (nI k) (sp (nI k).toNatClampNeg - 1) fm sp lf li (d + 1) a b y := fun a b => nm_r (nI_1 i) (ih (i + 1) (by omega) a b)
      have j71 : ∀ x6 z, wY_isCorner_71 post (wY_isCorner_17 post (nI k) (sp (nI k).toNatClampNeg - 1) fm sp lf li (d + 1)) (nI k) (sp (nI k).toNatClampNeg - 1) x4 (nI i) x6 z fm sp lf li := by
        intro x6 z
        exact ⟨fun _ => ⟨fun _ => nx _ _, fun _ => ⟨vin, wy_freeA (br_t rfl (nx _ _)) (br_f (by decide) (nx _ _))⟩⟩, fun _ => nx _ _⟩
      have j55 : ∀ z, wY_isCorner_55 post (wY_isCorner_17 post (nI k) (sp (nI k).toNatClampNeg - 1) fm sp lf li (d + 1)) (nI k) (sp (nI k).toNatClampNeg - 1) x3 x4 (nI i) z fm sp lf li := by
        intro z
        exact ⟨fun _ => j71 z 0, fun _ => ⟨fun _ => j71 z 1, fun _ => j71 z 0⟩⟩
      exact br_f (nI_ge (b := 24) (by omega) (by omega)) ⟨vin, fun _ => j55 0, fun _ => ⟨vin, vk, fun _ => j55 0, fun _ => j55 1⟩⟩
  exact ⟨vk, nm_e ⟨_, k1 24 0 (by omega) 1 0⟩⟩
/-- isCorner of a point that is left -/
theorem wy_corn {post : Int32 → Prop} {fm : Int32} {sp lf li : Nat → Int32} {x : Int32} {a0 : Nat → Int32} {k : Nat} (h : yc_R x a0 sp lf) (hk : k < 24) (hb : bt x k = true)
    (h1 : (gm_E (pl_S x a0 24) (a0 k) ∧ ∀ j, j < k → bt x j = true → a0 j ≠ a0 k) → post 1) (h0 : (¬ (gm_E (pl_S x a0 24) (a0 k) ∧ ∀ j, j < k → bt x j = true → a0 j ≠ a0 k)) → post 0) : wpY_isCorner post (fm, sp, lf, li) (nI k) := by
  have vk : vp_in (nI k) 24 := vp_in_nI hk (by omega)
  have hS := yc_S h
  have hkS : pl_S x a0 24 (a0 k) := ⟨k, hk, hb, rfl⟩
  have lk : ¬ lf k = 0 := by rw [yc_0 h hk, hb]; decide
  have bz : ∀ {j}, j < 24 → ¬ lf j = 0 → bt x j = true := by
    intro j hj c
    have := mt (yc_0 h hj).mpr c
    simpa using this
  have seq : ∀ {j}, j < 24 → bt x j = true → (sp j = sp k ↔ a0 j = a0 k) := by
    intro j hj hbj
    constructor
    · intro e
      rw [← yc_1 h hj hbj, ← yc_1 h hk hb, e]
    · intro e
      rw [h.2.2 j hj hbj, h.2.2 k hk hb, e]
  have k2 : ∀ d i, i + d = k → ∀ x3 x4 : Int32,
      ((x3 = 1 ∧ (∀ j, j < 24 → bt x j = true → a0 j = a0 k) ∧ ∀ j, j < i → bt x j = false) ∨ (x3 = 0 ∧ ((∃ j, j < 24 ∧ bt x j = true ∧ a0 j ≠ a0 k) ∨ ∃ j, j < k ∧ bt x j = true))) →
      ((x4 = 1 ∧ gm_E (pl_S x a0 24) (a0 k) ∧ ∀ j, j < i → bt x j = true → a0 j ≠ a0 k) ∨ (x4 = 0 ∧ ((∀ j, j < 24 → bt x j = true → a0 j ≠ a0 k → ∃ r, pl_S x a0 24 r ∧ ¬ gm_F (a0 k) (a0 j) r) ∨ ∃ j, j < k ∧ bt x j = true ∧ a0 j = a0 k))) →
      wY_isCorner_115 post (nI k) fm sp lf li (d + 1) x3 x4 (nI i) := by
    intro d
    induction d with
    | zero =>
      intro i hi x3 x4 A F
      rw [show i = k by omega] at A F ⊢
      refine br_t (nI_le (Nat.le_refl k) (by omega)) ⟨vk, ?_⟩
      rw [nI_clamp (by omega)]
      refine br_f lk ?_
      rcases A with ⟨rfl, A1, A2⟩ | ⟨rfl, A⟩
      · refine br_f (by decide) (h1 ⟨⟨0, 0, fun r hr hn => ?_⟩, fun j hj hbj => ?_⟩)
        · obtain ⟨j, hj, hbj, rfl⟩ := hr
          exact absurd (A1 j hj hbj) hn
        · rw [A2 j hj] at hbj; exact absurd hbj (by decide)
      · refine br_t rfl ?_
        rcases F with ⟨rfl, F1, F2⟩ | ⟨rfl, F⟩
        · exact br_f (by decide) (h1 ⟨F1, F2⟩)
        · refine br_t rfl (h0 fun ⟨hE, hf⟩ => ?_)
          rcases F with F | ⟨j, hj, hbj, e⟩
          · rcases pl_EF h.1 hkS hE with q | ⟨q, ⟨j, hj, hbj, rfl⟩, hn, hF⟩
            · rcases A with ⟨j, hj, hbj, hn⟩ | ⟨j, hj, hbj⟩
              · exact hn (q _ ⟨j, hj, hbj, rfl⟩)
              · exact hf j hj hbj (q _ ⟨j, by omega, hbj, rfl⟩)
            · obtain ⟨r, hr, nF⟩ := F j hj hbj hn
              exact nF (hF r hr)
          · exact hf j hj hbj e
    | succ d ih =>
      intro i hi x3 x4 A F
      have vin : vp_in (nI i) 24 := vp_in_nI (by omega) (by omega)
      have j57 : ∀ z : Int32, ((z = 1 ∧ gm_E (pl_S x a0 24) (a0 k) ∧ ∀ j, j < i + 1 → bt x j = true → a0 j ≠ a0 k) ∨ (z = 0 ∧ ((∀ j, j < 24 → bt x j = true → a0 j ≠ a0 k → ∃ r, pl_S x a0 24 r ∧ ¬ gm_F (a0 k) (a0 j) r) ∨ ∃ j, j < k ∧ bt x j = true ∧ a0 j = a0 k))) →
          wY_isCorner_157 post (wY_isCorner_115 post (nI k) fm sp lf li (d + 1)) (nI k) x3 (nI i) z fm sp lf li := by
        intro z Z
        refine ⟨fun e => nm_r (nI_1 i) (ih (i + 1) (by omega) 0 z ?_ Z), fun e => ⟨vin, ?_⟩⟩
        · rcases A with ⟨e', _⟩ | A
          · rw [e'] at e; exact absurd e (by decide)
          · exact Or.inr ⟨rfl, A.2⟩
        · rw [nI_clamp (by omega)]
          refine ⟨fun c => nm_r (nI_1 i) (ih (i + 1) (by omega) 1 z ?_ Z), fun c => nm_r (nI_1 i) (ih (i + 1) (by omega) 0 z (Or.inr ⟨rfl, Or.inr ⟨i, by omega, bz (by omega) c⟩⟩) Z)⟩
          rcases A with ⟨_, A1, A2⟩ | A
          · refine Or.inl ⟨rfl, A1, fun j hj => ?_⟩
            by_cases ej : j = i
            · rw [ej]; exact (yc_0 h (by omega)).mp c
            · exact A2 j (by omega)
          · exact absurd A.1 e
      refine br_f (nI_ge (by omega) (by omega)) ⟨fun e => j57 0 ?_, fun e => ⟨vin, ?_⟩⟩
      · rcases F with ⟨e', _⟩ | F
        · rw [e'] at e; exact absurd e (by decide)
        · exact Or.inr ⟨rfl, F.2⟩
      · rcases F with ⟨_, F1, F2⟩ | F
        · rw [nI_clamp (by omega)]
          refine ⟨fun c => j57 1 (Or.inl ⟨rfl, F1, fun j hj hbj => ?_⟩), fun c => ⟨vin, vk, ?_⟩⟩
          · by_cases ej : j = i
            · rw [ej, (yc_0 h (by omega)).mp c] at hbj; exact absurd hbj (by decide)
            · exact F2 j (by omega) hbj
          · rw [nI_clamp (n := k) (by omega)]
            refine ⟨fun s => j57 0 (Or.inr ⟨rfl, Or.inr ⟨i, by omega, bz (by omega) c, (seq (by omega) (bz (by omega) c)).mp s⟩⟩), fun s => j57 1 (Or.inl ⟨rfl, F1, fun j hj hbj => ?_⟩)⟩
            by_cases ej : j = i
            · rw [ej]; exact fun z => s ((seq (by omega) (bz (by omega) c)).mpr z)
            · exact F2 j (by omega) hbj
        · exact absurd F.1 e
  have k1 : ∀ d i, i + d = 24 → ∀ x3 x4 : Int32,
      ((x3 = 1 ∧ ∀ j, j < i → bt x j = true → a0 j = a0 k) ∨ (x3 = 0 ∧ ∃ j, j < 24 ∧ bt x j = true ∧ a0 j ≠ a0 k)) →
      ((x4 = 1 ∧ gm_E (pl_S x a0 24) (a0 k)) ∨ (x4 = 0 ∧ ∀ j, j < i → bt x j = true → a0 j ≠ a0 k → ∃ r, pl_S x a0 24 r ∧ ¬ gm_F (a0 k) (a0 j) r)) →
      wY_isCorner_17 post (nI k) (a0 k) fm sp lf li (d + 1) x3 x4 (nI i) := by
    intro d
    induction d with
    | zero =>
      intro i hi x3 x4 A F
      rw [show i = 24 by omega] at A F ⊢
      refine br_t (nI_le (a := 24) (by omega) (by omega)) ⟨_, k2 k 0 (by omega) x3 x4 ?_ ?_⟩
      · rcases A with ⟨e, A⟩ | ⟨e, A⟩
        · exact Or.inl ⟨e, A, fun j hj => by omega⟩
        · exact Or.inr ⟨e, Or.inl A⟩
      · rcases F with ⟨e, F⟩ | ⟨e, F⟩
        · exact Or.inl ⟨e, F, fun j hj => by omega⟩
        · exact Or.inr ⟨e, Or.inl F⟩
    | succ d ih =>
      intro i hi x3 x4 A F
      have vin : vp_in (nI i) 24 := vp_in_nI (by omega) (by omega)
      -- the new 'alone' is z, 'other' is x6
      have j71 : ∀ x6 z : Int32, ((z = 1 ∧ ∀ j, j < i + 1 → bt x j = true → a0 j = a0 k) ∨ (z = 0 ∧ ∃ j, j < 24 ∧ bt x j = true ∧ a0 j ≠ a0 k)) →
          ((x6 = 1 ∧ bt x i = true ∧ a0 i ≠ a0 k) ∨ (x6 = 0 ∧ (bt x i = true → a0 i = a0 k))) →
          wY_isCorner_71 post (wY_isCorner_17 post (nI k) (a0 k) fm sp lf li (d + 1)) (nI k) (a0 k) x4 (nI i) x6 z fm sp lf li := by
        intro x6 z Z O
        refine ⟨fun e => ⟨fun e6 => nm_r (nI_1 i) (ih (i + 1) (by omega) z 0 Z (Or.inr ⟨rfl, fun j hj hbj hn => ?_⟩)), fun e6 => ⟨vin, ?_⟩⟩, fun e => nm_r (nI_1 i) (ih (i + 1) (by omega) z 1 Z ?_)⟩
        · rcases F with ⟨e', _⟩ | ⟨_, F⟩
          · rw [e'] at e; exact absurd e (by decide)
          · by_cases ej : j = i
            · rcases O with ⟨e', _⟩ | ⟨_, O⟩
              · rw [e'] at e6; exact absurd e6 (by decide)
              · rw [ej] at hbj hn; exact absurd (O hbj) hn
            · exact F j (by omega) hbj hn
        · rcases O with ⟨_, hbi, hni⟩ | O
          · rw [nI_clamp (by omega), yc_1 h (by omega) hbi]
            refine wy_free h (h.1 k hk) (h.1 i (by omega)) (fun hall => br_f (by decide) (nm_r (nI_1 i) (ih (i + 1) (by omega) z 1 Z (Or.inl ⟨rfl, gm_FE hS (h.1 k hk) (h.1 i (by omega)) hni hall⟩)))) (fun hno => br_t rfl (nm_r (nI_1 i) (ih (i + 1) (by omega) z 0 Z (Or.inr ⟨rfl, fun j hj hbj hn => ?_⟩))))
            rcases F with ⟨e', _⟩ | ⟨_, F⟩
            · rw [e'] at e; exact absurd e (by decide)
            · by_cases ej : j = i
              · rw [ej]; exact hno
              · exact F j (by omega) hbj hn
          · exact absurd O.1 e6
        · rcases F with ⟨_, F⟩ | ⟨e', _⟩
          · exact Or.inl ⟨rfl, F⟩
          · exact absurd e' e
      have j55 : ∀ z : Int32, ((z = 1 ∧ bt x i = true ∧ a0 i ≠ a0 k) ∨ (z = 0 ∧ (bt x i = true → a0 i = a0 k))) →
          wY_isCorner_55 post (wY_isCorner_17 post (nI k) (a0 k) fm sp lf li (d + 1)) (nI k) (a0 k) x3 x4 (nI i) z fm sp lf li := by
        intro z O
        refine ⟨fun e => j71 z 0 ?_ O, fun e => ⟨fun ez => j71 z 1 ?_ O, fun ez => j71 z 0 ?_ O⟩⟩
        · rcases A with ⟨e', _⟩ | A
          · rw [e'] at e; exact absurd e (by decide)
          · exact Or.inr ⟨rfl, A.2⟩
        · rcases A with ⟨_, A⟩ | ⟨e', _⟩
          · refine Or.inl ⟨rfl, fun j hj hbj => ?_⟩
            by_cases ej : j = i
            · rcases O with ⟨e', _⟩ | ⟨_, O⟩
              · rw [e'] at ez; exact absurd ez (by decide)
              · rw [ej] at hbj ⊢; exact O hbj
            · exact A j (by omega) hbj
          · exact absurd e' e
        · rcases O with ⟨_, hbi, hni⟩ | ⟨e', _⟩
          · exact Or.inr ⟨rfl, i, by omega, hbi, hni⟩
          · exact absurd e' ez
      refine br_f (nI_ge (b := 24) (by omega) (by omega)) ⟨vin, ?_⟩
      rw [nI_clamp (n := i) (by omega)]
      refine ⟨fun c => j55 0 (Or.inr ⟨rfl, fun hbi => ?_⟩), fun c => ⟨vin, vk, ?_⟩⟩
      · rw [(yc_0 h (by omega)).mp c] at hbi; exact absurd hbi (by decide)
      · rw [nI_clamp (n := k) (by omega)]
        have hbi := bz (j := i) (by omega) c
        exact ⟨fun s => j55 0 (Or.inr ⟨rfl, fun _ => (seq (by omega) hbi).mp s⟩), fun s => j55 1 (Or.inl ⟨rfl, hbi, fun z => s ((seq (by omega) hbi).mpr z)⟩)⟩
  refine ⟨vk, nm_e ?_⟩
  rw [nI_clamp (by omega), yc_1 h hk hb]
  exact ⟨_, k1 24 0 (by omega) 1 0 (Or.inl ⟨rfl, fun j hj => by omega⟩) (Or.inr ⟨rfl, fun j hj => by omega⟩)⟩
