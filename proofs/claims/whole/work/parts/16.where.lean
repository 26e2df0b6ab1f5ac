/-- where p stands to the ring L of m corners -/
def st_R (L : Nat → Int32) (m : Nat) (p v : Int32) : Prop :=
  (v = 2 ∧ 0 < m ∧ ∀ i, i < m → 0 < gm_tr (L i) (L (sl_f i m)) p) ∨
  (v = 1 ∧ ∃ i, i < m ∧ gm_tr (L i) (L (sl_f i m)) p = 0 ∧ gm_dt p (L i) (L (sl_f i m)) ≤ 0) ∨
  (v = 0 ∧ (m = 0 ∨ ∃ i, i < m ∧ (gm_tr (L i) (L (sl_f i m)) p < 0 ∨ (gm_tr (L i) (L (sl_f i m)) p = 0 ∧ 0 < gm_dt p (L i) (L (sl_f i m))))))
theorem sl_lt {i m : Nat} (h : i < m) : sl_f i m < m := by unfold sl_f; split <;> omega
theorem st_cg {L L' : Nat → Int32} {m : Nat} (e : ∀ i, i < m → L i = L' i) {p v : Int32} (h : st_R L m p v) : st_R L' m p v := by
  have key : ∀ i, i < m → L' i = L i ∧ L' (sl_f i m) = L (sl_f i m) := fun i hi => ⟨(e i hi).symm, (e _ (sl_lt hi)).symm⟩
  rcases h with ⟨a, b, c⟩ | ⟨a, i, hi, c⟩ | ⟨a, b⟩
  · exact Or.inl ⟨a, b, fun i hi => by rw [(key i hi).1, (key i hi).2]; exact c i hi⟩
  · exact Or.inr (Or.inl ⟨a, i, hi, by rw [(key i hi).1, (key i hi).2]; exact c⟩)
  · refine Or.inr (Or.inr ⟨a, ?_⟩)
    rcases b with b | ⟨i, hi, c⟩
    · exact Or.inl b
    · exact Or.inr ⟨i, hi, by rw [(key i hi).1, (key i hi).2]; exact c⟩
theorem gm_cycg {S : Int32 → Prop} {L L' : Nat → Int32} {m : Nat} (e : ∀ i, i < m → L i = L' i) (h : gm_cyc S L m) : gm_cyc S L' m := by
  obtain ⟨a, b, c, d⟩ := h
  refine ⟨a, e 0 a ▸ b, fun i hi => ?_, ?_⟩
  · rw [← e i (by omega), ← e (i + 1) hi, ← e 0 a]; exact c i hi
  · rw [← e (m - 1) (by omega), ← e 0 a]; exact d
theorem gm_sqnn (u v : Int32) : 0 ≤ gm_sq u v := by
  rcases Int.lt_or_le (gm_sq u v) 0 with h | h
  · have := gm_sqz (a := gm_x u - gm_x v) (b := gm_y u - gm_y v) (by unfold gm_sq at h; omega)
    unfold gm_sq at h
    rw [this.1, this.2] at h
    omega
  · exact h
theorem gm_dti (a p b : Int32) : gm_dt a p b = gm_sq p a - gm_dt p a b := by unfold gm_dt gm_sq; grind
theorem st_w1 (u v p a b : Int32) (h : gm_tr u v p = 0) : gm_sq u v * gm_tr a b p = gm_dt v p u * gm_tr a b u + gm_dt u p v * gm_tr a b v := by
  unfold gm_tr at h; unfold gm_sq gm_tr gm_dt; grind
theorem st_w2 (u v p a b : Int32) (h : gm_tr u v p = 0) : gm_sq u v * gm_dt a p b = gm_dt v p u * gm_dt a u b + gm_dt u p v * gm_dt a v b := by
  unfold gm_tr at h; unfold gm_sq gm_dt; grind
/-- what lies on a side lies on no side's wrong hand -/
theorem st_on {S : Int32 → Prop} (hS : ∀ r, S r → gm_P r) {L : Nat → Int32} {m : Nat} (hc : gm_cyc S L m) {p : Int32} (hp : gm_P p) {i : Nat} (hi : i < m) (t : gm_tr (L i) (L (sl_f i m)) p = 0) (d : gm_dt p (L i) (L (sl_f i m)) ≤ 0) {j : Nat} (hj : j < m) :
    gm_N (L j) (L (sl_f j m)) p := by
  have su := gm_cS hc hi
  have sv := gm_cS hc (sl_lt hi)
  have nj := gr_nx hc hj
  generalize L i = u at *
  generalize L (sl_f i m) = v at *
  have pa := hS _ (gm_cS hc hj)
  have pb := hS _ nj.1
  generalize L j = a at *
  generalize L (sl_f j m) = b at *
  by_cases euv : u = v
  · have z : gm_dt p u u = gm_sq p u := by unfold gm_dt gm_sq; grind
    rw [← euv, z] at d
    rw [gm_sq0 hp (hS u su) d]
    exact nj.2 u su
  have Nu := nj.2 u su
  have Nv := nj.2 v sv
  have al : 0 ≤ gm_dt v p u := by
    have e : gm_dt v p u = gm_sq p v - gm_dt p u v := by unfold gm_dt gm_sq; grind
    have := gm_sqnn p v
    omega
  have be : 0 ≤ gm_dt u p v := by
    have e := gm_dti u p v
    have := gm_sqnn p u
    omega
  have sq : 0 < gm_sq u v := by
    apply Classical.byContradiction
    intro c
    exact euv (gm_sq0 (hS u su) (hS v sv) (by omega))
  have w1 := st_w1 u v p a b t
  have m1 := Int.mul_nonneg al Nu.1
  have m2 := Int.mul_nonneg be Nv.1
  rw [Int.mul_comm (gm_sq u v)] at w1
  refine ⟨gm_nn sq (by omega), fun z => ?_⟩
  rw [z, Int.zero_mul] at w1
  have part : ∀ (g w : Int32), gm_dt g p w * gm_tr a b w = 0 → 0 ≤ gm_dt g p w → gm_N a b w → 0 ≤ gm_dt g p w * gm_dt a w b ∧ 0 ≤ gm_dt g p w * gm_dt b w a := by
    intro g w z0 g0 Nw
    rcases Int.mul_eq_zero.mp z0 with z1 | z1
    · rw [z1, Int.zero_mul, Int.zero_mul]; exact ⟨Int.le_refl 0, Int.le_refl 0⟩
    · have q := Nw.2 z1
      have e1 := gm_dti a w b
      have e2 : gm_dt b w a = gm_sq w b - gm_dt w a b := by unfold gm_dt gm_sq; grind
      have := gm_sqnn w a
      have := gm_sqnn w b
      exact ⟨Int.mul_nonneg g0 (by omega), Int.mul_nonneg g0 (by omega)⟩
  have P1 := part v u (by omega) al Nu
  have P2 := part u v (by omega) be Nv
  have w2 := st_w2 u v p a b t
  have w3 := st_w2 u v p b a t
  rw [Int.mul_comm (gm_sq u v)] at w2 w3
  have d1 : 0 ≤ gm_dt a p b := gm_nn sq (by omega)
  have d2 : 0 ≤ gm_dt b p a := gm_nn sq (by omega)
  have bt := gm_betw a b p z
  have e3 : gm_dt b a p = gm_dt b p a := gm_dts b p a
  rw [e3] at bt
  have m3 := Int.mul_nonneg d1 d2
  have sab : 0 < gm_sq a b := by
    apply Classical.byContradiction
    intro c
    have eab := gm_sq0 pa pb (by omega)
    rw [← eab] at Nu Nv
    have q1 := gm_uc pa (hS u su) (gm_N1.mp Nu)
    have q2 := gm_uc pa (hS v sv) (gm_N1.mp Nv)
    exact euv (q1.trans q2.symm)
  exact gm_np sab (by omega)
theorem st_un {S : Int32 → Prop} (hS : ∀ r, S r → gm_P r) {L : Nat → Int32} {m : Nat} (hc : m = 0 ∨ gm_cyc S L m) {p v v' : Int32} (hp : gm_P p) (h : st_R L m p v) (h' : st_R L m p v') : v = v' := by
  have key : ∀ {i j : Nat}, i < m → j < m → gm_tr (L i) (L (sl_f i m)) p = 0 → gm_dt p (L i) (L (sl_f i m)) ≤ 0 → (gm_tr (L j) (L (sl_f j m)) p < 0 ∨ (gm_tr (L j) (L (sl_f j m)) p = 0 ∧ 0 < gm_dt p (L j) (L (sl_f j m)))) → False := by
    intro i j hi hj t d w
    rcases hc with hc | hc
    · omega
    have N := st_on hS hc hp hi t d hj
    have n1 := N.1
    rcases w with w | ⟨w, w2⟩
    · omega
    · have := N.2 w
      omega
  rcases h with ⟨a, b, c⟩ | ⟨a, i, hi, c⟩ | ⟨a, b⟩ <;> rcases h' with ⟨a', b', c'⟩ | ⟨a', i', hi', c'⟩ | ⟨a', b'⟩
  · rw [a, a']
  · have := c i' hi'; omega
  · rcases b' with b' | ⟨i', hi', c'⟩
    · omega
    · have := c i' hi'; omega
  · have := c' i hi; omega
  · rw [a, a']
  · rcases b' with b' | ⟨i', hi', c'⟩
    · omega
    · exact absurd (key hi hi' c.1 c.2 c') id
  · rcases b with b | ⟨i, hi, c⟩
    · omega
    · have := c' i hi; omega
  · rcases b with b | ⟨i, hi, c⟩
    · omega
    · exact absurd (key hi' hi c'.1 c'.2 c) id
  · rw [a, a']
theorem wx_standing {post : Int32 → Prop} {fp fs : Int32} {a0 a1 a2 a3 : Nat → Int32} {m : Nat} {p : Int32} (hm : m ≤ 24) (hP : ∀ i, i < m → gm_P (a2 i)) (hp : gm_P p) (h : ∀ v, st_R a2 m p v → post v) : wpX_standing post (fp, fs, a0, a1, a2, a3) (nI m) p := by
  refine pk_eq m 0 (fun e => h 0 (Or.inr (Or.inr ⟨rfl, Or.inl e⟩))) (fun e => ?_)
  have key : ∀ d i, i + d = m → (∀ j, j < i → 0 < gm_tr (a2 j) (a2 (sl_f j m)) p) → wX_standing_8 post (nI m) p fp fs a0 a1 a2 a3 (d + 1) (nI i) := by
    intro d
    induction d with
    | zero =>
      intro i hi hF
      exact br_t (nI_le (by omega) (by omega)) (h 2 (Or.inl ⟨rfl, by omega, fun j hj => hF j (by omega)⟩))
    | succ d ih =>
      intro i hi hF
      have fl := sl_lt (i := i) (m := m) (by omega)
      have Bd := gm_trB (hP i (by omega)) (hP _ fl) hp
      have e1 := i3_ge0 (i := gm_tr (a2 i) (a2 (sl_f i m)) p) (by omega)
      have e2 := i3_eq0 (i := gm_tr (a2 i) (a2 (sl_f i m)) p) (by omega)
      have vin : vp_in (nI i) 25 := vp_in_nI (by omega) (by omega)
      refine br_f (nI_ge (by omega) (by omega)) (wx_following (by omega) (by omega) ?_)
      rw [show (if i + 1 < m then i + 1 else 0) = sl_f i m from rfl]
      refine ⟨vp_in_nI (by omega) (by omega), nm_e ⟨vin, ?_⟩⟩
      rw [nI_clamp (n := i) (by omega), nI_clamp (n := sl_f i m) (by omega)]
      refine wx_turn ⟨fun hg => ⟨fun hz => ⟨vin, wx_between (hP i (by omega)) (hP _ fl) hp (fun hd => br_f (by decide) (h 1 (Or.inr (Or.inl ⟨rfl, i, by omega, e2.mp hz, hd⟩)))) (fun hd => br_t rfl (h 0 (Or.inr (Or.inr ⟨rfl, Or.inr ⟨i, by omega, Or.inr ⟨e2.mp hz, hd⟩⟩⟩))))⟩, fun hz => nm_r (nI_1 i) (ih (i + 1) (by omega) fun j hj => ?_)⟩, fun hg => h 0 (Or.inr (Or.inr ⟨rfl, Or.inr ⟨i, by omega, Or.inl ?_⟩⟩))⟩
      · by_cases ej : j = i
        · have := e1.mp hg
          have := mt e2.mpr hz
          rw [ej]; omega
        · exact hF j (by omega)
      · have := mt e1.mpr hg
        omega
  exact ⟨_, key m 0 (by omega) (fun j hj => by omega)⟩
theorem st_inj {S : Int32 → Prop} (hS : ∀ r, S r → gm_P r) {L : Nat → Int32} {m : Nat} (hc : gm_cyc S L m) {a b : Nat} (ha : a < m) (hb : b < m) (ne : a ≠ b) : L a ≠ L b := by
  rcases Nat.lt_or_gt_of_ne ne with c | c
  · exact gm_rinj (gm_cr hS hc) c hb
  · exact (gm_rinj (gm_cr hS hc) c ha).symm
theorem st_str {S : Int32 → Prop} (hS : ∀ r, S r → gm_P r) {L : Nat → Int32} {m : Nat} (hc : gm_cyc S L m) (h3 : 3 ≤ m) {i k : Nat} (hi : i < m) (hk : k < m) (n1 : k ≠ i) (n2 : k ≠ sl_f i m) : 0 < gm_tr (L i) (L (sl_f i m)) (L k) := by
  have N := (gr_nx hc hi).2 (L k) (gm_cS hc hk)
  have n := N.1
  apply Classical.byContradiction
  intro c
  have z : gm_tr (L i) (L (sl_f i m)) (L k) = 0 := by omega
  have d := N.2 z
  have := gm_Eseg (gm_cE hS hc hk) (gm_cS hc hi) (gm_cS hc (sl_lt hi)) (st_inj hS hc hi hk n1.symm) (st_inj hS hc (sl_lt hi) hk n2.symm) (by rw [← gm_rot]; exact z)
  omega
theorem st_g1 (a b c p : Int32) (h : gm_tr a b p = 0) : gm_tr b c p * gm_sq a b = gm_tr a b c * gm_dt b a p := by unfold gm_tr at h; unfold gm_tr gm_sq gm_dt; grind
theorem st_g2 (a b z p : Int32) (h : gm_tr a b p = 0) : gm_tr z a p * gm_sq a b = gm_tr z a b * gm_dt a b p := by unfold gm_tr at h; unfold gm_tr gm_sq gm_dt; grind
/-- on a side's line and on no side's wrong hand: on the side -/
theorem st_geo {S : Int32 → Prop} (hS : ∀ r, S r → gm_P r) {L : Nat → Int32} {m : Nat} (hc : gm_cyc S L m) (h3 : 3 ≤ m) {p : Int32} {i : Nat} (hi : i < m) (t : gm_tr (L i) (L (sl_f i m)) p = 0) (ha : ∀ j, j < m → 0 ≤ gm_tr (L j) (L (sl_f j m)) p) : gm_dt p (L i) (L (sl_f i m)) ≤ 0 := by
  have fl := sl_lt hi
  have ffl := sl_lt fl
  obtain ⟨g, hg, eg⟩ : ∃ g, g < m ∧ sl_f g m = i := by
    by_cases c : i = 0
    · exact ⟨m - 1, by omega, by unfold sl_f; rw [if_neg (by omega), c]⟩
    · exact ⟨i - 1, by omega, by unfold sl_f; rw [if_pos (by omega)]; omega⟩
  have g1 : g ≠ sl_f i m := by
    intro e
    unfold sl_f at e eg
    split at e <;> split at eg <;> omega
  have f1 : sl_f (sl_f i m) m ≠ i := by
    unfold sl_f
    split <;> split <;> omega
  have f2 : sl_f (sl_f i m) m ≠ sl_f i m := by
    unfold sl_f
    split <;> split <;> omega
  have f3 : sl_f i m ≠ i := by
    unfold sl_f
    split <;> omega
  have s1 := st_str hS hc h3 hi ffl f1 f2
  have s2 := st_str hS hc h3 hg fl g1.symm (by rw [eg]; exact f3)
  have a1 := ha _ fl
  have a2 := ha g hg
  rw [eg] at s2 a2
  have q1 := st_g1 (L i) (L (sl_f i m)) (L (sl_f (sl_f i m) m)) p t
  have q2 := st_g2 (L i) (L (sl_f i m)) (L g) p t
  have sq : 0 < gm_sq (L i) (L (sl_f i m)) := by
    apply Classical.byContradiction
    intro c
    exact st_inj hS hc hi fl f3.symm (gm_sq0 (hS _ (gm_cS hc hi)) (hS _ (gm_cS hc fl)) (by have := gm_sqnn (L i) (L (sl_f i m)); omega))
  have m1 := Int.mul_nonneg a1 (Int.le_of_lt sq)
  have m2 := Int.mul_nonneg a2 (Int.le_of_lt sq)
  rw [q1, Int.mul_comm] at m1
  rw [q2, Int.mul_comm] at m2
  have d1 := gm_nn s1 m1
  have d2 := gm_nn s2 m2
  have b := gm_betw _ _ _ t
  rw [gm_dts (L i) (L (sl_f i m)) p] at b
  have m3 := Int.mul_nonneg d2 d1
  exact gm_np sq (by omega)
theorem wy_where {post : Int32 → Prop} {sp lf li : Nat → Int32} {S : Int32 → Prop} (hS : ∀ r, S r → gm_P r) {m : Nat} {p : Int32} (hm : m ≤ 24) (hc : m = 0 ∨ gm_cyc S li m) (hp : gm_P p) (h : ∀ v, st_R li m p v → post v) : wpY_where post (nI m, sp, lf, li) p := by
  have hP : ∀ i, i < m → gm_P (li i) := fun i hi => hc.elim (fun e => by omega) (fun c => hS _ (gm_cS c hi))
  refine pk_le 3 m (fun c => ?_) (fun c => ?_)
  · have hc := hc.resolve_left (by omega)
    have key : ∀ d i, i + d = m → ∀ y : Int, y ≤ 1 → (y = 1 ∨ ∃ j, j < i ∧ y = gm_tr (li j) (li (sl_f j m)) p) → (∀ j, j < i → y ≤ gm_tr (li j) (li (sl_f j m)) p) → wY_where_114 post p (nI m) sp lf li (d + 1) (Int32.ofInt y) (nI i) := by
      intro d
      induction d with
      | zero =>
        intro i hi y y1 ye yl
        have By : -7938 ≤ y := by
          rcases ye with e | ⟨j, hj, e⟩
          · omega
          · have := gm_trB (hP j (by omega)) (hP _ (sl_lt (by omega : j < m))) hp
            omega
        have e1 := i3_le0 (i := y) (by omega)
        have e2 := i3_eq0 (i := y) (by omega)
        refine br_t (nI_le (by omega) (by omega)) ⟨fun hl => ⟨fun hz => h 1 (Or.inr (Or.inl ⟨rfl, ?_⟩)), fun hz => h 0 (Or.inr (Or.inr ⟨rfl, Or.inr ?_⟩))⟩, fun hl => h 2 (Or.inl ⟨rfl, by omega, fun j hj => ?_⟩)⟩
        · have z := e2.mp hz
          rcases ye with e | ⟨j, hj, e⟩
          · omega
          · exact ⟨j, by omega, by omega, st_geo hS hc c (by omega) (by omega) (fun k hk => by have := yl k (by omega); omega)⟩
        · have z := mt e2.mpr hz
          have l := e1.mp hl
          rcases ye with e | ⟨j, hj, e⟩
          · omega
          · exact ⟨j, by omega, Or.inl (by omega)⟩
        · have l := mt e1.mpr hl
          have := yl j (by omega)
          omega
      | succ d ih =>
        intro i hi y y1 ye yl
        have fl := sl_lt (i := i) (m := m) (by omega)
        have Bd := gm_trB (hP i (by omega)) (hP _ fl) hp
        have By : -7938 ≤ y := by
          rcases ye with e | ⟨j, hj, e⟩
          · omega
          · have := gm_trB (hP j (by omega)) (hP _ (sl_lt (by omega : j < m))) hp
            omega
        have e1 := i3_le (i := y) (j := gm_tr (li i) (li (sl_f i m)) p) (by omega) (by omega)
        have md : (nI i + 1) - (nI i + 1) / nI m * nI m = nI (sl_f i m) := by
          rw [nI_1, pk_rem (by omega) (by omega) (by omega)]
          congr 1
          unfold sl_f
          split
          · exact Nat.mod_eq_of_lt (by omega)
          · rw [show i + 1 = m by omega]; exact Nat.mod_self m
        refine br_f (nI_ge (by omega) (by omega)) ⟨vp_in_nI (by omega) (by omega), nI_ne0 (by omega) (by omega), ?_⟩
        rw [md]
        refine ⟨vp_in_nI (by omega) (by omega), ?_⟩
        rw [nI_clamp (n := i) (by omega), nI_clamp (n := sl_f i m) (by omega)]
        refine wy_turn (hP i (by omega)) (hP _ fl) hp ⟨fun hl => nm_r (nI_1 i) (ih (i + 1) (by omega) y y1 ?_ fun j hj => ?_), fun hl => nm_r (nI_1 i) (ih (i + 1) (by omega) _ ?_ (Or.inr ⟨i, by omega, rfl⟩) fun j hj => ?_)⟩
        · rcases ye with e | ⟨j, hj, e⟩
          · exact Or.inl e
          · exact Or.inr ⟨j, by omega, e⟩
        · by_cases ej : j = i
          · rw [ej]; exact e1.mp hl
          · exact yl j (by omega)
        · have := mt e1.mpr hl
          omega
        · have l := mt e1.mpr hl
          by_cases ej : j = i
          · rw [ej]; exact Int.le_refl _
          · have := yl j (by omega)
            omega
    exact ⟨_, key m 0 (by omega) 1 (by omega) (Or.inl rfl) (fun j hj => by omega)⟩
  have h94 : post 1 → wY_where_94 post (nI m) sp lf li := fun q => br_f (by decide) q
  have h98 : post 0 → wY_where_98 post (nI m) sp lf li := fun q => br_t rfl q
  have z11 : sl_f 0 1 = 0 := by unfold sl_f; rfl
  have h26 : m ≠ 1 → wY_where_26 post p (nI m) sp lf li := by
    intro m1
    refine pk_eq m 2 (fun e => ?_) (fun e => h98 (h 0 (Or.inr (Or.inr ⟨rfl, Or.inl (by omega)⟩))))
    subst e
    have hc := hc.resolve_left (by omega)
    have f0 : sl_f 0 2 = 1 := by unfold sl_f; rfl
    have f1 : sl_f 1 2 = 0 := by unfold sl_f; rfl
    have p0 := hP 0 (by omega)
    have p1 := hP 1 (by omega)
    have Bd := gm_trB p0 p1 hp
    have e2 := i3_eq0 (i := gm_tr (li 0) (li 1) p) (by omega)
    have sq : 0 < gm_sq (li 0) (li 1) := by
      apply Classical.byContradiction
      intro c
      exact st_inj hS hc (a := 0) (b := 1) (by omega) (by omega) (by omega) (gm_sq0 p0 p1 (by omega))
    have out : gm_tr (li 0) (li 1) p = 0 → 0 < gm_dt p (li 0) (li 1) → post 0 := fun t d => h 0 (Or.inr (Or.inr ⟨rfl, Or.inr ⟨0, by omega, Or.inr (by rw [f0]; exact ⟨t, d⟩)⟩⟩))
    refine wy_turn p0 p1 hp ⟨fun hz => wy_behind p0 p1 hp (fun b0 => br_t rfl (wy_behind p1 p0 hp (fun b1 => br_t rfl (h94 (h 1 (Or.inr (Or.inl ⟨rfl, 0, by omega, ?_⟩))))) (fun b1 => br_f (by decide) (h98 (out (e2.mp hz) ?_))))) (fun b0 => br_f (by decide) (h98 (out (e2.mp hz) ?_))), fun hz => h98 (h 0 (Or.inr (Or.inr ⟨rfl, Or.inr ?_⟩)))⟩
    · have z := e2.mp hz
      rw [f0]
      have b := gm_betw _ _ _ z
      rw [gm_dts (li 0) (li 1) p] at b
      have m3 := Int.mul_nonneg b0 b1
      exact ⟨z, gm_np sq (by omega)⟩
    · have e := gm_dti (li 1) (li 0) p
      have e' : gm_dt p (li 0) (li 1) = gm_sq p (li 1) - gm_dt (li 1) (li 0) p := by unfold gm_dt gm_sq; grind
      have := gm_sqnn p (li 1)
      omega
    · have e' : gm_dt p (li 0) (li 1) = gm_sq p (li 0) - gm_dt (li 0) (li 1) p := by unfold gm_dt gm_sq; grind
      have := gm_sqnn p (li 0)
      omega
    · have z := mt e2.mpr hz
      rcases Int.lt_or_le (gm_tr (li 0) (li 1) p) 0 with l | l
      · exact ⟨0, by omega, Or.inl (by rw [f0]; exact l)⟩
      · exact ⟨1, by omega, Or.inl (by rw [f1, gm_swq]; omega)⟩
  refine pk_eq m 1 (fun e => ?_) (fun e => h26 e)
  subst e
  have p0 := hP 0 (by omega)
  refine ⟨fun e => h94 (h 1 (Or.inr (Or.inl ⟨rfl, 0, by omega, ?_⟩))), fun e => ?_⟩
  · rw [z11, e, gm_ppr]
    exact ⟨rfl, by unfold gm_dt; grind⟩
  · refine br_f (by decide) (h98 (h 0 (Or.inr (Or.inr ⟨rfl, Or.inr ⟨0, by omega, Or.inr ?_⟩⟩))))
    rw [z11, gm_ppr]
    refine ⟨rfl, ?_⟩
    have z : gm_dt p (li 0) (li 0) = gm_sq p (li 0) := by unfold gm_dt gm_sq; grind
    rw [z]
    apply Classical.byContradiction
    intro c
    exact e (gm_sq0 hp p0 (by omega))
