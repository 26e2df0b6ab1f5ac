/-- r lies on the left of c u, or on the stretch from c to u -/
def gm_N (c u r : Int32) : Prop := 0 ≤ gm_tr c u r ∧ (gm_tr c u r = 0 → gm_dt r c u ≤ 0)
/-- the same on the side s (1: left, -1: right) -/
def gm_Ns (s : Int) (c u r : Int32) : Prop := 0 ≤ s * gm_tr c u r ∧ (gm_tr c u r = 0 → gm_dt r c u ≤ 0)
def gm_ph (a b : Int) (c r : Int32) : Int := a * (gm_x r - gm_x c) + b * (gm_y r - gm_y c)
/-- c is strictly outermost in some direction -/
def gm_E (S : Int32 → Prop) (c : Int32) : Prop := ∃ a b : Int, ∀ r, S r → r ≠ c → 0 < gm_ph a b c r
theorem gm_N1 {c u r : Int32} : gm_N c u r ↔ gm_Ns 1 c u r := by unfold gm_N gm_Ns; rw [Int.one_mul]
theorem gm_Nm {p d r : Int32} : gm_N p d r ↔ gm_Ns (-1) d p r := by
  unfold gm_N gm_Ns
  have h1 : gm_tr d p r = - gm_tr p d r := gm_swq p d r
  have h2 : gm_dt r d p = gm_dt r p d := by unfold gm_dt; grind
  rw [h1, h2]
  constructor
  · exact fun h => ⟨by omega, fun z => h.2 (by omega)⟩
  · exact fun h => ⟨by omega, fun z => h.2 (by omega)⟩
theorem gm_phB (a b : Int) (c u v w : Int32) : gm_tr c u w * gm_ph a b c v = gm_tr c v w * gm_ph a b c u + gm_tr c u v * gm_ph a b c w := by
  unfold gm_ph gm_tr; grind
theorem gm_ph1 (a b : Int) (c u r : Int32) (h : gm_tr c u r = 0) : gm_dt r c u * gm_ph a b c u = (gm_ph a b c r - gm_ph a b c u) * gm_dt c u r := by
  unfold gm_tr at h; unfold gm_dt gm_ph; grind
theorem gm_ph2 (a b : Int) (c u r : Int32) (h : gm_tr c u r = 0) : gm_dt c u r * gm_ph a b c u = gm_ph a b c r * gm_sq c u := by
  unfold gm_tr at h; unfold gm_dt gm_ph gm_sq; grind
theorem gm_ph0 (a b : Int) (c : Int32) : gm_ph a b c c = 0 := by unfold gm_ph; grind
theorem gm_sqp {a b : Int} {c u : Int32} (h : 0 < gm_ph a b c u) : 0 < gm_sq c u := by
  rcases Int.lt_or_le 0 (gm_sq c u) with h1 | h1
  · exact h1
  · have z := gm_sqz (a := gm_x c - gm_x u) (b := gm_y c - gm_y u) h1
    have e : gm_ph a b c u = 0 := by
      unfold gm_ph
      rw [show gm_x u - gm_x c = 0 by omega, show gm_y u - gm_y c = 0 by omega, Int.mul_zero, Int.mul_zero, Int.zero_add]
    omega
/-- the segment's condition by the direction's measure -/
theorem gm_seg {a b : Int} {c u r : Int32} (hu : 0 < gm_ph a b c u) (hr : 0 < gm_ph a b c r) (h : gm_tr c u r = 0) : gm_dt r c u ≤ 0 ↔ gm_ph a b c r ≤ gm_ph a b c u := by
  have e1 := gm_ph1 a b c u r h
  have e2 := gm_ph2 a b c u r h
  have hd : 0 < gm_dt c u r := gm_pp hu (by rw [e2]; exact Int.mul_pos hr (gm_sqp hu))
  constructor
  · intro hle
    have := Int.mul_nonneg (a := -gm_dt r c u) (b := gm_ph a b c u) (by omega) (by omega)
    rw [Int.neg_mul] at this
    have := gm_np hd (a := gm_ph a b c r - gm_ph a b c u) (by omega)
    omega
  · intro hle
    have := Int.mul_nonneg (a := gm_ph a b c u - gm_ph a b c r) (b := gm_dt c u r) (by omega) (by omega)
    have e3 : (gm_ph a b c u - gm_ph a b c r) * gm_dt c u r = - ((gm_ph a b c r - gm_ph a b c u) * gm_dt c u r) := by rw [← Int.neg_mul]; congr 1; omega
    exact gm_np hu (by omega)
theorem gm_rc (s : Int) (c u : Int32) : gm_Ns s c u c := by
  unfold gm_Ns
  rw [gm_prp, Int.mul_zero]
  exact ⟨Int.le_refl 0, fun _ => by unfold gm_dt; grind⟩
theorem gm_ru (s : Int) (c u : Int32) : gm_Ns s c u u := by
  unfold gm_Ns
  rw [gm_prr, Int.mul_zero]
  exact ⟨Int.le_refl 0, fun _ => by unfold gm_dt; grind⟩
theorem gm_uc {s : Int} {c r : Int32} (hc : gm_P c) (hr : gm_P r) (h : gm_Ns s c c r) : r = c := by
  have h2 := h.2 (gm_ppr c r)
  exact (gm_sq0 hc hr (by unfold gm_dt at h2; unfold gm_sq; exact h2)).symm
theorem gm_Ntr {s : Int} (hs : s = 1 ∨ s = -1) {a b : Int} {c w u r : Int32} (hc : gm_P c) (hPu : gm_P u) (hPr : gm_P r)
    (hw : w ≠ c → 0 < gm_ph a b c w) (hu : u ≠ c → 0 < gm_ph a b c u) (hr : r ≠ c → 0 < gm_ph a b c r)
    (h1 : gm_Ns s c w u) (h2 : gm_Ns s c u r) : gm_Ns s c w r := by
  by_cases er : r = c
  · rw [er]; exact gm_rc s c w
  by_cases eu : u = c
  · rw [eu] at h2; exact absurd (gm_uc hc hPr h2) er
  by_cases ew : w = c
  · rw [ew] at h1; exact absurd (gm_uc hc hPu h1) eu
  have pw := hw ew
  have pu := hu eu
  have pr := hr er
  have e := gm_phB a b c w u r
  have m1 := gm_pos h1.1 (Int.le_of_lt pr)
  have m2 := gm_pos h2.1 (Int.le_of_lt pw)
  have e' : (s * gm_tr c w r) * gm_ph a b c u = (s * gm_tr c u r) * gm_ph a b c w + (s * gm_tr c w u) * gm_ph a b c r := by
    rw [Int.mul_assoc, e, Int.mul_add, Int.mul_assoc, Int.mul_assoc]
  refine ⟨gm_nn pu (by omega), fun z => ?_⟩
  rw [z, Int.mul_zero, Int.zero_mul] at e'
  have z1 : s * gm_tr c w u = 0 := gm_z pr (by omega)
  have z2 : s * gm_tr c u r = 0 := gm_z pw (by omega)
  have y1 : gm_tr c w u = 0 := by rcases hs with rfl | rfl <;> omega
  have y2 : gm_tr c u r = 0 := by rcases hs with rfl | rfl <;> omega
  have l1 := (gm_seg pw pu y1).mp (h1.2 y1)
  have l2 := (gm_seg pu pr y2).mp (h2.2 y2)
  exact (gm_seg pw pr z).mpr (by omega)
theorem gm_Nto {s : Int} (hs : s = 1 ∨ s = -1) {a b : Int} {c w u : Int32}
    (hw : w ≠ c → 0 < gm_ph a b c w) (hu : u ≠ c → 0 < gm_ph a b c u) : gm_Ns s c w u ∨ gm_Ns s c u w := by
  by_cases eu : u = c
  · rw [eu]; exact Or.inl (gm_rc s c w)
  by_cases ew : w = c
  · rw [ew]; exact Or.inr (gm_rc s c u)
  have pw := hw ew
  have pu := hu eu
  have e : gm_tr c u w = - gm_tr c w u := gm_swp c w u
  by_cases z : gm_tr c w u = 0
  · have z' : gm_tr c u w = 0 := by omega
    rcases Int.le_total (gm_ph a b c u) (gm_ph a b c w) with l | l
    · exact Or.inl ⟨by rw [z, Int.mul_zero]; exact Int.le_refl 0, fun _ => (gm_seg pw pu z).mpr l⟩
    · exact Or.inr ⟨by rw [z', Int.mul_zero]; exact Int.le_refl 0, fun _ => (gm_seg pu pw z').mpr l⟩
  · have z' : ¬ gm_tr c u w = 0 := by omega
    rcases Int.le_total 0 (s * gm_tr c w u) with l | l
    · exact Or.inl ⟨l, fun h => absurd h z⟩
    · exact Or.inr ⟨by rw [e, Int.mul_neg]; omega, fun h => absurd h z'⟩
/-- the step: w is farther round than u, and so takes its place -/
theorem gm_stp {S : Int32 → Prop} {s : Int} (hs : s = 1 ∨ s = -1) {c w u : Int32} (hS : ∀ r, S r → gm_P r) (hc : gm_P c)
    (hE : gm_E (fun r => S r ∨ r = w) c) (hu : S u ∨ u = c) (hPu : gm_P u) (h : ∀ r, S r → gm_Ns s c u r) (hn : ¬ gm_Ns s c u w) : ∀ r, S r ∨ r = w → gm_Ns s c w r := by
  obtain ⟨a, b, hE⟩ := hE
  have pw : w ≠ c → 0 < gm_ph a b c w := fun e => hE w (Or.inr rfl) e
  have pu : u ≠ c → 0 < gm_ph a b c u := fun e => hu.elim (fun h => hE u (Or.inl h) e) (fun h => absurd h e)
  have hwu : gm_Ns s c w u := (gm_Nto hs pu pw).resolve_left hn
  intro r hr
  rcases hr with hr | rfl
  · exact gm_Ntr hs hc hPu (hS r hr) pw pu (fun e => hE r (Or.inl hr) e) hwu (h r hr)
  · exact gm_ru s c r
def gm_nx (S : Int32 → Prop) (p q : Int32) : Prop := S q ∧ ∀ r, S r → gm_N p q r
theorem gm_nxu {S : Int32 → Prop} (hS : ∀ r, S r → gm_P r) {p q q' : Int32} (h : gm_nx S p q) (h' : gm_nx S p q') : q = q' := by
  have a := h.2 q' h'.1
  have b := h'.2 q h.1
  have e : gm_tr p q' q = - gm_tr p q q' := gm_swp p q q'
  have a1 := a.1
  have b1 := b.1
  have a2 := a.2 (by omega)
  have b2 := b.2 (by omega)
  have e2 : gm_dt q' p q + gm_dt q p q' = gm_sq q q' := by unfold gm_dt gm_sq; grind
  exact gm_sq0 (hS q h.1) (hS q' h'.1) (by omega)
theorem gm_nxi {S : Int32 → Prop} (hS : ∀ r, S r → gm_P r) {p p' q : Int32} (hp : S p) (hp' : S p') (h : gm_nx S p q) (h' : gm_nx S p' q) : p = p' := by
  have a := h.2 p' hp'
  have b := h'.2 p hp
  have e : gm_tr p' q p = - gm_tr p q p' := by unfold gm_tr; grind
  have a1 := a.1
  have b1 := b.1
  have a2 := a.2 (by omega)
  have b2 := b.2 (by omega)
  have e2 : gm_dt p' p q + gm_dt p p' q = gm_sq p p' := by unfold gm_dt gm_sq; grind
  exact gm_sq0 (hS p hp) (hS p' hp') (by omega)
theorem gm_phq (p q r : Int32) : gm_ph (-10000 * (gm_y q - gm_y p) + (gm_x p - gm_x q)) (10000 * (gm_x q - gm_x p) + (gm_y p - gm_y q)) q r = 10000 * gm_tr p q r + gm_dt q p r := by
  unfold gm_ph gm_tr gm_dt; grind
theorem gm_php (p q r : Int32) : gm_ph (-10000 * (gm_y q - gm_y p) + (gm_x q - gm_x p)) (10000 * (gm_x q - gm_x p) + (gm_y q - gm_y p)) p r = 10000 * gm_tr p q r + gm_dt p q r := by
  unfold gm_ph gm_tr gm_dt; grind
theorem gm_Eq {S : Int32 → Prop} {q : Int32} (p : Int32) (h : ∀ r, S r → r ≠ q → 0 < 10000 * gm_tr p q r + gm_dt q p r) : gm_E S q :=
  ⟨-10000 * (gm_y q - gm_y p) + (gm_x p - gm_x q), 10000 * (gm_x q - gm_x p) + (gm_y p - gm_y q), fun r hr hn => by rw [gm_phq]; exact h r hr hn⟩
theorem gm_Ep {S : Int32 → Prop} {p : Int32} (q : Int32) (h : ∀ r, S r → r ≠ p → 0 < 10000 * gm_tr p q r + gm_dt p q r) : gm_E S p :=
  ⟨-10000 * (gm_y q - gm_y p) + (gm_x q - gm_x p), 10000 * (gm_x q - gm_x p) + (gm_y q - gm_y p), fun r hr hn => by rw [gm_php]; exact h r hr hn⟩
/-- both ends of a side are outermost -/
theorem gm_nxE {S : Int32 → Prop} (hS : ∀ r, S r → gm_P r) {p q : Int32} (hp : gm_P p) (h : gm_nx S p q) : gm_E S q := by
  refine gm_Eq p fun r hr hn => ?_
  have hq := hS q h.1
  have hP := hS r hr
  have b := gm_dtB hq hp hP
  have a := h.2 r hr
  have a1 := a.1
  by_cases z : gm_tr p q r = 0
  · have a2 := a.2 z
    have e : gm_dt q p r = gm_sq r q - gm_dt r p q := by unfold gm_dt gm_sq; grind
    have := (gm_sqB hP hq).1
    by_cases z2 : gm_sq r q ≤ 0
    · exact absurd (gm_sq0 hP hq z2) hn
    · omega
  · omega
theorem gm_nxP {S : Int32 → Prop} (hS : ∀ r, S r → gm_P r) {p q : Int32} (hp : gm_P p) (h : gm_nx S p q) : gm_E S p := by
  refine gm_Ep q fun r hr hn => ?_
  have hq := hS q h.1
  have hP := hS r hr
  have b := gm_dtB hp hq hP
  have a := h.2 r hr
  have a1 := a.1
  by_cases z : gm_tr p q r = 0
  · have a2 := a.2 z
    have e : gm_dt p q r = gm_sq r p - gm_dt r p q := by unfold gm_dt gm_sq; grind
    by_cases z2 : gm_sq r p ≤ 0
    · exact absurd (gm_sq0 hP hp z2) hn
    · omega
  · omega
/-- what the reference asks of a corner -/
def gm_F (p q r : Int32) : Prop := 0 ≤ gm_tr p q r ∧ (gm_tr p q r = 0 → 0 ≤ gm_dt p q r)
theorem gm_FE {S : Int32 → Prop} (hS : ∀ r, S r → gm_P r) {p q : Int32} (hp : gm_P p) (hq : gm_P q) (hn : q ≠ p) (h : ∀ r, S r → gm_F p q r) : gm_E S p := by
  refine gm_Ep q fun r hr hn' => ?_
  have hP := hS r hr
  have b := gm_dtB hp hq hP
  have a := h r hr
  have a1 := a.1
  by_cases z : gm_tr p q r = 0
  · have a2 := a.2 z
    by_cases z2 : gm_dt p q r = 0
    · have e : gm_sq q p * gm_sq r p = gm_tr p q r * gm_tr p q r + gm_dt p q r * gm_dt p q r := by unfold gm_sq gm_tr gm_dt; grind
      rw [z, z2, Int.mul_zero] at e
      rcases Int.mul_eq_zero.mp (e.trans (Int.zero_add 0)) with e1 | e1
      · exact absurd (gm_sq0 hq hp (by omega)) hn
      · exact absurd (gm_sq0 hP hp (by omega)) hn'
    · omega
  · omega
theorem gm_nxF {S : Int32 → Prop} {p q : Int32} (h : gm_nx S p q) : ∀ r, S r → gm_F p q r := by
  intro r hr
  have a := h.2 r hr
  refine ⟨a.1, fun z => ?_⟩
  have a2 := a.2 z
  have e : gm_dt p q r = gm_sq r p - gm_dt r p q := by unfold gm_dt gm_sq; grind
  have : 0 ≤ gm_sq r p := by
    rcases Int.lt_or_le (gm_sq r p) 0 with h | h
    · have := gm_sqz (a := gm_x r - gm_x p) (b := gm_y r - gm_y p) (by unfold gm_sq at h; omega)
      unfold gm_sq at h
      rw [this.1, this.2] at h
      omega
    · exact h
  omega
/-- an outermost point has a next one -/
theorem gm_nxX {s : Int} (hs : s = 1 ∨ s = -1) {c : Int32} (hc : gm_P c) (g : Nat → Int32) : ∀ n : Nat, (∀ i, i < n → gm_P (g i)) → gm_E (fun r => ∃ i, i < n ∧ g i = r) c →
    ∃ q, (q = c ∨ ∃ i, i < n ∧ g i = q) ∧ ∀ r, (∃ i, i < n ∧ g i = r) → gm_Ns s c q r := by
  intro n
  induction n with
  | zero => exact fun _ _ => ⟨c, Or.inl rfl, fun r h => by obtain ⟨i, hi, _⟩ := h; omega⟩
  | succ n ih =>
    intro hP hE
    obtain ⟨a, b, hE⟩ := hE
    obtain ⟨q, hq, h⟩ := ih (fun i hi => hP i (by omega)) ⟨a, b, fun r hr hn => hE r (by obtain ⟨i, hi, e⟩ := hr; exact ⟨i, by omega, e⟩) hn⟩
    by_cases hn : gm_Ns s c q (g n)
    · refine ⟨q, ?_, fun r hr => ?_⟩
      · rcases hq with h | ⟨i, hi, e⟩
        · exact Or.inl h
        · exact Or.inr ⟨i, by omega, e⟩
      · obtain ⟨i, hi, e⟩ := hr
        by_cases ei : i = n
        · rw [← e, ei]; exact hn
        · exact h r ⟨i, by omega, e⟩
    · refine ⟨g n, Or.inr ⟨n, by omega, rfl⟩, fun r hr => ?_⟩
      refine gm_stp (S := fun r => ∃ i, i < n ∧ g i = r) hs (c := c) (w := g n) (u := q) ?_ hc ⟨a, b, fun r hr hn => hE r ?_ hn⟩ hq.symm ?_ h hn r ?_
      · rintro r ⟨i, hi, rfl⟩; exact hP i (by omega)
      · rcases hr with ⟨i, hi, e⟩ | e
        · exact ⟨i, by omega, e⟩
        · exact ⟨n, by omega, e.symm⟩
      · rcases hq with h | ⟨i, hi, e⟩
        · rw [h]; exact hc
        · rw [← e]; exact hP i (by omega)
      · obtain ⟨i, hi, e⟩ := hr
        by_cases ei : i = n
        · exact Or.inr (by rw [← e, ei])
        · exact Or.inl ⟨i, by omega, e⟩
