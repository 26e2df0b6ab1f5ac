/-- places as points of the plane -/
def gm_x (p : Int32) : Int := (p &&& 63).toInt
def gm_y (p : Int32) : Int := (p >>> ((6 : Int32) &&& 31)).toInt
def gm_P (p : Int32) : Prop := 0 ≤ p.toInt ∧ p.toInt < 4096
def gm_tr (p q r : Int32) : Int := (gm_x q - gm_x p) * (gm_y r - gm_y p) - (gm_y q - gm_y p) * (gm_x r - gm_x p)
def gm_dt (r p q : Int32) : Int := (gm_x p - gm_x r) * (gm_x q - gm_x r) + (gm_y p - gm_y r) * (gm_y q - gm_y r)
def gm_sq (p q : Int32) : Int := (gm_x p - gm_x q) * (gm_x p - gm_x q) + (gm_y p - gm_y q) * (gm_y p - gm_y q)
def gm_la (p : Int32) : Int := 64 * gm_x p + gm_y p
theorem gm_Pn {p : Int32} (h : gm_P p) : ∃ j : Nat, j < 4096 ∧ p = nI j := vp_in_of (n := 4096) (vp_in_iff.mpr h) (by decide)
theorem gm_nP {j : Nat} (h : j < 4096) : gm_P (nI j) := by
  unfold gm_P
  rw [nI_toInt (by omega)]
  omega
theorem gm_and {j : Nat} (h : j < 4096) : nI j &&& 63 = nI (j % 64) := pk_andN (by omega) 6 (by decide)
theorem gm_shr {j : Nat} (h : j < 4096) : nI j >>> ((6 : Int32) &&& 31) = nI (j / 64) := pk_shrN (by omega) _ 6 (by decide)
theorem gm_xN {j : Nat} (h : j < 4096) : gm_x (nI j) = ((j % 64 : Nat) : Int) := by
  unfold gm_x
  rw [gm_and h, nI_toInt (by omega)]
theorem gm_yN {j : Nat} (h : j < 4096) : gm_y (nI j) = ((j / 64 : Nat) : Int) := by
  unfold gm_y
  rw [gm_shr h, nI_toInt (by omega)]
theorem gm_co {p : Int32} (h : gm_P p) : p.toInt = 64 * gm_y p + gm_x p ∧ 0 ≤ gm_x p ∧ gm_x p ≤ 63 ∧ 0 ≤ gm_y p ∧ gm_y p ≤ 63 := by
  obtain ⟨j, hj, rfl⟩ := gm_Pn h
  rw [gm_xN hj, gm_yN hj, nI_toInt (by omega)]
  omega
theorem gm_ext {p q : Int32} (hp : gm_P p) (hq : gm_P q) (hx : gm_x p = gm_x q) (hy : gm_y p = gm_y q) : p = q := by
  apply Int32.toInt_inj.mp
  rw [(gm_co hp).1, (gm_co hq).1, hx, hy]
theorem gm_laext {p q : Int32} (hp : gm_P p) (hq : gm_P q) (h : gm_la p = gm_la q) : p = q := by
  have a := gm_co hp
  have b := gm_co hq
  unfold gm_la at h
  exact gm_ext hp hq (by omega) (by omega)
theorem gm_pos {a b : Int} (ha : 0 ≤ a) (hb : 0 ≤ b) : 0 ≤ a * b := Int.mul_nonneg ha hb
theorem gm_nn {a b : Int} (hb : 0 < b) (h : 0 ≤ a * b) : 0 ≤ a := by
  rcases Int.lt_or_le a 0 with h1 | h1
  · have := Int.mul_neg_of_neg_of_pos h1 hb
    omega
  · exact h1
theorem gm_pp {a b : Int} (hb : 0 < b) (h : 0 < a * b) : 0 < a := by
  rcases Int.lt_or_le 0 a with h1 | h1
  · exact h1
  · have := Int.mul_nonneg (a := -a) (b := b) (by omega) (by omega)
    have e : -a * b = -(a * b) := Int.neg_mul a b
    omega
theorem gm_np {a b : Int} (hb : 0 < b) (h : a * b ≤ 0) : a ≤ 0 := by
  rcases Int.lt_or_le 0 a with h1 | h1
  · have := Int.mul_pos h1 hb
    omega
  · exact h1
theorem gm_z {a b : Int} (hb : 0 < b) (h : a * b = 0) : a = 0 := by
  have h1 := gm_nn hb (by omega : 0 ≤ a * b)
  have h2 := gm_np hb (by omega : a * b ≤ 0)
  omega
theorem gm_sqz {a b : Int} (h : a * a + b * b ≤ 0) : a = 0 ∧ b = 0 := by
  have p : ∀ c : Int, 0 ≤ c * c := fun c => by
    rcases Int.le_total 0 c with h | h
    · exact Int.mul_nonneg h h
    · exact Int.mul_nonneg_of_nonpos_of_nonpos h h
  have ha := p a
  have hb := p b
  have z1 : a * a = 0 := by omega
  have z2 : b * b = 0 := by omega
  exact ⟨(Int.mul_eq_zero.mp z1).elim id id, (Int.mul_eq_zero.mp z2).elim id id⟩
theorem gm_sq0 {p q : Int32} (hp : gm_P p) (hq : gm_P q) (h : gm_sq p q ≤ 0) : p = q := by
  obtain ⟨h1, h2⟩ := gm_sqz h
  exact gm_ext hp hq (by omega) (by omega)
theorem gm_abs {a b : Int} (ha : -63 ≤ a ∧ a ≤ 63) (hb : -63 ≤ b ∧ b ≤ 63) : -3969 ≤ a * b ∧ a * b ≤ 3969 := by
  have h1 : a.natAbs ≤ 63 := by omega
  have h2 : b.natAbs ≤ 63 := by omega
  have h := Nat.mul_le_mul h1 h2
  rw [← Int.natAbs_mul] at h
  omega
theorem gm_trB {p q r : Int32} (hp : gm_P p) (hq : gm_P q) (hr : gm_P r) : -7938 ≤ gm_tr p q r ∧ gm_tr p q r ≤ 7938 := by
  have a := gm_co hp
  have b := gm_co hq
  have c := gm_co hr
  have h1 := gm_abs (a := gm_x q - gm_x p) (b := gm_y r - gm_y p) (by omega) (by omega)
  have h2 := gm_abs (a := gm_y q - gm_y p) (b := gm_x r - gm_x p) (by omega) (by omega)
  unfold gm_tr
  omega
theorem gm_dtB {p q r : Int32} (hp : gm_P p) (hq : gm_P q) (hr : gm_P r) : -7938 ≤ gm_dt p q r ∧ gm_dt p q r ≤ 7938 := by
  have a := gm_co hp
  have b := gm_co hq
  have c := gm_co hr
  have h1 := gm_abs (a := gm_x q - gm_x p) (b := gm_x r - gm_x p) (by omega) (by omega)
  have h2 := gm_abs (a := gm_y q - gm_y p) (b := gm_y r - gm_y p) (by omega) (by omega)
  unfold gm_dt
  omega
theorem gm_sqB {p q : Int32} (hp : gm_P p) (hq : gm_P q) : 0 ≤ gm_sq p q ∧ gm_sq p q ≤ 7938 := by
  have a := gm_co hp
  have b := gm_co hq
  have h1 := gm_abs (a := gm_x p - gm_x q) (b := gm_x p - gm_x q) (by omega) (by omega)
  have h2 := gm_abs (a := gm_y p - gm_y q) (b := gm_y p - gm_y q) (by omega) (by omega)
  refine ⟨?_, by unfold gm_sq; omega⟩
  rcases Int.lt_or_le (gm_sq p q) 0 with h | h
  · have := gm_sqz (a := gm_x p - gm_x q) (b := gm_y p - gm_y q) (by unfold gm_sq at h; omega)
    unfold gm_sq at h
    rw [this.1, this.2] at h
    omega
  · exact h
theorem gm_laB {p : Int32} (hp : gm_P p) : 0 ≤ gm_la p ∧ gm_la p ≤ 4095 := by
  have a := gm_co hp
  unfold gm_la
  omega
/-- the turns of one triple in its other orders -/
theorem gm_rot (p q r : Int32) : gm_tr q r p = gm_tr p q r := by unfold gm_tr; grind
theorem gm_swp (p q r : Int32) : gm_tr p r q = - gm_tr p q r := by unfold gm_tr; grind
theorem gm_swq (p q r : Int32) : gm_tr q p r = - gm_tr p q r := by unfold gm_tr; grind
theorem gm_ppr (p r : Int32) : gm_tr p p r = 0 := by unfold gm_tr; grind
theorem gm_prp (p r : Int32) : gm_tr p r p = 0 := by unfold gm_tr; grind
theorem gm_prr (p r : Int32) : gm_tr p r r = 0 := by unfold gm_tr; grind
theorem gm_four (w x y z : Int32) : gm_tr w x y - gm_tr w x z + gm_tr w y z - gm_tr x y z = 0 := by unfold gm_tr; grind
/-- the order's bracket: o' lies at infinity (K = 0) or near o -/
def gm_B (K e : Int) (o a b : Int32) : Int := K * gm_tr o a b + e * (gm_la b - gm_la a)
theorem gm_cw (K e : Int) (o w x y z : Int32) : gm_tr w x z * gm_B K e o w y = gm_tr w x y * gm_B K e o w z + gm_tr w y z * gm_B K e o w x := by
  unfold gm_B gm_tr gm_la; grind
theorem gm_cz (K e : Int) (o w x y z : Int32) : gm_tr w y z * gm_B K e o x z = gm_tr w x z * gm_B K e o y z + gm_tr x y z * gm_B K e o w z := by
  unfold gm_B gm_tr gm_la; grind
theorem gm_cx (K e : Int) (o w x y z : Int32) : gm_tr w x z * gm_B K e o x y = gm_tr w x y * gm_B K e o x z + gm_tr x y z * gm_B K e o w x := by
  unfold gm_B gm_tr gm_la; grind
theorem gm_cy (K e : Int) (o w x y z : Int32) : gm_tr w y z * gm_B K e o x y = gm_tr w x y * gm_B K e o y z + gm_tr x y z * gm_B K e o w y := by
  unfold gm_B gm_tr gm_la; grind
