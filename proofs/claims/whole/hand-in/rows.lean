section
theorem pk_us {f : Nat → Int32} {k : Nat} {x : Int32} : upd f k x k = x := if_pos rfl
theorem pk_un {f : Nat → Int32} {k j : Nat} {x : Int32} (h : j ≠ k) : upd f k x j = f j := if_neg h
theorem pk_sub {a b : Nat} (h : b ≤ a) : nI a - nI b = nI (a - b) := by
  obtain ⟨c, rfl⟩ : ∃ c, a = c + b := ⟨a - b, by omega⟩
  rw [← nI_add, Int32.add_sub_cancel, Nat.add_sub_cancel]
theorem pk_m1 (n : Nat) : nI (n + 1) + (-1) = nI n := by
  rw [← nI_1, Int32.add_assoc, show (1 : Int32) + (-1) = 0 from rfl, Int32.add_zero]
theorem pk_mul (a b : Nat) : nI a * nI b = nI (a * b) := (Int32.ofNat_mul a b).symm
theorem pk_div {a d : Nat} (ha : a < 2 ^ 31) (h0 : 0 < d) (hd : d < 2 ^ 31) : nI a / nI d = nI (a / d) := by
  apply Int32.toInt_inj.mp
  rw [lg_idiv_nonneg (by rw [nI_toInt ha]; omega) (by rw [nI_toInt hd]; omega), nI_toInt ha, nI_toInt hd, nI_toInt (Nat.lt_of_le_of_lt (Nat.div_le_self a d) ha)]
  first | rfl | exact (Int.natCast_ediv _ _).symm
theorem pk_rem {a d : Nat} (ha : a < 2 ^ 31) (h0 : 0 < d) (hd : d < 2 ^ 31) : nI a - nI a / nI d * nI d = nI (a % d) := by
  rw [pk_div ha h0 hd, pk_mul, pk_sub (Nat.div_mul_le_self a d)]
  exact congrArg nI (by have := Nat.div_add_mod' a d; omega)
theorem pk_sub_toInt {a b : Nat} (ha : a < 2 ^ 30) (hb : b < 2 ^ 30) : (nI a - nI b).toInt = (a : Int) - b := by
  rw [Int32.toInt_sub, nI_toInt (by omega), nI_toInt (by omega)]
  exact Int.bmod_eq_of_le (by omega) (by omega)
theorem pk_sneg {a b : Nat} (hb : b < 2 ^ 30) (h : a < b) : nI a - nI b < 0 := by
  rw [Int32.lt_iff_toInt_lt, pk_sub_toInt (by omega) hb, show (0 : Int32).toInt = 0 from by decide]
  omega
theorem pk_ix (x : Int32) {n : Nat} (hn : n < 2 ^ 31) : x < 0 ∨ nI n ≤ x ∨ ∃ j : Nat, j < n ∧ x = nI j := by
  by_cases h : x < 0
  · exact Or.inl h
  · obtain ⟨j, hj, rfl⟩ := nI_of h
    by_cases h2 : j < n
    · exact Or.inr (Or.inr ⟨j, h2, rfl⟩)
    · exact Or.inr (Or.inl (nI_le (by omega) hj))
theorem pk_le {x y : Int32} {A B : Prop} (a b : Nat) (f : a ≤ b → A) (g : b < a → B) (hx : x = nI a := by rfl) (hy : y = nI b := by rfl) (ha : a < 2 ^ 31 := by omega) (hb : b < 2 ^ 31 := by omega) : (x ≤ y → A) ∧ (¬ x ≤ y → B) := by
  subst hx hy
  rw [nI_leI ha hb]
  exact ⟨f, fun z => g (by omega)⟩
theorem pk_lt {x y : Int32} {A B : Prop} (a b : Nat) (f : a < b → A) (g : b ≤ a → B) (hx : x = nI a := by rfl) (hy : y = nI b := by rfl) (ha : a < 2 ^ 31 := by omega) (hb : b < 2 ^ 31 := by omega) : (x < y → A) ∧ (¬ x < y → B) := by
  subst hx hy
  rw [nI_ltI ha hb]
  exact ⟨f, fun z => g (by omega)⟩
theorem pk_eq {x y : Int32} {A B : Prop} (a b : Nat) (f : a = b → A) (g : a ≠ b → B) (hx : x = nI a := by rfl) (hy : y = nI b := by rfl) (ha : a < 2 ^ 31 := by omega) (hb : b < 2 ^ 31 := by omega) : (x = y → A) ∧ (¬ x = y → B) := by
  subst hx hy
  rw [nI_eq ha hb]
  exact ⟨f, g⟩
theorem pk_in {x : Int32} (n N : Nat) (h : n < N) (hx : x = nI n := by rfl) (hN : N < 2 ^ 31 := by omega) : vp_in x N := by
  subst hx
  exact vp_in_nI h hN
theorem pk_cl {x : Int32} (n : Nat) (hx : x = nI n := by rfl) (h : n < 2 ^ 31 := by omega) : x.toNatClampNeg = n := by
  subst hx
  exact nI_clamp h
theorem pk_tn {n : Nat} (h : n < 2 ^ 32) : (nI n).toBitVec.toNat = n := Nat.mod_eq_of_lt h
theorem pk_and (x : Int32) {m : Int32} (k : Nat) (hm : m.toBitVec.toNat = 2 ^ k - 1) : x &&& m = nI (x.toBitVec.toNat % 2 ^ k) := by
  apply Int32.toBitVec_inj.mp
  apply BitVec.eq_of_toNat_eq
  rw [Int32.toBitVec_and, BitVec.toNat_and, hm, Nat.and_two_pow_sub_one_eq_mod]
  show _ = (BitVec.ofNat 32 _).toNat
  rw [BitVec.toNat_ofNat]
  exact (Nat.mod_eq_of_lt (Nat.lt_of_le_of_lt (Nat.mod_le _ _) x.toBitVec.isLt)).symm
theorem pk_andN {n : Nat} (h : n < 2 ^ 32) {m : Int32} (k : Nat) (hm : m.toBitVec.toNat = 2 ^ k - 1) : nI n &&& m = nI (n % 2 ^ k) := by
  rw [pk_and _ k hm, pk_tn h]
theorem pk_andE (x : Int32) {m : Int32} (k : Nat) (hm : m.toBitVec.toNat = 2 ^ k - 1) : ∃ j : Nat, j < 2 ^ k ∧ x &&& m = nI j := ⟨_, Nat.mod_lt _ (Nat.two_pow_pos k), pk_and x k hm⟩
theorem pk_andIn (x : Int32) {m : Int32} (k : Nat) (hm : m.toBitVec.toNat = 2 ^ k - 1) (hk : k ≤ 30) : vp_in (x &&& m) (2 ^ k) := by
  obtain ⟨j, hj, e⟩ := pk_andE x k hm
  rw [e]
  exact vp_in_nI hj (Nat.lt_of_le_of_lt (Nat.pow_le_pow_right (by decide) hk) (by decide))
theorem pk_shl (a s : Int32) (k : Nat) (hs : (s.toBitVec.smod 32).toNat = k) : (a <<< s).toBitVec.toNat = a.toBitVec.toNat * 2 ^ k % 2 ^ 32 := by
  show (a.toBitVec <<< (s.toBitVec.smod 32).toNat).toNat = _
  rw [hs, BitVec.toNat_shiftLeft, Nat.shiftLeft_eq]
theorem pk_shlN {n : Nat} (s : Int32) (k : Nat) (hs : (s.toBitVec.smod 32).toNat = k) (h : n * 2 ^ k < 2 ^ 32) : nI n <<< s = nI (n * 2 ^ k) := by
  apply Int32.toBitVec_inj.mp
  apply BitVec.eq_of_toNat_eq
  have hn : n < 2 ^ 32 := Nat.lt_of_le_of_lt (Nat.le_mul_of_pos_right n (Nat.two_pow_pos k)) h
  rw [pk_shl _ _ k hs, pk_tn hn, pk_tn h, Nat.mod_eq_of_lt h]
theorem pk_shr (a s : Int32) (k : Nat) (hs : (s.toBitVec.smod 32).toNat = k) : (a >>> s).toInt = a.toInt >>> k := by
  show (a.toBitVec.sshiftRight (s.toBitVec.smod 32).toNat).toInt = _
  rw [hs, BitVec.toInt_sshiftRight]
  rfl
theorem pk_shrN {n : Nat} (h : n < 2 ^ 31) (s : Int32) (k : Nat) (hs : (s.toBitVec.smod 32).toNat = k) : nI n >>> s = nI (n / 2 ^ k) := by
  apply Int32.toInt_inj.mp
  have h2 : n / 2 ^ k ≤ n := Nat.div_le_self _ _
  rw [pk_shr _ _ k hs, nI_toInt h, nI_toInt (by omega), Int.shiftRight_eq_div_pow]
  rfl
theorem pk_loop {σ : Type} (W : Nat → Nat → σ → Prop) (I : Nat → σ → Prop) (e i0 : Nat) (s : σ) (hi : i0 ≤ e) (h0 : I i0 s) (hx : ∀ n s, I e s → W (n + 1) e s)
    (hs : ∀ n i s, i < e → I i s → (∀ s', I (i + 1) s' → W n (i + 1) s') → W (n + 1) i s) : ∃ n, W n i0 s :=
  ⟨e + 1, loop_i W I e hx hs (e + 1) i0 s hi (by omega) h0⟩
theorem pk_loopD {σ : Type} (W : Nat → Nat → σ → Prop) (I : Nat → σ → Prop) (hx : ∀ n s, I 0 s → W (n + 1) 0 s)
    (hs : ∀ n i s, I (i + 1) s → (∀ s', I i s' → W n i s') → W (n + 1) (i + 1) s) : ∀ (e : Nat) (s : σ), I e s → W (e + 1) e s := by
  intro e
  induction e with
  | zero => exact fun s h => hx 0 s h
  | succ e ih => exact fun s h => hs (e + 1) e s h (fun s' h' => ih s' h')
theorem pk_least (P : Nat → Prop) (h : ∃ k, P k) : ∃ k, P k ∧ ∀ j, j < k → ¬ P j := by
  obtain ⟨k, hk⟩ := h
  induction k using Nat.strongRecOn with
  | ind k ih =>
    by_cases e : ∃ j, j < k ∧ P j
    · obtain ⟨j, hj, pj⟩ := e
      exact ih j hj pj
    · exact ⟨k, hk, fun j hj pj => e ⟨j, hj, pj⟩⟩
def bt (x : Int32) (i : Nat) : Bool := x.toBitVec.getLsbD i
theorem b_ext {x y : Int32} (h : ∀ i, i < 32 → bt x i = bt y i) : x = y := Int32.toBitVec_inj.mp (BitVec.eq_of_getLsbD_eq (fun i hi => h i hi))
theorem b_or (x y : Int32) (i : Nat) : bt (x ||| y) i = (bt x i || bt y i) := by unfold bt; rw [Int32.toBitVec_or, BitVec.getLsbD_or]
theorem b_and (x y : Int32) (i : Nat) : bt (x &&& y) i = (bt x i && bt y i) := by unfold bt; rw [Int32.toBitVec_and, BitVec.getLsbD_and]
theorem b_xor (x y : Int32) (i : Nat) : bt (x ^^^ y) i = (bt x i ^^ bt y i) := by unfold bt; rw [Int32.toBitVec_xor, BitVec.getLsbD_xor]
theorem b_big {x : Int32} {i : Nat} (h : 32 ≤ i) : bt x i = false := BitVec.getLsbD_of_ge _ _ h
theorem b_m1 : ∀ i, i < 32 → bt (-1) i = true := by decide +kernel
theorem b_0 (i : Nat) : bt 0 i = false := BitVec.getLsbD_zero
theorem s_l : ∀ n, n < 32 → ((nI n &&& 31).toBitVec.smod 32).toNat = n := by decide +kernel
theorem s_u : ∀ n, n < 32 → (((nI n).toUInt32 &&& Int32.toUInt32 31).toBitVec % 32).toNat = n := by decide +kernel
theorem b_shl (n : Nat) (hn : n < 32) (x : Int32) {i : Nat} (hi : i < 32) : bt (x <<< (nI n &&& 31)) i = (decide (n ≤ i) && bt x (i - n)) := by
  unfold bt
  rw [Int32.toBitVec_shiftLeft]
  show (x.toBitVec <<< ((nI n &&& 31).toBitVec.smod 32).toNat).getLsbD i = _
  rw [s_l n hn, BitVec.getLsbD_shiftLeft]
  rcases Nat.lt_or_ge i n with h | h
  · simp [h, Nat.not_le.mpr h]
  · simp [hi, h, Nat.not_lt.mpr h]
theorem b_ushr (n : Nat) (hn : n < 32) (x : Int32) (i : Nat) : bt ((x.toUInt32 >>> ((nI n).toUInt32 &&& Int32.toUInt32 31)).toInt32) i = bt x (n + i) := by
  show (x.toUInt32 >>> ((nI n).toUInt32 &&& Int32.toUInt32 31)).toBitVec.getLsbD i = x.toUInt32.toBitVec.getLsbD (n + i)
  rw [UInt32.toBitVec_shiftRight]
  show (x.toUInt32.toBitVec >>> (((nI n).toUInt32 &&& Int32.toUInt32 31).toBitVec % 32).toNat).getLsbD i = _
  rw [s_u n hn, BitVec.getLsbD_ushiftRight]
theorem b_sshr (n : Nat) (hn : n < 32) (x : Int32) {i : Nat} (hi : i < 32) : bt (x >>> (nI n &&& 31)) i = if n + i < 32 then bt x (n + i) else bt x 31 := by
  unfold bt
  rw [Int32.toBitVec_shiftRight]
  show (x.toBitVec.sshiftRight ((nI n &&& 31).toBitVec.smod 32).toNat).getLsbD i = _
  rw [s_l n hn, BitVec.getLsbD_sshiftRight, BitVec.msb_eq_getLsbD_last]
  simp [hi]
end
section
/-- places as points of the plane -/
def gm_x (p : Int32) : Int := (p &&& 63).toInt
def gm_y (p : Int32) : Int := (p >>> ((6 : Int32) &&& 31)).toInt
def gm_P (p : Int32) : Prop := 0 ≤ p.toInt ∧ p.toInt < 4096
def gm_tr (p q r : Int32) : Int := (gm_x q - gm_x p) * (gm_y r - gm_y p) - (gm_y q - gm_y p) * (gm_x r - gm_x p)
def gm_dt (r p q : Int32) : Int := (gm_x p - gm_x r) * (gm_x q - gm_x r) + (gm_y p - gm_y r) * (gm_y q - gm_y r)
def gm_sq (p q : Int32) : Int := (gm_x p - gm_x q) * (gm_x p - gm_x q) + (gm_y p - gm_y q) * (gm_y p - gm_y q)
def gm_la (p : Int32) : Int := 64 * gm_x p + gm_y p
theorem gm_Pn {p : Int32} (h : gm_P p) : ∃ j : Nat, j < 4096 ∧ p = nI j := vp_in_of (n := 4096) (vp_in_iff.mpr h) (by decide)
theorem gm_nP {j : Nat} (h : j < 4096) : gm_P (nI j) := by
  unfold gm_P
  rw [nI_toInt (by omega)]
  omega
theorem gm_and {j : Nat} (h : j < 4096) : nI j &&& 63 = nI (j % 64) := pk_andN (by omega) 6 (by decide)
theorem gm_shr {j : Nat} (h : j < 4096) : nI j >>> ((6 : Int32) &&& 31) = nI (j / 64) := pk_shrN (by omega) _ 6 (by decide)
theorem gm_xN {j : Nat} (h : j < 4096) : gm_x (nI j) = ((j % 64 : Nat) : Int) := by
  unfold gm_x
  rw [gm_and h, nI_toInt (by omega)]
theorem gm_yN {j : Nat} (h : j < 4096) : gm_y (nI j) = ((j / 64 : Nat) : Int) := by
  unfold gm_y
  rw [gm_shr h, nI_toInt (by omega)]
theorem gm_co {p : Int32} (h : gm_P p) : p.toInt = 64 * gm_y p + gm_x p ∧ 0 ≤ gm_x p ∧ gm_x p ≤ 63 ∧ 0 ≤ gm_y p ∧ gm_y p ≤ 63 := by
  obtain ⟨j, hj, rfl⟩ := gm_Pn h
  rw [gm_xN hj, gm_yN hj, nI_toInt (by omega)]
  omega
theorem gm_ext {p q : Int32} (hp : gm_P p) (hq : gm_P q) (hx : gm_x p = gm_x q) (hy : gm_y p = gm_y q) : p = q := by
  apply Int32.toInt_inj.mp
  rw [(gm_co hp).1, (gm_co hq).1, hx, hy]
theorem gm_laext {p q : Int32} (hp : gm_P p) (hq : gm_P q) (h : gm_la p = gm_la q) : p = q := by
  have a := gm_co hp
  have b := gm_co hq
  unfold gm_la at h
  exact gm_ext hp hq (by omega) (by omega)
theorem gm_pos {a b : Int} (ha : 0 ≤ a) (hb : 0 ≤ b) : 0 ≤ a * b := Int.mul_nonneg ha hb
theorem gm_nn {a b : Int} (hb : 0 < b) (h : 0 ≤ a * b) : 0 ≤ a := by
  rcases Int.lt_or_le a 0 with h1 | h1
  · have := Int.mul_neg_of_neg_of_pos h1 hb
    omega
  · exact h1
theorem gm_pp {a b : Int} (hb : 0 < b) (h : 0 < a * b) : 0 < a := by
  rcases Int.lt_or_le 0 a with h1 | h1
  · exact h1
  · have := Int.mul_nonneg (a := -a) (b := b) (by omega) (by omega)
    have e : -a * b = -(a * b) := Int.neg_mul a b
    omega
theorem gm_np {a b : Int} (hb : 0 < b) (h : a * b ≤ 0) : a ≤ 0 := by
  rcases Int.lt_or_le 0 a with h1 | h1
  · have := Int.mul_pos h1 hb
    omega
  · exact h1
theorem gm_z {a b : Int} (hb : 0 < b) (h : a * b = 0) : a = 0 := by
  have h1 := gm_nn hb (by omega : 0 ≤ a * b)
  have h2 := gm_np hb (by omega : a * b ≤ 0)
  omega
theorem gm_sqz {a b : Int} (h : a * a + b * b ≤ 0) : a = 0 ∧ b = 0 := by
  have p : ∀ c : Int, 0 ≤ c * c := fun c => by
    rcases Int.le_total 0 c with h | h
    · exact Int.mul_nonneg h h
    · exact Int.mul_nonneg_of_nonpos_of_nonpos h h
  have ha := p a
  have hb := p b
  have z1 : a * a = 0 := by omega
  have z2 : b * b = 0 := by omega
  exact ⟨(Int.mul_eq_zero.mp z1).elim id id, (Int.mul_eq_zero.mp z2).elim id id⟩
theorem gm_sq0 {p q : Int32} (hp : gm_P p) (hq : gm_P q) (h : gm_sq p q ≤ 0) : p = q := by
  obtain ⟨h1, h2⟩ := gm_sqz h
  exact gm_ext hp hq (by omega) (by omega)
theorem gm_abs {a b : Int} (ha : -63 ≤ a ∧ a ≤ 63) (hb : -63 ≤ b ∧ b ≤ 63) : -3969 ≤ a * b ∧ a * b ≤ 3969 := by
  have h1 : a.natAbs ≤ 63 := by omega
  have h2 : b.natAbs ≤ 63 := by omega
  have h := Nat.mul_le_mul h1 h2
  rw [← Int.natAbs_mul] at h
  omega
theorem gm_trB {p q r : Int32} (hp : gm_P p) (hq : gm_P q) (hr : gm_P r) : -7938 ≤ gm_tr p q r ∧ gm_tr p q r ≤ 7938 := by
  have a := gm_co hp
  have b := gm_co hq
  have c := gm_co hr
  have h1 := gm_abs (a := gm_x q - gm_x p) (b := gm_y r - gm_y p) (by omega) (by omega)
  have h2 := gm_abs (a := gm_y q - gm_y p) (b := gm_x r - gm_x p) (by omega) (by omega)
  unfold gm_tr
  omega
theorem gm_dtB {p q r : Int32} (hp : gm_P p) (hq : gm_P q) (hr : gm_P r) : -7938 ≤ gm_dt p q r ∧ gm_dt p q r ≤ 7938 := by
  have a := gm_co hp
  have b := gm_co hq
  have c := gm_co hr
  have h1 := gm_abs (a := gm_x q - gm_x p) (b := gm_x r - gm_x p) (by omega) (by omega)
  have h2 := gm_abs (a := gm_y q - gm_y p) (b := gm_y r - gm_y p) (by omega) (by omega)
  unfold gm_dt
  omega
theorem gm_sqB {p q : Int32} (hp : gm_P p) (hq : gm_P q) : 0 ≤ gm_sq p q ∧ gm_sq p q ≤ 7938 := by
  have a := gm_co hp
  have b := gm_co hq
  have h1 := gm_abs (a := gm_x p - gm_x q) (b := gm_x p - gm_x q) (by omega) (by omega)
  have h2 := gm_abs (a := gm_y p - gm_y q) (b := gm_y p - gm_y q) (by omega) (by omega)
  refine ⟨?_, by unfold gm_sq; omega⟩
  rcases Int.lt_or_le (gm_sq p q) 0 with h | h
  · have := gm_sqz (a := gm_x p - gm_x q) (b := gm_y p - gm_y q) (by unfold gm_sq at h; omega)
    unfold gm_sq at h
    rw [this.1, this.2] at h
    omega
  · exact h
theorem gm_laB {p : Int32} (hp : gm_P p) : 0 ≤ gm_la p ∧ gm_la p ≤ 4095 := by
  have a := gm_co hp
  unfold gm_la
  omega
/-- the turns of one triple in its other orders -/
theorem gm_rot (p q r : Int32) : gm_tr q r p = gm_tr p q r := by unfold gm_tr; grind
theorem gm_swp (p q r : Int32) : gm_tr p r q = - gm_tr p q r := by unfold gm_tr; grind
theorem gm_swq (p q r : Int32) : gm_tr q p r = - gm_tr p q r := by unfold gm_tr; grind
theorem gm_ppr (p r : Int32) : gm_tr p p r = 0 := by unfold gm_tr; grind
theorem gm_prp (p r : Int32) : gm_tr p r p = 0 := by unfold gm_tr; grind
theorem gm_prr (p r : Int32) : gm_tr p r r = 0 := by unfold gm_tr; grind
theorem gm_four (w x y z : Int32) : gm_tr w x y - gm_tr w x z + gm_tr w y z - gm_tr x y z = 0 := by unfold gm_tr; grind
/-- the order's bracket: o' lies at infinity (K = 0) or near o -/
def gm_B (K e : Int) (o a b : Int32) : Int := K * gm_tr o a b + e * (gm_la b - gm_la a)
theorem gm_cw (K e : Int) (o w x y z : Int32) : gm_tr w x z * gm_B K e o w y = gm_tr w x y * gm_B K e o w z + gm_tr w y z * gm_B K e o w x := by
  unfold gm_B gm_tr gm_la; grind
theorem gm_cz (K e : Int) (o w x y z : Int32) : gm_tr w y z * gm_B K e o x z = gm_tr w x z * gm_B K e o y z + gm_tr x y z * gm_B K e o w z := by
  unfold gm_B gm_tr gm_la; grind
theorem gm_cx (K e : Int) (o w x y z : Int32) : gm_tr w x z * gm_B K e o x y = gm_tr w x y * gm_B K e o x z + gm_tr x y z * gm_B K e o w x := by
  unfold gm_B gm_tr gm_la; grind
theorem gm_cy (K e : Int) (o w x y z : Int32) : gm_tr w y z * gm_B K e o x y = gm_tr w x y * gm_B K e o y z + gm_tr x y z * gm_B K e o w y := by
  unfold gm_B gm_tr gm_la; grind
end
section
/-- r lies on the left of c u, or on the stretch from c to u -/
def gm_N (c u r : Int32) : Prop := 0 ≤ gm_tr c u r ∧ (gm_tr c u r = 0 → gm_dt r c u ≤ 0)
/-- the same on the side s (1: left, -1: right) -/
def gm_Ns (s : Int) (c u r : Int32) : Prop := 0 ≤ s * gm_tr c u r ∧ (gm_tr c u r = 0 → gm_dt r c u ≤ 0)
def gm_ph (a b : Int) (c r : Int32) : Int := a * (gm_x r - gm_x c) + b * (gm_y r - gm_y c)
/-- c is strictly outermost in some direction -/
def gm_E (S : Int32 → Prop) (c : Int32) : Prop := ∃ a b : Int, ∀ r, S r → r ≠ c → 0 < gm_ph a b c r
theorem gm_N1 {c u r : Int32} : gm_N c u r ↔ gm_Ns 1 c u r := by unfold gm_N gm_Ns; rw [Int.one_mul]
theorem gm_Nm {p d r : Int32} : gm_N p d r ↔ gm_Ns (-1) d p r := by
  unfold gm_N gm_Ns
  have h1 : gm_tr d p r = - gm_tr p d r := gm_swq p d r
  have h2 : gm_dt r d p = gm_dt r p d := by unfold gm_dt; grind
  rw [h1, h2]
  constructor
  · exact fun h => ⟨by omega, fun z => h.2 (by omega)⟩
  · exact fun h => ⟨by omega, fun z => h.2 (by omega)⟩
theorem gm_phB (a b : Int) (c u v w : Int32) : gm_tr c u w * gm_ph a b c v = gm_tr c v w * gm_ph a b c u + gm_tr c u v * gm_ph a b c w := by
  unfold gm_ph gm_tr; grind
theorem gm_ph1 (a b : Int) (c u r : Int32) (h : gm_tr c u r = 0) : gm_dt r c u * gm_ph a b c u = (gm_ph a b c r - gm_ph a b c u) * gm_dt c u r := by
  unfold gm_tr at h; unfold gm_dt gm_ph; grind
theorem gm_ph2 (a b : Int) (c u r : Int32) (h : gm_tr c u r = 0) : gm_dt c u r * gm_ph a b c u = gm_ph a b c r * gm_sq c u := by
  unfold gm_tr at h; unfold gm_dt gm_ph gm_sq; grind
theorem gm_ph0 (a b : Int) (c : Int32) : gm_ph a b c c = 0 := by unfold gm_ph; grind
theorem gm_sqp {a b : Int} {c u : Int32} (h : 0 < gm_ph a b c u) : 0 < gm_sq c u := by
  rcases Int.lt_or_le 0 (gm_sq c u) with h1 | h1
  · exact h1
  · have z := gm_sqz (a := gm_x c - gm_x u) (b := gm_y c - gm_y u) h1
    have e : gm_ph a b c u = 0 := by
      unfold gm_ph
      rw [show gm_x u - gm_x c = 0 by omega, show gm_y u - gm_y c = 0 by omega, Int.mul_zero, Int.mul_zero, Int.zero_add]
    omega
/-- the segment's condition by the direction's measure -/
theorem gm_seg {a b : Int} {c u r : Int32} (hu : 0 < gm_ph a b c u) (hr : 0 < gm_ph a b c r) (h : gm_tr c u r = 0) : gm_dt r c u ≤ 0 ↔ gm_ph a b c r ≤ gm_ph a b c u := by
  have e1 := gm_ph1 a b c u r h
  have e2 := gm_ph2 a b c u r h
  have hd : 0 < gm_dt c u r := gm_pp hu (by rw [e2]; exact Int.mul_pos hr (gm_sqp hu))
  constructor
  · intro hle
    have := Int.mul_nonneg (a := -gm_dt r c u) (b := gm_ph a b c u) (by omega) (by omega)
    rw [Int.neg_mul] at this
    have := gm_np hd (a := gm_ph a b c r - gm_ph a b c u) (by omega)
    omega
  · intro hle
    have := Int.mul_nonneg (a := gm_ph a b c u - gm_ph a b c r) (b := gm_dt c u r) (by omega) (by omega)
    have e3 : (gm_ph a b c u - gm_ph a b c r) * gm_dt c u r = - ((gm_ph a b c r - gm_ph a b c u) * gm_dt c u r) := by rw [← Int.neg_mul]; congr 1; omega
    exact gm_np hu (by omega)
theorem gm_rc (s : Int) (c u : Int32) : gm_Ns s c u c := by
  unfold gm_Ns
  rw [gm_prp, Int.mul_zero]
  exact ⟨Int.le_refl 0, fun _ => by unfold gm_dt; grind⟩
theorem gm_ru (s : Int) (c u : Int32) : gm_Ns s c u u := by
  unfold gm_Ns
  rw [gm_prr, Int.mul_zero]
  exact ⟨Int.le_refl 0, fun _ => by unfold gm_dt; grind⟩
theorem gm_uc {s : Int} {c r : Int32} (hc : gm_P c) (hr : gm_P r) (h : gm_Ns s c c r) : r = c := by
  have h2 := h.2 (gm_ppr c r)
  exact (gm_sq0 hc hr (by unfold gm_dt at h2; unfold gm_sq; exact h2)).symm
theorem gm_Ntr {s : Int} (hs : s = 1 ∨ s = -1) {a b : Int} {c w u r : Int32} (hc : gm_P c) (hPu : gm_P u) (hPr : gm_P r)
    (hw : w ≠ c → 0 < gm_ph a b c w) (hu : u ≠ c → 0 < gm_ph a b c u) (hr : r ≠ c → 0 < gm_ph a b c r)
    (h1 : gm_Ns s c w u) (h2 : gm_Ns s c u r) : gm_Ns s c w r := by
  by_cases er : r = c
  · rw [er]; exact gm_rc s c w
  by_cases eu : u = c
  · rw [eu] at h2; exact absurd (gm_uc hc hPr h2) er
  by_cases ew : w = c
  · rw [ew] at h1; exact absurd (gm_uc hc hPu h1) eu
  have pw := hw ew
  have pu := hu eu
  have pr := hr er
  have e := gm_phB a b c w u r
  have m1 := gm_pos h1.1 (Int.le_of_lt pr)
  have m2 := gm_pos h2.1 (Int.le_of_lt pw)
  have e' : (s * gm_tr c w r) * gm_ph a b c u = (s * gm_tr c u r) * gm_ph a b c w + (s * gm_tr c w u) * gm_ph a b c r := by
    rw [Int.mul_assoc, e, Int.mul_add, Int.mul_assoc, Int.mul_assoc]
  refine ⟨gm_nn pu (by omega), fun z => ?_⟩
  rw [z, Int.mul_zero, Int.zero_mul] at e'
  have z1 : s * gm_tr c w u = 0 := gm_z pr (by omega)
  have z2 : s * gm_tr c u r = 0 := gm_z pw (by omega)
  have y1 : gm_tr c w u = 0 := by rcases hs with rfl | rfl <;> omega
  have y2 : gm_tr c u r = 0 := by rcases hs with rfl | rfl <;> omega
  have l1 := (gm_seg pw pu y1).mp (h1.2 y1)
  have l2 := (gm_seg pu pr y2).mp (h2.2 y2)
  exact (gm_seg pw pr z).mpr (by omega)
theorem gm_Nto {s : Int} (hs : s = 1 ∨ s = -1) {a b : Int} {c w u : Int32}
    (hw : w ≠ c → 0 < gm_ph a b c w) (hu : u ≠ c → 0 < gm_ph a b c u) : gm_Ns s c w u ∨ gm_Ns s c u w := by
  by_cases eu : u = c
  · rw [eu]; exact Or.inl (gm_rc s c w)
  by_cases ew : w = c
  · rw [ew]; exact Or.inr (gm_rc s c u)
  have pw := hw ew
  have pu := hu eu
  have e : gm_tr c u w = - gm_tr c w u := gm_swp c w u
  by_cases z : gm_tr c w u = 0
  · have z' : gm_tr c u w = 0 := by omega
    rcases Int.le_total (gm_ph a b c u) (gm_ph a b c w) with l | l
    · exact Or.inl ⟨by rw [z, Int.mul_zero]; exact Int.le_refl 0, fun _ => (gm_seg pw pu z).mpr l⟩
    · exact Or.inr ⟨by rw [z', Int.mul_zero]; exact Int.le_refl 0, fun _ => (gm_seg pu pw z').mpr l⟩
  · have z' : ¬ gm_tr c u w = 0 := by omega
    rcases Int.le_total 0 (s * gm_tr c w u) with l | l
    · exact Or.inl ⟨l, fun h => absurd h z⟩
    · exact Or.inr ⟨by rw [e, Int.mul_neg]; omega, fun h => absurd h z'⟩
/-- the step: w is farther round than u, and so takes its place -/
theorem gm_stp {S : Int32 → Prop} {s : Int} (hs : s = 1 ∨ s = -1) {c w u : Int32} (hS : ∀ r, S r → gm_P r) (hc : gm_P c)
    (hE : gm_E (fun r => S r ∨ r = w) c) (hu : S u ∨ u = c) (hPu : gm_P u) (h : ∀ r, S r → gm_Ns s c u r) (hn : ¬ gm_Ns s c u w) : ∀ r, S r ∨ r = w → gm_Ns s c w r := by
  obtain ⟨a, b, hE⟩ := hE
  have pw : w ≠ c → 0 < gm_ph a b c w := fun e => hE w (Or.inr rfl) e
  have pu : u ≠ c → 0 < gm_ph a b c u := fun e => hu.elim (fun h => hE u (Or.inl h) e) (fun h => absurd h e)
  have hwu : gm_Ns s c w u := (gm_Nto hs pu pw).resolve_left hn
  intro r hr
  rcases hr with hr | rfl
  · exact gm_Ntr hs hc hPu (hS r hr) pw pu (fun e => hE r (Or.inl hr) e) hwu (h r hr)
  · exact gm_ru s c r
def gm_nx (S : Int32 → Prop) (p q : Int32) : Prop := S q ∧ ∀ r, S r → gm_N p q r
theorem gm_nxu {S : Int32 → Prop} (hS : ∀ r, S r → gm_P r) {p q q' : Int32} (h : gm_nx S p q) (h' : gm_nx S p q') : q = q' := by
  have a := h.2 q' h'.1
  have b := h'.2 q h.1
  have e : gm_tr p q' q = - gm_tr p q q' := gm_swp p q q'
  have a1 := a.1
  have b1 := b.1
  have a2 := a.2 (by omega)
  have b2 := b.2 (by omega)
  have e2 : gm_dt q' p q + gm_dt q p q' = gm_sq q q' := by unfold gm_dt gm_sq; grind
  exact gm_sq0 (hS q h.1) (hS q' h'.1) (by omega)
theorem gm_nxi {S : Int32 → Prop} (hS : ∀ r, S r → gm_P r) {p p' q : Int32} (hp : S p) (hp' : S p') (h : gm_nx S p q) (h' : gm_nx S p' q) : p = p' := by
  have a := h.2 p' hp'
  have b := h'.2 p hp
  have e : gm_tr p' q p = - gm_tr p q p' := by unfold gm_tr; grind
  have a1 := a.1
  have b1 := b.1
  have a2 := a.2 (by omega)
  have b2 := b.2 (by omega)
  have e2 : gm_dt p' p q + gm_dt p p' q = gm_sq p p' := by unfold gm_dt gm_sq; grind
  exact gm_sq0 (hS p hp) (hS p' hp') (by omega)
theorem gm_phq (p q r : Int32) : gm_ph (-10000 * (gm_y q - gm_y p) + (gm_x p - gm_x q)) (10000 * (gm_x q - gm_x p) + (gm_y p - gm_y q)) q r = 10000 * gm_tr p q r + gm_dt q p r := by
  unfold gm_ph gm_tr gm_dt; grind
theorem gm_php (p q r : Int32) : gm_ph (-10000 * (gm_y q - gm_y p) + (gm_x q - gm_x p)) (10000 * (gm_x q - gm_x p) + (gm_y q - gm_y p)) p r = 10000 * gm_tr p q r + gm_dt p q r := by
  unfold gm_ph gm_tr gm_dt; grind
theorem gm_Eq {S : Int32 → Prop} {q : Int32} (p : Int32) (h : ∀ r, S r → r ≠ q → 0 < 10000 * gm_tr p q r + gm_dt q p r) : gm_E S q :=
  ⟨-10000 * (gm_y q - gm_y p) + (gm_x p - gm_x q), 10000 * (gm_x q - gm_x p) + (gm_y p - gm_y q), fun r hr hn => by rw [gm_phq]; exact h r hr hn⟩
theorem gm_Ep {S : Int32 → Prop} {p : Int32} (q : Int32) (h : ∀ r, S r → r ≠ p → 0 < 10000 * gm_tr p q r + gm_dt p q r) : gm_E S p :=
  ⟨-10000 * (gm_y q - gm_y p) + (gm_x q - gm_x p), 10000 * (gm_x q - gm_x p) + (gm_y q - gm_y p), fun r hr hn => by rw [gm_php]; exact h r hr hn⟩
/-- both ends of a side are outermost -/
theorem gm_nxE {S : Int32 → Prop} (hS : ∀ r, S r → gm_P r) {p q : Int32} (hp : gm_P p) (h : gm_nx S p q) : gm_E S q := by
  refine gm_Eq p fun r hr hn => ?_
  have hq := hS q h.1
  have hP := hS r hr
  have b := gm_dtB hq hp hP
  have a := h.2 r hr
  have a1 := a.1
  by_cases z : gm_tr p q r = 0
  · have a2 := a.2 z
    have e : gm_dt q p r = gm_sq r q - gm_dt r p q := by unfold gm_dt gm_sq; grind
    have := (gm_sqB hP hq).1
    by_cases z2 : gm_sq r q ≤ 0
    · exact absurd (gm_sq0 hP hq z2) hn
    · omega
  · omega
theorem gm_nxP {S : Int32 → Prop} (hS : ∀ r, S r → gm_P r) {p q : Int32} (hp : gm_P p) (h : gm_nx S p q) : gm_E S p := by
  refine gm_Ep q fun r hr hn => ?_
  have hq := hS q h.1
  have hP := hS r hr
  have b := gm_dtB hp hq hP
  have a := h.2 r hr
  have a1 := a.1
  by_cases z : gm_tr p q r = 0
  · have a2 := a.2 z
    have e : gm_dt p q r = gm_sq r p - gm_dt r p q := by unfold gm_dt gm_sq; grind
    by_cases z2 : gm_sq r p ≤ 0
    · exact absurd (gm_sq0 hP hp z2) hn
    · omega
  · omega
/-- what the reference asks of a corner -/
def gm_F (p q r : Int32) : Prop := 0 ≤ gm_tr p q r ∧ (gm_tr p q r = 0 → 0 ≤ gm_dt p q r)
theorem gm_FE {S : Int32 → Prop} (hS : ∀ r, S r → gm_P r) {p q : Int32} (hp : gm_P p) (hq : gm_P q) (hn : q ≠ p) (h : ∀ r, S r → gm_F p q r) : gm_E S p := by
  refine gm_Ep q fun r hr hn' => ?_
  have hP := hS r hr
  have b := gm_dtB hp hq hP
  have a := h r hr
  have a1 := a.1
  by_cases z : gm_tr p q r = 0
  · have a2 := a.2 z
    by_cases z2 : gm_dt p q r = 0
    · have e : gm_sq q p * gm_sq r p = gm_tr p q r * gm_tr p q r + gm_dt p q r * gm_dt p q r := by unfold gm_sq gm_tr gm_dt; grind
      rw [z, z2, Int.mul_zero] at e
      rcases Int.mul_eq_zero.mp (e.trans (Int.zero_add 0)) with e1 | e1
      · exact absurd (gm_sq0 hq hp (by omega)) hn
      · exact absurd (gm_sq0 hP hp (by omega)) hn'
    · omega
  · omega
theorem gm_nxF {S : Int32 → Prop} {p q : Int32} (h : gm_nx S p q) : ∀ r, S r → gm_F p q r := by
  intro r hr
  have a := h.2 r hr
  refine ⟨a.1, fun z => ?_⟩
  have a2 := a.2 z
  have e : gm_dt p q r = gm_sq r p - gm_dt r p q := by unfold gm_dt gm_sq; grind
  have : 0 ≤ gm_sq r p := by
    rcases Int.lt_or_le (gm_sq r p) 0 with h | h
    · have := gm_sqz (a := gm_x r - gm_x p) (b := gm_y r - gm_y p) (by unfold gm_sq at h; omega)
      unfold gm_sq at h
      rw [this.1, this.2] at h
      omega
    · exact h
  omega
/-- an outermost point has a next one -/
theorem gm_nxX {s : Int} (hs : s = 1 ∨ s = -1) {c : Int32} (hc : gm_P c) (g : Nat → Int32) : ∀ n : Nat, (∀ i, i < n → gm_P (g i)) → gm_E (fun r => ∃ i, i < n ∧ g i = r) c →
    ∃ q, (q = c ∨ ∃ i, i < n ∧ g i = q) ∧ ∀ r, (∃ i, i < n ∧ g i = r) → gm_Ns s c q r := by
  intro n
  induction n with
  | zero => exact fun _ _ => ⟨c, Or.inl rfl, fun r h => by obtain ⟨i, hi, _⟩ := h; omega⟩
  | succ n ih =>
    intro hP hE
    obtain ⟨a, b, hE⟩ := hE
    obtain ⟨q, hq, h⟩ := ih (fun i hi => hP i (by omega)) ⟨a, b, fun r hr hn => hE r (by obtain ⟨i, hi, e⟩ := hr; exact ⟨i, by omega, e⟩) hn⟩
    by_cases hn : gm_Ns s c q (g n)
    · refine ⟨q, ?_, fun r hr => ?_⟩
      · rcases hq with h | ⟨i, hi, e⟩
        · exact Or.inl h
        · exact Or.inr ⟨i, by omega, e⟩
      · obtain ⟨i, hi, e⟩ := hr
        by_cases ei : i = n
        · rw [← e, ei]; exact hn
        · exact h r ⟨i, by omega, e⟩
    · refine ⟨g n, Or.inr ⟨n, by omega, rfl⟩, fun r hr => ?_⟩
      refine gm_stp (S := fun r => ∃ i, i < n ∧ g i = r) hs (c := c) (w := g n) (u := q) ?_ hc ⟨a, b, fun r hr hn => hE r ?_ hn⟩ hq.symm ?_ h hn r ?_
      · rintro r ⟨i, hi, rfl⟩; exact hP i (by omega)
      · rcases hr with ⟨i, hi, e⟩ | e
        · exact ⟨i, by omega, e⟩
        · exact ⟨n, by omega, e.symm⟩
      · rcases hq with h | ⟨i, hi, e⟩
        · rw [h]; exact hc
        · rw [← e]; exact hP i (by omega)
      · obtain ⟨i, hi, e⟩ := hr
        by_cases ei : i = n
        · exact Or.inr (by rw [← e, ei])
        · exact Or.inl ⟨i, by omega, e⟩
end
section
theorem gm_phl (c r : Int32) : gm_ph 64 1 c r = gm_la r - gm_la c := by unfold gm_ph gm_la; grind
/-- o comes first of all -/
def gm_mn (S : Int32 → Prop) (o : Int32) : Prop := S o ∧ ∀ r, S r → r ≠ o → gm_la o < gm_la r
theorem gm_mnE {S : Int32 → Prop} {o : Int32} (h : gm_mn S o) : gm_E S o := ⟨64, 1, fun r hr hn => by rw [gm_phl]; have := h.2 r hr hn; omega⟩
theorem gm_srt {c u v w : Int32} (hu : gm_la c < gm_la u) (hv : gm_la c < gm_la v) (hw : gm_la c < gm_la w) (h1 : 0 < gm_tr c u v) (h2 : 0 < gm_tr c v w) : 0 < gm_tr c u w := by
  have e := gm_phB 64 1 c u v w
  rw [gm_phl, gm_phl, gm_phl] at e
  have m1 := Int.mul_pos h2 (show 0 < gm_la u - gm_la c by omega)
  have m2 := Int.mul_pos h1 (show 0 < gm_la w - gm_la c by omega)
  exact gm_pp (show 0 < gm_la v - gm_la c by omega) (by omega)
/-- the ring: each side is the next one's, from the first point round to it again -/
def gm_cyc (S : Int32 → Prop) (L : Nat → Int32) (m : Nat) : Prop :=
  0 < m ∧ gm_mn S (L 0) ∧ (∀ i, i + 1 < m → gm_nx S (L i) (L (i + 1)) ∧ L (i + 1) ≠ L 0) ∧ gm_nx S (L (m - 1)) (L 0)
theorem gm_cS {S : Int32 → Prop} {L : Nat → Int32} {m : Nat} (h : gm_cyc S L m) {i : Nat} (hi : i < m) : S (L i) := by
  obtain ⟨h0, h1, h2, h3⟩ := h
  cases i with
  | zero => exact h1.1
  | succ i => exact (h2 i hi).1.1
theorem gm_cE {S : Int32 → Prop} (hS : ∀ r, S r → gm_P r) {L : Nat → Int32} {m : Nat} (h : gm_cyc S L m) {i : Nat} (hi : i < m) : gm_E S (L i) := by
  have hs := fun i (hi : i < m) => hS _ (gm_cS h (i := i) hi)
  obtain ⟨h0, h1, h2, h3⟩ := h
  cases i with
  | zero => exact gm_mnE h1
  | succ i => exact gm_nxE hS (hs i (by omega)) (h2 i hi).1
theorem gm_col {a b : Int} {c u r : Int32} (hu : 0 < gm_ph a b c u) (hr : 0 < gm_ph a b c r) (h : gm_tr c u r = 0) : 0 < gm_dt c u r := by
  have e := gm_ph2 a b c u r h
  exact gm_pp hu (by rw [e]; exact Int.mul_pos hr (gm_sqp hu))
/-- an outermost point is on no stretch between others -/
theorem gm_Eseg {S : Int32 → Prop} {p u v : Int32} (hE : gm_E S p) (hu : S u) (hv : S v) (nu : u ≠ p) (nv : v ≠ p) (h : gm_tr p u v = 0) : 0 < gm_dt p u v := by
  obtain ⟨a, b, hE⟩ := hE
  exact gm_col (hE u hu nu) (hE v hv nv) h
theorem gm_bary (a b : Int) (p u v w : Int32) : gm_tr v w p * gm_ph a b p u + gm_tr w u p * gm_ph a b p v + gm_tr u v p * gm_ph a b p w = 0 := by
  unfold gm_tr gm_ph; grind
/-- nor in a triangle of others -/
theorem gm_Etri {S : Int32 → Prop} {p u v w : Int32} (hE : gm_E S p) (hu : S u) (hv : S v) (hw : S w) (nu : u ≠ p) (nv : v ≠ p) (nw : w ≠ p)
    (h1 : 0 ≤ gm_tr v w p) (h2 : 0 ≤ gm_tr w u p) (h3 : 0 ≤ gm_tr u v p) (h : 0 < gm_tr u v w) : False := by
  obtain ⟨a, b, hE⟩ := hE
  have pu := hE u hu nu
  have pv := hE v hv nv
  have pw := hE w hw nw
  have e := gm_bary a b p u v w
  have m1 := Int.mul_nonneg h1 (Int.le_of_lt pu)
  have m2 := Int.mul_nonneg h2 (Int.le_of_lt pv)
  have m3 := Int.mul_nonneg h3 (Int.le_of_lt pw)
  have z1 := gm_z pu (show gm_tr v w p * gm_ph a b p u = 0 by omega)
  have z2 := gm_z pv (show gm_tr w u p * gm_ph a b p v = 0 by omega)
  have z3 := gm_z pw (show gm_tr u v p * gm_ph a b p w = 0 by omega)
  have e2 : gm_tr u v w = gm_tr v w p + gm_tr w u p + gm_tr u v p := by unfold gm_tr; grind
  omega
theorem gm_csr1 {S : Int32 → Prop} {L : Nat → Int32} {m : Nat} (h : gm_cyc S L m) {i : Nat} (h0 : 0 < i) (hi : i + 1 < m) : 0 < gm_tr (L 0) (L i) (L (i + 1)) := by
  have hs := fun i (hi : i < m) => gm_cS h (i := i) hi
  obtain ⟨_, h1, h2, h3⟩ := h
  obtain ⟨j, rfl⟩ : ∃ j, i = j + 1 := ⟨i - 1, by omega⟩
  have n1 := (h2 j (by omega)).2
  have n2 := (h2 (j + 1) hi).2
  have l1 := h1.2 _ (hs (j + 1) (by omega)) n1
  have l2 := h1.2 _ (hs (j + 1 + 1) (by omega)) n2
  have a := (h2 (j + 1) hi).1.2 (L 0) h1.1
  have a1 := a.1
  rw [gm_rot (L 0)] at a1
  rcases Int.lt_or_eq_of_le a1 with h | h
  · exact h
  · have a2 := a.2 (by rw [gm_rot (L 0)]; exact h.symm)
    have := gm_col (a := 64) (b := 1) (c := L 0) (u := L (j + 1)) (r := L (j + 1 + 1)) (by rw [gm_phl]; omega) (by rw [gm_phl]; omega) h.symm
    omega
theorem gm_csr {S : Int32 → Prop} {L : Nat → Int32} {m : Nat} (h : gm_cyc S L m) {i : Nat} (h0 : 0 < i) : ∀ d, i + 1 + d < m → 0 < gm_tr (L 0) (L i) (L (i + 1 + d)) := by
  have hl : ∀ i, 0 < i → i < m → gm_la (L 0) < gm_la (L i) := by
    intro i h0 hi
    refine h.2.1.2 _ (gm_cS h hi) ?_
    obtain ⟨j, rfl⟩ : ∃ j, i = j + 1 := ⟨i - 1, by omega⟩
    exact (h.2.2.1 j hi).2
  intro d
  induction d with
  | zero => exact fun hd => gm_csr1 h h0 hd
  | succ d ih =>
    intro hd
    exact gm_srt (hl i h0 (by omega)) (hl (i + 1 + d) (by omega) (by omega)) (hl (i + 1 + (d + 1)) (by omega) hd) (ih (by omega)) (gm_csr1 h (i := i + 1 + d) (by omega) (by omega))
/-- all outermost points are in the ring -/
theorem gm_call {S : Int32 → Prop} (hS : ∀ r, S r → gm_P r) {L : Nat → Int32} {m : Nat} (h : gm_cyc S L m) {p : Int32} (hp : S p) (hE : gm_E S p) : ∃ i, i < m ∧ L i = p := by
  apply Classical.byContradiction
  intro hn
  have hn : ∀ i, i < m → L i ≠ p := fun i hi e => hn ⟨i, hi, e⟩
  have hs := fun i (hi : i < m) => gm_cS h (i := i) hi
  have hr := fun i (h0 : 0 < i) (hi : i + 1 < m) => gm_csr1 h h0 hi
  obtain ⟨h0, h1, h2, h3⟩ := h
  by_cases e1 : m = 1
  · subst e1
    have a := h3.2 p hp
    exact hn 0 h0 (gm_uc (hS _ h1.1) (hS _ hp) (gm_N1.mp a)).symm
  by_cases e2 : m = 2
  · subst e2
    have a := (h2 0 (by omega)).1.2 p hp
    have b : gm_N (L 1) (L 0) p := h3.2 p hp
    have e : gm_tr (L 1) (L 0) p = - gm_tr (L 0) (L 1) p := gm_swq _ _ _
    have a1 : 0 ≤ gm_tr (L 0) (L 1) p := a.1
    have b1 := b.1
    have a2 : gm_dt p (L 0) (L 1) ≤ 0 := a.2 (show gm_tr (L 0) (L 1) p = 0 by omega)
    have := gm_Eseg hE (hs 0 (by omega)) (hs 1 (by omega)) (hn 0 (by omega)) (hn 1 (by omega)) (by rw [← gm_rot p (L 0) (L 1)]; omega)
    omega
  have hj : ∃ k, gm_tr (L 0) (L (k + 2)) p ≤ 0 ∧ k + 2 < m := by
    refine ⟨m - 3, ?_, by omega⟩
    have a := (h3.2 p hp).1
    rw [gm_swq (L 0)] at a
    rw [show m - 3 + 2 = m - 1 by omega]
    omega
  obtain ⟨k, ⟨hk, km⟩, hl⟩ := pk_least (fun k => gm_tr (L 0) (L (k + 2)) p ≤ 0 ∧ k + 2 < m) hj
  have hb : 0 ≤ gm_tr (L 0) (L (k + 1)) p := by
    cases k with
    | zero => exact ((h2 0 (by omega)).1.2 p hp).1
    | succ k =>
      rcases Int.lt_or_le (gm_tr (L 0) (L (k + 1 + 1)) p) 0 with g | g
      · exact absurd ⟨Int.le_of_lt g, by omega⟩ (hl k (by omega))
      · exact g
  have ha := ((h2 (k + 1) (by omega)).1.2 p hp).1
  refine gm_Etri hE (hs 0 h0) (hs (k + 1) (by omega)) (hs (k + 2) (by omega)) (hn 0 h0) (hn (k + 1) (by omega)) (hn (k + 2) (by omega)) ha ?_ hb (hr (k + 1) (by omega) km)
  rw [gm_swq (L 0)]
  omega
/-- the corners as the reference asks for them: just the outermost points, the first first, the others by direction from it -/
def gm_ref (S : Int32 → Prop) (L : Nat → Int32) (m : Nat) : Prop :=
  (∀ p, (S p ∧ gm_E S p) ↔ ∃ i, i < m ∧ L i = p) ∧ (0 < m → gm_mn S (L 0)) ∧ (∀ i, 0 < i → i < m → L i ≠ L 0) ∧ (∀ i j, 0 < i → i < j → j < m → 0 < gm_tr (L 0) (L i) (L j))
theorem gm_cr {S : Int32 → Prop} (hS : ∀ r, S r → gm_P r) {L : Nat → Int32} {m : Nat} (h : gm_cyc S L m) : gm_ref S L m := by
  refine ⟨fun p => ⟨fun hp => gm_call hS h hp.1 hp.2, ?_⟩, fun _ => h.2.1, fun i h0 hi => ?_, fun i j h0 hij hj => ?_⟩
  · rintro ⟨i, hi, rfl⟩
    exact ⟨gm_cS h hi, gm_cE hS h hi⟩
  · obtain ⟨k, rfl⟩ : ∃ k, i = k + 1 := ⟨i - 1, by omega⟩
    exact (h.2.2.1 k hi).2
  · obtain ⟨d, rfl⟩ : ∃ d, j = i + 1 + d := ⟨j - i - 1, by omega⟩
    exact gm_csr h h0 d hj
theorem gm_rinj {S : Int32 → Prop} {L : Nat → Int32} {m : Nat} (h : gm_ref S L m) {i j : Nat} (hij : i < j) (hj : j < m) : L i ≠ L j := by
  obtain ⟨_, _, h2, h3⟩ := h
  cases i with
  | zero => exact fun e => h2 j hij hj e.symm
  | succ i =>
    intro e
    have := h3 (i + 1) j (by omega) hij hj
    rw [e, gm_prr] at this
    omega
theorem gm_run1 {S : Int32 → Prop} (hS : ∀ r, S r → gm_P r) {L L' : Nat → Int32} {m m' : Nat} (h : gm_ref S L m) (h' : gm_ref S L' m') : ∀ i, i < m → i < m' → L i = L' i := by
  have key : ∀ {L L' : Nat → Int32} {m m' : Nat}, gm_ref S L m → gm_ref S L' m' → ∀ i, i < m → ∃ k, k < m' ∧ L' k = L i := by
    intro L L' m m' h h' i hi
    exact (h'.1 _).mp ((h.1 _).mpr ⟨i, hi, rfl⟩)
  have h00 : 0 < m → 0 < m' → L 0 = L' 0 := by
    intro h0 h0'
    apply Classical.byContradiction
    intro hn
    have a := (h.2.1 h0).2 _ (h'.2.1 h0').1 (fun e => hn e.symm)
    have b := (h'.2.1 h0').2 _ (h.2.1 h0).1 hn
    omega
  intro i
  induction i using Nat.strongRecOn with
  | ind i ih =>
    intro hi hi'
    by_cases e0 : i = 0
    · rw [e0]; exact h00 (by omega) (by omega)
    have o := h00 (by omega) (by omega)
    obtain ⟨k, hk, ek⟩ := key h h' i hi
    obtain ⟨k', hk', ek'⟩ := key h' h i hi'
    have gk : i ≤ k := by
      apply Classical.byContradiction
      intro hn
      exact gm_rinj h (i := k) (j := i) (by omega) hi ((ih k (by omega) (by omega) hk).trans ek)
    have gk' : i ≤ k' := by
      apply Classical.byContradiction
      intro hn
      exact gm_rinj h' (i := k') (j := i) (by omega) hi' ((ih k' (by omega) hk' (by omega)).symm.trans ek')
    by_cases e : k = i
    · rw [← ek, e]
    by_cases e' : k' = i
    · rw [← ek', e']
    have a := h.2.2.2 i k' (by omega) (by omega) hk'
    have b := h'.2.2.2 i k (by omega) (by omega) hk
    rw [ek'] at a
    rw [ek, ← o, gm_swp] at b
    omega
theorem gm_run {S : Int32 → Prop} (hS : ∀ r, S r → gm_P r) {L L' : Nat → Int32} {m m' : Nat} (h : gm_ref S L m) (h' : gm_ref S L' m') : m = m' ∧ ∀ i, i < m → L i = L' i := by
  have key : ∀ {L L' : Nat → Int32} {m m' : Nat}, gm_ref S L m → gm_ref S L' m' → m ≤ m' := by
    intro L L' m m' h h'
    apply Classical.byContradiction
    intro hn
    obtain ⟨k, hk, ek⟩ := (h'.1 _).mp ((h.1 _).mpr ⟨m', by omega, rfl⟩)
    exact gm_rinj h (i := k) (j := m') hk (by omega) ((gm_run1 hS h h' k (by omega) hk).trans ek)
  have a := key h h'
  have b := key h' h
  exact ⟨by omega, fun i hi => gm_run1 hS h h' i hi (by omega)⟩
end
section
/-- as many holes as pigeons -/
theorem ph_pig : ∀ (N m : Nat) (f : Nat → Nat), (∀ a, a < m → f a < N) → (∀ a b, a < b → b < m → f a ≠ f b) → m ≤ N := by
  intro N
  induction N with
  | zero =>
    intro m f h _
    cases m with
    | zero => exact Nat.le_refl 0
    | succ m => exact absurd (h 0 (by omega)) (by omega)
  | succ N ih =>
    intro m f h hi
    by_cases hx : ∃ a, a < m ∧ f a = N
    · obtain ⟨a, ha, ea⟩ := hx
      have := ih (m - 1) (fun x => if x < a then f x else f (x + 1)) (fun x hx => by
        by_cases c : x < a
        · have h1 := h x (by omega)
          have h2 := hi x a c ha
          simp only [c, if_true]
          omega
        · have h1 := h (x + 1) (by omega)
          have h2 := hi a (x + 1) (by omega) (by omega)
          simp only [c, if_false]
          omega) (fun x y hxy hy => by
        by_cases c : x < a
        · by_cases d : y < a
          · simp only [c, d, if_true]
            exact hi x y hxy (by omega)
          · simp only [c, d, if_true, if_false]
            exact hi x (y + 1) (by omega) (by omega)
        · have d : ¬ y < a := by omega
          simp only [c, d, if_false]
          exact hi (x + 1) (y + 1) (by omega) (by omega))
      omega
    · have := ih m f (fun a ha => by
        have h1 := h a ha
        have h2 : f a ≠ N := fun e => hx ⟨a, ha, e⟩
        omega) hi
      omega
section
variable {K e : Int} {o w x y z : Int32}
theorem ch_1 (h1 : gm_tr w x z ≤ 0) (h2 : gm_tr x y z ≤ 0) (b1 : 0 < gm_B K e o x z) (b2 : 0 < gm_B K e o y z) (b3 : 0 < gm_B K e o w z) : gm_tr w y z ≤ 0 := by
  have i := gm_cz K e o w x y z
  have m1 := Int.mul_nonneg (a := -gm_tr w x z) (b := gm_B K e o y z) (by omega) (by omega)
  have m2 := Int.mul_nonneg (a := -gm_tr x y z) (b := gm_B K e o w z) (by omega) (by omega)
  rw [Int.neg_mul] at m1 m2
  exact gm_np b1 (by omega)
theorem ch_2 (h1 : gm_tr w x y ≤ 0) (h2 : gm_tr w y z ≤ 0) (b1 : 0 < gm_B K e o w y) (b2 : 0 < gm_B K e o w z) (b3 : 0 < gm_B K e o w x) : gm_tr w x z ≤ 0 := by
  have i := gm_cw K e o w x y z
  have m1 := Int.mul_nonneg (a := -gm_tr w x y) (b := gm_B K e o w z) (by omega) (by omega)
  have m2 := Int.mul_nonneg (a := -gm_tr w y z) (b := gm_B K e o w x) (by omega) (by omega)
  rw [Int.neg_mul] at m1 m2
  exact gm_np b1 (by omega)
theorem ch_3 (h1 : 0 ≤ gm_tr w x y) (h2 : 0 < gm_tr x y z) (b1 : 0 < gm_B K e o x y) (b2 : 0 < gm_B K e o y z) (b3 : 0 < gm_B K e o w y) : 0 < gm_tr w y z := by
  have i := gm_cy K e o w x y z
  have m1 := Int.mul_nonneg h1 (Int.le_of_lt b2)
  have m2 := Int.mul_pos h2 b3
  exact gm_pp b1 (by omega)
theorem ch_4 (h1 : gm_tr w x y ≤ 0) (h2 : 0 < gm_tr w y z) (b1 : 0 < gm_B K e o x y) (b2 : 0 < gm_B K e o y z) (b3 : 0 < gm_B K e o w y) : 0 < gm_tr x y z := by
  have i := gm_cy K e o w x y z
  have m1 := Int.mul_nonneg (a := -gm_tr w x y) (b := gm_B K e o y z) (by omega) (by omega)
  have m2 := Int.mul_pos h2 b1
  rw [Int.neg_mul] at m1
  exact gm_pp b3 (by omega)
theorem ch_5 (h1 : 0 < gm_tr w x y) (h2 : 0 < gm_tr x y z) (b1 : 0 < gm_B K e o x y) (b2 : 0 < gm_B K e o x z) (b3 : 0 < gm_B K e o w x) : 0 < gm_tr w x z := by
  have i := gm_cx K e o w x y z
  have m1 := Int.mul_pos h1 b2
  have m2 := Int.mul_pos h2 b3
  exact gm_pp b1 (by omega)
end
/-- g lists points in an order -/
def ch_o (K e : Int) (o : Int32) (g : Nat → Int32) (N : Nat) : Prop := ∀ i j, i < j → j < N → 0 < gm_B K e o (g i) (g j)
/-- the chain over the first i points: n of them are kept, those at ix -/
def ch_I (g : Nat → Int32) (i n : Nat) (ix : Nat → Nat) : Prop :=
  0 < n ∧ n ≤ i ∧ ix 0 = 0 ∧ ix (n - 1) = i - 1 ∧ (∀ a b, a < b → b < n → ix a < ix b) ∧
  ∀ j, j + 1 < n → ∀ r, r < i → (r < ix j → 0 < gm_tr (g (ix j)) (g (ix (j + 1))) (g r)) ∧ (ix (j + 1) < r → 0 < gm_tr (g (ix j)) (g (ix (j + 1))) (g r)) ∧ 0 ≤ gm_tr (g (ix j)) (g (ix (j + 1))) (g r)
def ch_p (g : Nat → Int32) (i k : Nat) (ix : Nat → Nat) : Prop := ∀ r, r < i → ix (k - 1) < r → 0 ≤ gm_tr (g (ix (k - 1))) (g i) (g r)
theorem ch_lt {g : Nat → Int32} {i n : Nat} {ix : Nat → Nat} (h : ch_I g i n ix) {j : Nat} (hj : j < n) : ix j < i := by
  obtain ⟨h0, hn, _, h2, h3, _⟩ := h
  by_cases e : j = n - 1
  · rw [e, h2]; omega
  · have := h3 j (n - 1) (by omega) (by omega)
    omega
theorem ch_pop {K e : Int} {o : Int32} {g : Nat → Int32} {N i n k : Nat} {ix : Nat → Nat} (ho : ch_o K e o g N) (hi : i < N) (h : ch_I g i n ix) (hk : k + 2 ≤ n) (hp : ch_p g i (k + 2) ix)
    (ht : gm_tr (g (ix k)) (g (ix (k + 1))) (g i) ≤ 0) : ch_p g i (k + 1) ix := by
  have l1 := ch_lt h (j := k + 1) (by omega)
  have l0 : ix k < ix (k + 1) := h.2.2.2.2.1 k (k + 1) (by omega) (by omega)
  intro r hr hx
  have hx : ix k < r := hx
  show 0 ≤ gm_tr (g (ix k)) (g i) (g r)
  rw [gm_swp]
  rcases Nat.lt_trichotomy r (ix (k + 1)) with c | c | c
  · have a := (h.2.2.2.2.2 k (by omega) r hr).2.2
    rw [gm_swp] at a
    have := ch_2 (K := K) (e := e) (o := o) (w := g (ix k)) (x := g r) (y := g (ix (k + 1))) (z := g i) (by omega) ht (ho _ _ l0 (by omega)) (ho _ _ (by omega) hi) (ho _ _ hx (by omega))
    omega
  · rw [c]; omega
  · have a : 0 ≤ gm_tr (g (ix (k + 1))) (g i) (g r) := hp r hr c
    rw [gm_swp] at a
    have := ch_1 (K := K) (e := e) (o := o) (w := g (ix k)) (x := g (ix (k + 1))) (y := g r) (z := g i) ht (by omega) (ho _ _ l1 hi) (ho _ _ hr hi) (ho _ _ (by omega) hi)
    omega
theorem ch_old {K e : Int} {o : Int32} {g : Nat → Int32} {N i n k : Nat} {ix : Nat → Nat} (ho : ch_o K e o g N) (hi : i < N) (h : ch_I g i n ix) (hk : k + 2 ≤ n)
    (ht : 0 < gm_tr (g (ix k)) (g (ix (k + 1))) (g i)) : ∀ d j, j + d = k → 0 < gm_tr (g (ix j)) (g (ix (j + 1))) (g i) := by
  intro d
  induction d with
  | zero => intro j hj; rw [show j = k by omega]; exact ht
  | succ d ih =>
    intro j hj
    have l0 : ix j < ix (j + 1) := h.2.2.2.2.1 j (j + 1) (by omega) (by omega)
    have l1 : ix (j + 1) < ix (j + 2) := h.2.2.2.2.1 (j + 1) (j + 2) (by omega) (by omega)
    have l2 := ch_lt h (j := j + 2) (by omega)
    have a := (h.2.2.2.2.2 j (by omega) (ix (j + 2)) l2).2.1 l1
    exact ch_5 (K := K) (e := e) (o := o) (y := g (ix (j + 2))) a (ih (j + 1) (by omega)) (ho _ _ l1 (by omega)) (ho _ _ (by omega) hi) (ho _ _ l0 (by omega))
theorem ch_psh {K e : Int} {o : Int32} {g : Nat → Int32} {N i n k : Nat} {ix : Nat → Nat} (ho : ch_o K e o g N) (hi : i < N) (h : ch_I g i n ix) (h0 : 0 < k) (hk : k ≤ n) (hp : ch_p g i k ix)
    (ht : ∀ k', k = k' + 2 → 0 < gm_tr (g (ix k')) (g (ix (k' + 1))) (g i)) : ch_I g (i + 1) (k + 1) (fun j => if j = k then i else ix j) := by
  have ht' : ∀ j, j + 1 < k → 0 < gm_tr (g (ix j)) (g (ix (j + 1))) (g i) := by
    intro j hj
    obtain ⟨k', rfl⟩ : ∃ k', k = k' + 2 := ⟨k - 2, by omega⟩
    exact ch_old ho hi h hk (ht k' rfl) (k' - j) j (by omega)
  have hN := fun j (hj : j < n) => ch_lt h hj
  obtain ⟨n0, hn, i0, i1, hm, hI⟩ := h
  refine ⟨by omega, by omega, ?_, ?_, ?_, ?_⟩
  · show (if 0 = k then i else ix 0) = 0
    rw [if_neg (by omega), i0]
  · show (if k + 1 - 1 = k then i else ix (k + 1 - 1)) = i + 1 - 1
    rw [if_pos (by omega)]; rfl
  · intro a b hab hb
    show (if a = k then i else ix a) < (if b = k then i else ix b)
    rw [if_neg (by omega)]
    by_cases eb : b = k
    · rw [if_pos eb]; exact hN a (by omega)
    · rw [if_neg eb]; exact hm a b hab (by omega)
  · intro j hj r hr
    show (r < (if j = k then i else ix j) → 0 < gm_tr (g (if j = k then i else ix j)) (g (if j + 1 = k then i else ix (j + 1))) (g r)) ∧ ((if j + 1 = k then i else ix (j + 1)) < r → 0 < gm_tr (g (if j = k then i else ix j)) (g (if j + 1 = k then i else ix (j + 1))) (g r)) ∧ 0 ≤ gm_tr (g (if j = k then i else ix j)) (g (if j + 1 = k then i else ix (j + 1))) (g r)
    rw [if_neg (show ¬ j = k by omega)]
    by_cases ej : j + 1 = k
    · rw [if_pos ej]
      have hb : r < ix j → 0 < gm_tr (g (ix j)) (g i) (g r) := by
        intro hx
        have lj := hN j (by omega)
        cases j with
        | zero => omega
        | succ j =>
          have ht1 := ht' j (by omega)
          have l0 : ix j < ix (j + 1) := hm j (j + 1) (by omega) (by omega)
          rw [gm_rot (g r)]
          rcases Nat.lt_trichotomy r (ix j) with c | c | c
          · have a := (hI j (by omega) r (by omega)).1 c
            rw [gm_rot (g r)] at a
            exact ch_3 (K := K) (e := e) (o := o) (x := g (ix j)) (by omega) ht1 (ho _ _ l0 (by omega)) (ho _ _ lj hi) (ho _ _ hx (by omega))
          · rw [c]; exact ht1
          · have a := (hI j (by omega) r (by omega)).2.2
            rw [gm_swp] at a
            exact ch_4 (K := K) (e := e) (o := o) (w := g (ix j)) (by omega) ht1 (ho _ _ hx (by omega)) (ho _ _ lj hi) (ho _ _ l0 (by omega))
      refine ⟨hb, fun hx => by omega, ?_⟩
      rcases Nat.lt_trichotomy r (ix j) with c | c | c
      · exact Int.le_of_lt (hb c)
      · rw [c, gm_prp]; exact Int.le_refl 0
      · by_cases er : r = i
        · rw [er, gm_prr]; exact Int.le_refl 0
        · have := hp r (by omega)
          rw [show k - 1 = j by omega] at this
          exact this c
    · rw [if_neg ej]
      by_cases er : r = i
      · have a := ht' j (by omega)
        have := hN j (by omega)
        have := hN (j + 1) (by omega)
        rw [er]
        exact ⟨fun _ => a, fun _ => a, Int.le_of_lt a⟩
      · exact hI j (by omega) r (by omega)
theorem ch_one (g : Nat → Int32) : ch_I g 1 1 (fun _ => 0) := ⟨by omega, by omega, rfl, rfl, fun a b h1 h2 => by omega, fun j hj => by omega⟩
/-- the last one is seen on the left past each kept one -/
theorem ch_last {K e : Int} {o : Int32} {g : Nat → Int32} {N i n : Nat} {ix : Nat → Nat} (ho : ch_o K e o g N) (hi : i ≤ N) (h : ch_I g i n ix) {j r : Nat} (hj : j + 1 < n) (hr : r < ix j) : 0 < gm_tr (g r) (g (ix j)) (g (i - 1)) := by
  have l1 := ch_lt h (j := j) (by omega)
  have l2 := ch_lt h (j := j + 1) (by omega)
  have l3 : ix j < ix (j + 1) := h.2.2.2.2.1 j (j + 1) (by omega) (by omega)
  have a := (h.2.2.2.2.2 j hj r (by omega)).1 hr
  rw [gm_rot (g r)] at a
  by_cases c : ix (j + 1) = i - 1
  · rw [c] at a; exact a
  · have b := (h.2.2.2.2.2 j hj (i - 1) (by omega)).2.1 (by omega)
    exact ch_5 (K := K) (e := e) (o := o) a b (ho _ _ l3 (by omega)) (ho _ _ (by omega) (by omega)) (ho _ _ hr (by omega))
theorem ch_Bseg (K e : Int) (o a b r : Int32) (h : gm_tr a b r = 0) : gm_dt r a b * (gm_B K e o a b * gm_B K e o a b) = - (gm_B K e o a r * gm_B K e o r b * gm_sq a b) := by
  have e1 : gm_B K e o a r * (gm_x b - gm_x a) = gm_B K e o a b * (gm_x r - gm_x a) := by unfold gm_tr at h; unfold gm_B gm_tr gm_la; grind
  have e2 : gm_B K e o a r * (gm_y b - gm_y a) = gm_B K e o a b * (gm_y r - gm_y a) := by unfold gm_tr at h; unfold gm_B gm_tr gm_la; grind
  have e3 : gm_B K e o r b * (gm_x b - gm_x a) = gm_B K e o a b * (gm_x b - gm_x r) := by unfold gm_tr at h; unfold gm_B gm_tr gm_la; grind
  have e4 : gm_B K e o r b * (gm_y b - gm_y a) = gm_B K e o a b * (gm_y b - gm_y r) := by unfold gm_tr at h; unfold gm_B gm_tr gm_la; grind
  unfold gm_dt gm_sq
  generalize gm_B K e o a r = A at *
  generalize gm_B K e o r b = C at *
  generalize gm_B K e o a b = D at *
  generalize gm_x a = ax at *
  generalize gm_x b = bx at *
  generalize gm_x r = rx at *
  generalize gm_y a = ay at *
  generalize gm_y b = bbY at *
  generalize gm_y r = ry at *
  clear h
  grind
/-- a side of the chain is the next one's of all its points -/
theorem ch_N {K e : Int} {o : Int32} {g : Nat → Int32} {N i n : Nat} {ix : Nat → Nat} (ho : ch_o K e o g N) (hi : i ≤ N) (h : ch_I g i n ix) {j r : Nat} (hj : j + 1 < n) (hr : r < i) : gm_N (g (ix j)) (g (ix (j + 1))) (g r) := by
  have l2 := ch_lt h (j := j + 1) (by omega)
  have l3 : ix j < ix (j + 1) := h.2.2.2.2.1 j (j + 1) (by omega) (by omega)
  obtain ⟨a, b, c⟩ := h.2.2.2.2.2 j hj r hr
  refine ⟨c, fun z => ?_⟩
  by_cases c1 : r < ix j
  · have := a c1; omega
  by_cases c2 : ix (j + 1) < r
  · have := b c2; omega
  have e0 := ch_Bseg K e o _ _ _ z
  have b0 := ho _ _ l3 (by omega)
  have b1 : ∀ u v, u ≤ v → v < N → 0 ≤ gm_B K e o (g u) (g v) := by
    intro u v huv hv
    by_cases euv : u = v
    · rw [euv]; unfold gm_B; rw [gm_prr, Int.sub_self, Int.mul_zero, Int.mul_zero]; exact Int.le_refl 0
    · exact Int.le_of_lt (ho u v (by omega) hv)
  have sq : 0 ≤ gm_sq (g (ix j)) (g (ix (j + 1))) := by
    rcases Int.lt_or_le (gm_sq (g (ix j)) (g (ix (j + 1)))) 0 with q | q
    · have := gm_sqz (a := gm_x (g (ix j)) - gm_x (g (ix (j + 1)))) (b := gm_y (g (ix j)) - gm_y (g (ix (j + 1)))) (by unfold gm_sq at q; omega)
      unfold gm_sq at q
      rw [this.1, this.2] at q
      omega
    · exact q
  have m := Int.mul_nonneg (Int.mul_nonneg (b1 (ix j) r (by omega) (by omega)) (b1 r (ix (j + 1)) (by omega) (by omega))) sq
  exact gm_np (Int.mul_pos b0 b0) (by omega)
end
section
theorem i3_t {i : Int} (h1 : -2147483648 ≤ i) (h2 : i < 2147483648) : (Int32.ofInt i).toInt = i := Int32.toInt_ofInt_of_le h1 h2
theorem i3_le {i j : Int} (h1 : -100000000 ≤ i ∧ i ≤ 100000000) (h2 : -100000000 ≤ j ∧ j ≤ 100000000) : Int32.ofInt i ≤ Int32.ofInt j ↔ i ≤ j := by
  rw [Int32.le_iff_toInt_le, i3_t (by omega) (by omega), i3_t (by omega) (by omega)]
theorem i3_lt {i j : Int} (h1 : -100000000 ≤ i ∧ i ≤ 100000000) (h2 : -100000000 ≤ j ∧ j ≤ 100000000) : Int32.ofInt i < Int32.ofInt j ↔ i < j := by
  rw [Int32.lt_iff_toInt_lt, i3_t (by omega) (by omega), i3_t (by omega) (by omega)]
theorem i3_eq {i j : Int} (h1 : -100000000 ≤ i ∧ i ≤ 100000000) (h2 : -100000000 ≤ j ∧ j ≤ 100000000) : Int32.ofInt i = Int32.ofInt j ↔ i = j := by
  rw [← Int32.toInt_inj, i3_t (by omega) (by omega), i3_t (by omega) (by omega)]
theorem i3_0 : Int32.ofInt 0 = 0 := rfl
theorem i3_lt0 {i : Int} (h : -100000000 ≤ i ∧ i ≤ 100000000) : Int32.ofInt i < 0 ↔ i < 0 := by rw [← i3_0]; exact i3_lt h (by omega)
theorem i3_gt0 {i : Int} (h : -100000000 ≤ i ∧ i ≤ 100000000) : 0 < Int32.ofInt i ↔ 0 < i := by rw [← i3_0]; exact i3_lt (by omega) h
theorem i3_le0 {i : Int} (h : -100000000 ≤ i ∧ i ≤ 100000000) : Int32.ofInt i ≤ 0 ↔ i ≤ 0 := by rw [← i3_0]; exact i3_le h (by omega)
theorem i3_ge0 {i : Int} (h : -100000000 ≤ i ∧ i ≤ 100000000) : 0 ≤ Int32.ofInt i ↔ 0 ≤ i := by rw [← i3_0]; exact i3_le (by omega) h
theorem i3_eq0 {i : Int} (h : -100000000 ≤ i ∧ i ≤ 100000000) : Int32.ofInt i = 0 ↔ i = 0 := by rw [← i3_0]; exact i3_eq h (by omega)
theorem wx_tr (a b c : Int32) : ((b &&& 63) - (a &&& 63)) * ((c >>> ((6 : Int32) &&& 31)) - (a >>> ((6 : Int32) &&& 31))) - ((b >>> ((6 : Int32) &&& 31)) - (a >>> ((6 : Int32) &&& 31))) * ((c &&& 63) - (a &&& 63)) = Int32.ofInt (gm_tr a b c) := by
  unfold gm_tr gm_x gm_y
  simp only [Int32.ofInt_sub, Int32.ofInt_mul, Int32.ofInt_toInt]
theorem wx_turn {post : Int32 → Prop} {a b c : Int32} (h : post (Int32.ofInt (gm_tr a b c))) : wpX_turn post a b c := by
  rw [← wx_tr] at h
  exact nm_e (nm_e (nm_e (nm_e h)))
theorem wx_sqE (a b : Int32) : ((a &&& 63) - (b &&& 63)) * ((a &&& 63) - (b &&& 63)) + ((a >>> ((6 : Int32) &&& 31)) - (b >>> ((6 : Int32) &&& 31))) * ((a >>> ((6 : Int32) &&& 31)) - (b >>> ((6 : Int32) &&& 31))) = Int32.ofInt (gm_sq a b) := by
  unfold gm_sq gm_x gm_y
  simp only [Int32.ofInt_sub, Int32.ofInt_mul, Int32.ofInt_add, Int32.ofInt_toInt]
theorem wx_square {post : Int32 → Prop} {a b : Int32} (h : post (Int32.ofInt (gm_sq a b))) : wpX_squareOf post a b := by
  rw [← wx_sqE] at h
  exact nm_e (nm_e h)
theorem wx_dtE (r a b : Int32) : ((a &&& 63) - (r &&& 63)) * ((b &&& 63) - (r &&& 63)) + ((a >>> ((6 : Int32) &&& 31)) - (r >>> ((6 : Int32) &&& 31))) * ((b >>> ((6 : Int32) &&& 31)) - (r >>> ((6 : Int32) &&& 31))) = Int32.ofInt (gm_dt r a b) := by
  unfold gm_dt gm_x gm_y
  simp only [Int32.ofInt_sub, Int32.ofInt_mul, Int32.ofInt_add, Int32.ofInt_toInt]
theorem wx_between {post : Int32 → Prop} {a b r : Int32} (ha : gm_P a) (hb : gm_P b) (hr : gm_P r) (h1 : gm_dt r a b ≤ 0 → post 1) (h0 : 0 < gm_dt r a b → post 0) : wpX_between post a b r := by
  unfold wpX_between
  refine nm_e (nm_e (nm_e (nm_e ?_)))
  rw [wx_dtE]
  have B := gm_dtB hr ha hb
  have e := i3_gt0 (i := gm_dt r a b) (by omega)
  exact ⟨fun h => h0 (e.mp h), fun h => h1 (by have := mt e.mpr h; omega)⟩
theorem wx_before {post : Int32 → Prop} {a b : Int32} (ha : gm_P a) (hb : gm_P b) (h1 : gm_la a < gm_la b → post 1) (h0 : gm_la b ≤ gm_la a → post 0) : wpX_before post a b := by
  unfold wpX_before
  refine nm_e (nm_e ?_)
  have ca := gm_co ha
  have cb := gm_co hb
  have e1 : (a &&& 63 < b &&& 63) ↔ gm_x a < gm_x b := Int32.lt_iff_toInt_lt
  have e2 : (a &&& 63 = b &&& 63) ↔ gm_x a = gm_x b := Int32.toInt_inj.symm
  have e3 : (b ≤ a) ↔ b.toInt ≤ a.toInt := Int32.le_iff_toInt_le
  unfold gm_la at h1 h0
  refine ⟨fun h => h1 ?_, fun h => ⟨fun h' => ⟨fun h2 => h0 ?_, fun h2 => h1 ?_⟩, fun h' => h0 ?_⟩⟩
  · rw [e1] at h; omega
  · rw [e2] at h'; rw [e3] at h2; omega
  · rw [e2] at h'; rw [e3] at h2; omega
  · rw [e1] at h; rw [e2] at h'; omega
/-- the division's forms, for places -/
theorem wy_div {p : Int32} (h : gm_P p) : p / 64 = p >>> ((6 : Int32) &&& 31) := by
  obtain ⟨j, hj, rfl⟩ := gm_Pn h
  rw [gm_shr hj]
  exact pk_div (d := 64) (by omega) (by omega) (by omega)
theorem wy_rem {p : Int32} (h : gm_P p) : p - p / 64 * 64 = p &&& 63 := by
  obtain ⟨j, hj, rfl⟩ := gm_Pn h
  rw [gm_and hj]
  exact pk_rem (d := 64) (by omega) (by omega) (by omega)
theorem wy_64 : ¬ (64 : Int32) = 0 := by decide
theorem wy_24 : ¬ (24 : Int32) = 0 := by decide
theorem wy_turn {post : Int32 → Prop} {u : SY} {a b c : Int32} (ha : gm_P a) (hb : gm_P b) (hc : gm_P c) (h : post (Int32.ofInt (gm_tr a b c))) : wpY_turn post u a b c := by
  obtain ⟨fm, sp, lf, li⟩ := u
  unfold wpY_turn
  dsimp only
  rw [wy_rem ha, wy_rem hb, wy_rem hc, wy_div ha, wy_div hb, wy_div hc, wx_tr]
  exact ⟨wy_64, wy_64, wy_64, wy_64, wy_64, wy_64, wy_64, wy_64, h⟩
theorem wy_square {post : Int32 → Prop} {u : SY} {a b : Int32} (ha : gm_P a) (hb : gm_P b) (h : post (Int32.ofInt (gm_sq a b))) : wpY_square post u a b := by
  obtain ⟨fm, sp, lf, li⟩ := u
  unfold wpY_square
  dsimp only
  rw [wy_rem ha, wy_rem hb, wy_div ha, wy_div hb]
  rw [← wx_sqE] at h
  exact ⟨wy_64, wy_64, nm_e ⟨wy_64, wy_64, nm_e h⟩⟩
theorem wy_behind {post : Int32 → Prop} {u : SY} {p q r : Int32} (hp : gm_P p) (hq : gm_P q) (hr : gm_P r) (h0 : 0 ≤ gm_dt p q r → post 0) (h1 : gm_dt p q r < 0 → post 1) : wpY_behind post u p q r := by
  obtain ⟨fm, sp, lf, li⟩ := u
  unfold wpY_behind
  dsimp only
  rw [wy_rem hp, wy_rem hq, wy_rem hr, wy_div hp, wy_div hq, wy_div hr, wx_dtE]
  have B := gm_dtB hp hq hr
  have e := i3_ge0 (i := gm_dt p q r) (by omega)
  exact ⟨wy_64, wy_64, wy_64, wy_64, wy_64, wy_64, wy_64, wy_64, fun h => h0 (e.mp h), fun h => h1 (by have := mt e.mpr h; omega)⟩
theorem wx_isPlace {post : Int32 → Prop} {p : Int32} (h1 : gm_P p → post 1) (h0 : ¬ gm_P p → post 0) : wpX_isPlace post p := by
  have e : (4096 : Int32) ≤ p ↔ 4096 ≤ p.toInt := Int32.le_iff_toInt_le
  have e0 : p < 0 ↔ p.toInt < 0 := Int32.lt_iff_toInt_lt
  unfold gm_P at h1 h0
  refine ⟨fun h => h0 ?_, fun h => ⟨fun h' => h0 ?_, fun h' => h1 ?_⟩⟩
  · rw [e0] at h; omega
  · rw [e] at h'; omega
  · rw [e0] at h; rw [e] at h'; omega
theorem wy_isPlace {post : Int32 → Prop} {u : SY} {p : Int32} (h1 : gm_P p → post 1) (h0 : ¬ gm_P p → post 0) : wpY_isPlace post u p := by
  obtain ⟨fm, sp, lf, li⟩ := u
  have e : (4095 : Int32) < p ↔ 4095 < p.toInt := Int32.lt_iff_toInt_lt
  have e0 : p < 0 ↔ p.toInt < 0 := Int32.lt_iff_toInt_lt
  unfold gm_P at h1 h0
  refine ⟨fun h => h0 ?_, fun h => ⟨fun h' => h0 ?_, fun h' => h1 ?_⟩⟩
  · rw [e0] at h; omega
  · rw [e] at h'; omega
  · rw [e0] at h; rw [e] at h'; omega
def en_E (p : Int32) : Prop := 0 ≤ p.toInt ∧ p.toInt < 6
theorem wx_isEngine {post : Int32 → Prop} {p : Int32} (h1 : en_E p → post 1) (h0 : ¬ en_E p → post 0) : wpX_isEngine post p := by
  have e : (6 : Int32) ≤ p ↔ 6 ≤ p.toInt := Int32.le_iff_toInt_le
  have e0 : p < 0 ↔ p.toInt < 0 := Int32.lt_iff_toInt_lt
  unfold en_E at h1 h0
  refine ⟨fun h => h0 ?_, fun h => ⟨fun h' => h0 ?_, fun h' => h1 ?_⟩⟩
  · rw [e0] at h; omega
  · rw [e] at h'; omega
  · rw [e0] at h; rw [e] at h'; omega
theorem wy_engine {post : Int32 → Prop} {u : SY} {p : Int32} (h1 : en_E p → post 1) (h0 : ¬ en_E p → post 0) : wpY_engine post u p := by
  obtain ⟨fm, sp, lf, li⟩ := u
  have e : (5 : Int32) < p ↔ 5 < p.toInt := Int32.lt_iff_toInt_lt
  have e0 : p < 0 ↔ p.toInt < 0 := Int32.lt_iff_toInt_lt
  unfold en_E at h1 h0
  refine ⟨fun h => h0 ?_, fun h => ⟨fun h' => h0 ?_, fun h' => h1 ?_⟩⟩
  · rw [e0] at h; omega
  · rw [e] at h'; omega
  · rw [e0] at h; rw [e] at h'; omega
/-- bits -/
theorem b_1 (i : Nat) : bt 1 i = decide (i = 0) := by
  rcases Nat.lt_or_ge i 32 with h | h
  · exact (by decide +kernel : ∀ i, i < 32 → bt 1 i = decide (i = 0)) i h
  · rw [b_big h, decide_eq_false (by omega)]
theorem b_one {n : Nat} (hn : n < 32) {i : Nat} (hi : i < 32) : bt ((1 : Int32) <<< (nI n &&& 31)) i = decide (i = n) := by
  rw [b_shl n hn 1 hi, b_1]
  rcases Nat.lt_trichotomy i n with h | h | h
  · rw [decide_eq_false (show ¬ n ≤ i by omega), Bool.false_and, decide_eq_false (show ¬ i = n by omega)]
  · rw [h, Nat.sub_self, decide_eq_true (Nat.le_refl n)]; simp
  · rw [decide_eq_false (show ¬ i - n = 0 by omega), Bool.and_false, decide_eq_false (show ¬ i = n by omega)]
theorem b_has {n : Nat} (hn : n < 31) (x : Int32) : ((x >>> (nI n &&& 31)) &&& 1) = 1 ↔ bt x n = true := by
  constructor
  · intro h
    have := congrArg (fun z => bt z 0) h
    simp only [b_and, b_1] at this
    rw [b_sshr n (by omega) x (by omega), if_pos (by omega)] at this
    simpa using this
  · intro h
    apply b_ext
    intro i hi
    rw [b_and, b_1]
    by_cases e : i = 0
    · rw [e, b_sshr n (by omega) x (by omega), if_pos (by omega), Nat.add_zero, h]; rfl
    · simp [e]
theorem wx_hasBit {post : Int32 → Prop} {x : Int32} {n : Nat} (hn : n < 31) (h1 : bt x n = true → post 1) (h0 : bt x n = false → post 0) : wpX_hasBit post x (nI n) := by
  refine ⟨fun h => h1 ((b_has hn x).mp h), fun h => h0 ?_⟩
  have := mt (b_has hn x).mpr h
  simpa using this
theorem wx_following {post : Int32 → Prop} {i n : Nat} (hi : i < 1000) (hn : n < 1000) (h : post (nI (if i + 1 < n then i + 1 else 0))) : wpX_following post (nI i) (nI n) := by
  unfold wpX_following
  rw [nI_1]
  refine pk_le n (i + 1) (fun c => ?_) (fun c => ?_)
  · rw [if_neg (by omega)] at h; exact h
  · rw [if_pos (by omega)] at h; exact h
end
section
/-- a list of n with p put at k -/
def ar_ins (a : Nat → Int32) (n k : Nat) (p : Int32) : Nat → Int32 := fun i => if i < k then a i else if i = k then p else if i ≤ n then a (i - 1) else a i
def ar_sh (a : Nat → Int32) (n i : Nat) : Nat → Int32 := fun j => if i < j ∧ j ≤ n then a (j - 1) else a j
theorem ar_sh0 (a : Nat → Int32) (n : Nat) : ar_sh a n n = a := by
  funext j
  unfold ar_sh
  rw [if_neg (by omega)]
theorem ar_shs (a : Nat → Int32) {n i : Nat} (h : i < n) : upd (ar_sh a n (i + 1)) (i + 1) (ar_sh a n (i + 1) i) = ar_sh a n i := by
  funext j
  unfold ar_sh upd; dsimp only
  by_cases e : j = i + 1
  · rw [if_pos e, if_neg (by omega), if_pos (by omega), e]; rfl
  · rw [if_neg e]
    by_cases c : i < j ∧ j ≤ n
    · rw [if_pos (by omega), if_pos c]
    · rw [if_neg (by omega), if_neg c]
theorem ar_she (a : Nat → Int32) {n k : Nat} (h : k ≤ n) (p : Int32) : upd (ar_sh a n k) k p = ar_ins a n k p := by
  funext j
  unfold ar_sh ar_ins upd; dsimp only
  rcases Nat.lt_trichotomy j k with c | c | c
  · rw [if_neg (by omega), if_neg (by omega), if_pos c]
  · rw [if_pos c, if_neg (by omega), if_pos c]
  · rw [if_neg (show ¬ j = k by omega), if_neg (show ¬ j < k by omega), if_neg (show ¬ j = k by omega)]
    by_cases d : j ≤ n
    · rw [if_pos ⟨c, d⟩, if_pos d]
    · rw [if_neg (by omega), if_neg d]
theorem wx_ins_spots {post : Int32 → SX → Prop} {fp fs : Int32} {a0 a1 a2 a3 : Nat → Int32} {n k : Nat} {p : Int32} (hk : k ≤ n) (hn : n < 24)
    (h : post (nI (n + 1)) (fp, fs, a0, ar_ins a1 n k p, a2, a3)) : wpX_insert__spots post (fp, fs, a0, a1, a2, a3) (nI n) (nI k) p := by
  have key : ∀ d, k + d ≤ n → wX_insert__spots_3 post (nI n) (nI k) p fp fs (d + 1) (nI (k + d)) a0 (ar_sh a1 n (k + d)) a2 a3 := by
    intro d
    induction d with
    | zero =>
      intro _
      refine br_t (nI_le (by omega) (by omega)) ⟨vp_in_nI (by omega) (by omega), nm_e ?_⟩
      rw [nI_clamp (by omega), Nat.add_zero, ar_she _ hk, nI_1]
      exact h
    | succ d ih =>
      intro hd
      refine br_f (nI_ge (by omega) (by omega)) ?_
      rw [show k + (d + 1) = (k + d) + 1 by omega, nI_pred]
      refine ⟨vp_in_nI (by omega) (by omega), vp_in_nI (by omega) (by omega), nm_e (nm_r (pk_m1 _) ?_)⟩
      rw [nI_clamp (by omega), nI_clamp (by omega), ar_shs _ (by omega)]
      exact ih (by omega)
  have h2 := key (n - k) (by omega)
  rw [show k + (n - k) = n by omega, ar_sh0] at h2
  exact ⟨_, h2⟩
theorem wx_ins_ring {post : Int32 → SX → Prop} {fp fs : Int32} {a0 a1 a2 a3 : Nat → Int32} {n k : Nat} {p : Int32} (hk : k ≤ n) (hn : n < 25)
    (h : post (nI (n + 1)) (fp, fs, a0, a1, ar_ins a2 n k p, a3)) : wpX_insert__ring post (fp, fs, a0, a1, a2, a3) (nI n) (nI k) p := by
  have key : ∀ d, k + d ≤ n → wX_insert__ring_3 post (nI n) (nI k) p fp fs (d + 1) (nI (k + d)) a0 a1 (ar_sh a2 n (k + d)) a3 := by
    intro d
    induction d with
    | zero =>
      intro _
      refine br_t (nI_le (by omega) (by omega)) ⟨vp_in_nI (by omega) (by omega), nm_e ?_⟩
      rw [nI_clamp (by omega), Nat.add_zero, ar_she _ hk, nI_1]
      exact h
    | succ d ih =>
      intro hd
      refine br_f (nI_ge (by omega) (by omega)) ?_
      rw [show k + (d + 1) = (k + d) + 1 by omega, nI_pred]
      refine ⟨vp_in_nI (by omega) (by omega), vp_in_nI (by omega) (by omega), nm_e (nm_r (pk_m1 _) ?_)⟩
      rw [nI_clamp (by omega), nI_clamp (by omega), ar_shs _ (by omega)]
      exact ih (by omega)
  have h2 := key (n - k) (by omega)
  rw [show k + (n - k) = n by omega, ar_sh0] at h2
  exact ⟨_, h2⟩
theorem wx_ins_otherRing {post : Int32 → SX → Prop} {fp fs : Int32} {a0 a1 a2 a3 : Nat → Int32} {n k : Nat} {p : Int32} (hk : k ≤ n) (hn : n < 25)
    (h : post (nI (n + 1)) (fp, fs, a0, a1, a2, ar_ins a3 n k p)) : wpX_insert__otherRing post (fp, fs, a0, a1, a2, a3) (nI n) (nI k) p := by
  have key : ∀ d, k + d ≤ n → wX_insert__otherRing_3 post (nI n) (nI k) p fp fs (d + 1) (nI (k + d)) a0 a1 a2 (ar_sh a3 n (k + d)) := by
    intro d
    induction d with
    | zero =>
      intro _
      refine br_t (nI_le (by omega) (by omega)) ⟨vp_in_nI (by omega) (by omega), nm_e ?_⟩
      rw [nI_clamp (by omega), Nat.add_zero, ar_she _ hk, nI_1]
      exact h
    | succ d ih =>
      intro hd
      refine br_f (nI_ge (by omega) (by omega)) ?_
      rw [show k + (d + 1) = (k + d) + 1 by omega, nI_pred]
      refine ⟨vp_in_nI (by omega) (by omega), vp_in_nI (by omega) (by omega), nm_e (nm_r (pk_m1 _) ?_)⟩
      rw [nI_clamp (by omega), nI_clamp (by omega), ar_shs _ (by omega)]
      exact ih (by omega)
  have h2 := key (n - k) (by omega)
  rw [show k + (n - k) = n by omega, ar_sh0] at h2
  exact ⟨_, h2⟩
/-- the spots: each place of S once, in order -/
def sp_I (S : Int32 → Prop) (a : Nat → Int32) (N : Nat) : Prop := (∀ i, i < N → gm_P (a i)) ∧ (∀ i j, i < j → j < N → gm_la (a i) < gm_la (a j)) ∧ (∀ r, S r ↔ ∃ i, i < N ∧ a i = r)
theorem sp_ins {S : Int32 → Prop} {a : Nat → Int32} {N k : Nat} {p : Int32} (h : sp_I S a N) (hp : gm_P p) (hk : k ≤ N) (h1 : ∀ i, i < k → gm_la (a i) < gm_la p) (h2 : ∀ i, k ≤ i → i < N → gm_la p < gm_la (a i)) :
    sp_I (fun r => S r ∨ r = p) (ar_ins a N k p) (N + 1) := by
  obtain ⟨hP, hl, hS⟩ := h
  have e1 : ∀ i, i < k → ar_ins a N k p i = a i := fun i hi => by unfold ar_ins; rw [if_pos hi]
  have e2 : ar_ins a N k p k = p := by unfold ar_ins; rw [if_neg (by omega), if_pos rfl]
  have e3 : ∀ i, k ≤ i → i < N → ar_ins a N k p (i + 1) = a i := fun i hi hN => by unfold ar_ins; rw [if_neg (by omega), if_neg (by omega), if_pos (by omega)]; rfl
  refine ⟨fun i hi => ?_, fun i j hij hj => ?_, fun r => ⟨fun hr => ?_, ?_⟩⟩
  · rcases Nat.lt_trichotomy i k with c | c | c
    · rw [e1 i c]; exact hP i (by omega)
    · rw [c, e2]; exact hp
    · obtain ⟨i, rfl⟩ : ∃ j, i = j + 1 := ⟨i - 1, by omega⟩
      rw [e3 i (by omega) (by omega)]; exact hP i (by omega)
  · rcases Nat.lt_trichotomy i k with c | c | c
    · rw [e1 i c]
      rcases Nat.lt_trichotomy j k with d | d | d
      · rw [e1 j d]; exact hl i j hij (by omega)
      · rw [d, e2]; exact h1 i c
      · obtain ⟨j, rfl⟩ : ∃ x, j = x + 1 := ⟨j - 1, by omega⟩
        rw [e3 j (by omega) (by omega)]; exact hl i j (by omega) (by omega)
    · obtain ⟨j, rfl⟩ : ∃ x, j = x + 1 := ⟨j - 1, by omega⟩
      rw [c, e2, e3 j (by omega) (by omega)]; exact h2 j (by omega) (by omega)
    · obtain ⟨j, rfl⟩ : ∃ x, j = x + 1 := ⟨j - 1, by omega⟩
      obtain ⟨i, rfl⟩ : ∃ x, i = x + 1 := ⟨i - 1, by omega⟩
      rw [e3 i (by omega) (by omega), e3 j (by omega) (by omega)]; exact hl i j (by omega) (by omega)
  · rcases hr with hr | hr
    · obtain ⟨i, hi, e⟩ := (hS r).mp hr
      by_cases c : i < k
      · exact ⟨i, by omega, (e1 i c).trans e⟩
      · exact ⟨i + 1, by omega, (e3 i (by omega) hi).trans e⟩
    · exact ⟨k, by omega, e2.trans hr.symm⟩
  · rintro ⟨i, hi, e⟩
    rcases Nat.lt_trichotomy i k with c | c | c
    · exact Or.inl ((hS r).mpr ⟨i, by omega, (e1 i c).symm.trans e⟩)
    · rw [c, e2] at e; exact Or.inr e.symm
    · obtain ⟨i, rfl⟩ : ∃ x, i = x + 1 := ⟨i - 1, by omega⟩
      exact Or.inl ((hS r).mpr ⟨i, by omega, (e3 i (by omega) (by omega)).symm.trans e⟩)
theorem sp_sub {S T : Int32 → Prop} {a : Nat → Int32} {N : Nat} (h : sp_I S a N) (e : ∀ r, S r ↔ T r) : sp_I T a N := ⟨h.1, h.2.1, fun r => (e r).symm.trans (h.2.2 r)⟩
/-- addSpot: from the spots of S to those of S and p -/
theorem wx_addSpot {post : SX → Prop} {fp : Int32} {a0 a1 a2 a3 : Nat → Int32} {S : Int32 → Prop} {N : Nat} {p : Int32} (hN : N < 24) (hI : sp_I S a1 N) (hp : gm_P p)
    (h : ∀ a N', N' ≤ N + 1 → sp_I (fun r => S r ∨ r = p) a N' → post (fp, nI N', a0, a, a2, a3)) : wpX_addSpot post (fp, nI N, a0, a1, a2, a3) p := by
  have hJ : ∀ k, k ≤ N → (∀ i, k ≤ i → i < N → gm_la p < gm_la (a1 i)) → (∀ i, i < k → gm_la (a1 i) ≤ gm_la p) → wX_addSpot_30 post p (nI k) fp (nI N) a0 a1 a2 a3 := by
    intro k hk h2 h1
    have ins : (∀ i, i < k → gm_la (a1 i) < gm_la p) → wX_addSpot_46 post p (nI k) fp (nI N) a0 a1 a2 a3 := by
      intro h1
      exact wx_ins_spots hk hN (h _ _ (Nat.le_refl _) (sp_ins hI hp hk h1 h2))
    refine pk_eq k 0 (fun c => ins (fun i hi => by omega)) (fun c => ?_) rfl rfl
    obtain ⟨k, rfl⟩ : ∃ x, k = x + 1 := ⟨k - 1, by omega⟩
    rw [nI_pred]
    refine ⟨vp_in_nI (by omega) (by omega), ?_⟩
    rw [nI_clamp (by omega)]
    refine ⟨fun e => h a1 N (by omega) (sp_sub hI fun r => ⟨Or.inl, fun hr => hr.elim id fun e' => (hI.2.2 r).mpr ⟨k, by omega, e.trans e'.symm⟩⟩), fun e => ins fun i hi => ?_⟩
    have l := h1 k (by omega)
    have l' : gm_la (a1 k) ≠ gm_la p := fun z => e (gm_laext (hI.1 k (by omega)) hp z)
    by_cases c : i = k
    · rw [c]; omega
    · have := hI.2.1 i k (by omega) (by omega)
      omega
  have key : ∀ k, k ≤ N → (∀ i, k ≤ i → i < N → gm_la p < gm_la (a1 i)) → wX_addSpot_5 post p fp (nI N) a0 a1 a2 a3 (k + 1) (nI k) := by
    intro k
    induction k with
    | zero => exact fun hk h2 => br_t (nI_le (a := 0) (b := 0) (Nat.le_refl 0) (by decide)) (hJ 0 hk h2 (fun i hi => by omega))
    | succ k ih =>
      intro hk h2
      refine br_f (nI_ge (b := k + 1) (a := 0) (by omega) (by omega)) ?_
      rw [nI_pred]
      refine ⟨vp_in_nI (by omega) (by omega), ?_⟩
      rw [nI_clamp (by omega)]
      refine wx_before hp (hI.1 k (by omega)) (fun l => ?_) (fun l => ?_)
      · refine br_f (by decide) (nm_r (pk_m1 k) (ih (by omega) fun i h1 h3 => ?_))
        by_cases c : i = k
        · rw [c]; exact l
        · exact h2 i (by omega) h3
      · refine br_t rfl (hJ (k + 1) hk h2 fun i hi => ?_)
        by_cases c : i = k
        · rw [c]; exact l
        · have := hI.2.1 i k (by omega) (by omega)
          omega
  exact ⟨_, key N (Nat.le_refl N) (fun i h1 h2 => by omega)⟩
/-- the places of the points whose bits are set in x -/
def pl_S (x : Int32) (a : Nat → Int32) (n : Nat) : Int32 → Prop := fun r => ∃ k, k < n ∧ bt x k = true ∧ a k = r
theorem wx_gather {post : SX → Prop} {fp fs x : Int32} {a0 a1 a2 a3 : Nat → Int32} (hP : ∀ k, k < 24 → gm_P (a0 k))
    (h : ∀ a N, N ≤ 24 → sp_I (pl_S x a0 24) a N → post (fp, nI N, a0, a, a2, a3)) : wpX_gather post (fp, fs, a0, a1, a2, a3) x := by
  have key : ∀ d k, k + d = 24 → ∀ a N, N ≤ k → sp_I (pl_S x a0 k) a N → wX_gather_7 post x (d + 1) (nI k) fp (nI N) a0 a a2 a3 := by
    intro d
    induction d with
    | zero =>
      intro k hk a N hN hI
      rw [show k = 24 by omega] at hI ⊢
      exact br_t (nI_le (a := 24) (by omega) (by omega)) (h a N (by omega) hI)
    | succ d ih =>
      intro k hk a N hN hI
      refine br_f (nI_ge (b := 24) (by omega) (by omega)) (wx_hasBit (by omega) (fun c => br_f (by decide) ⟨vp_in_nI (by omega) (by omega), ?_⟩) (fun c => br_t rfl (nm_r (nI_1 k) (ih (k + 1) (by omega) a N (by omega) ?_))))
      · rw [nI_clamp (by omega)]
        refine wx_addSpot (by omega) hI (hP k (by omega)) (fun a' N' hN' hI' => nm_r (nI_1 k) (ih (k + 1) (by omega) a' N' (by omega) (sp_sub hI' fun r => ?_)))
        constructor
        · rintro (⟨j, hj, hb, e⟩ | e)
          · exact ⟨j, by omega, hb, e⟩
          · exact ⟨k, by omega, c, e.symm⟩
        · rintro ⟨j, hj, hb, e⟩
          by_cases ej : j = k
          · rw [ej] at e; exact Or.inr e.symm
          · exact Or.inl ⟨j, by omega, hb, e⟩
      · refine sp_sub hI fun r => ⟨fun ⟨j, hj, hb, e⟩ => ⟨j, by omega, hb, e⟩, ?_⟩
        rintro ⟨j, hj, hb, e⟩
        by_cases ej : j = k
        · rw [ej, c] at hb; exact absurd hb (by decide)
        · exact ⟨j, by omega, hb, e⟩
  exact ⟨_, key 24 0 (by omega) a1 0 (by omega) ⟨fun i hi => by omega, fun i j _ hj => by omega, fun r => ⟨fun ⟨k, hk, _⟩ => by omega, fun ⟨k, hk, _⟩ => by omega⟩⟩⟩
end
section
theorem gm_dts (c u r : Int32) : gm_dt c r u = gm_dt c u r := by unfold gm_dt; grind
theorem gm_sqd {a b : Int} {c u r : Int32} (hu : 0 < gm_ph a b c u) (hr : 0 < gm_ph a b c r) (h : gm_tr c u r = 0) : gm_sq c r ≤ gm_sq c u ↔ gm_dt r c u ≤ 0 := by
  rw [gm_seg hu hr h]
  have e1 := gm_ph2 a b c u r h
  have e2 := gm_ph2 a b c r u (by rw [gm_swp]; omega)
  rw [gm_dts] at e2
  have s1 := gm_sqp hu
  have s2 := gm_sqp hr
  generalize gm_dt c u r = D at *
  generalize gm_ph a b c u = U at *
  generalize gm_ph a b c r = R at *
  generalize gm_sq c u = A at *
  generalize gm_sq c r = B at *
  constructor
  · intro l
    apply Classical.byContradiction
    intro hn
    have m1 := Int.mul_pos (a := R - U) (b := A) (by omega) s1
    have m2 := Int.mul_pos (a := R - U) (b := B) (by omega) s2
    rw [Int.sub_mul] at m1 m2
    have d1 : A < D := by
      apply Classical.byContradiction
      intro q
      have := Int.mul_nonneg (a := A - D) (b := U) (by omega) (by omega)
      rw [Int.sub_mul, Int.mul_comm A U] at this
      omega
    have d2 : D < B := by
      apply Classical.byContradiction
      intro q
      have := Int.mul_nonneg (a := D - B) (b := R) (by omega) (by omega)
      rw [Int.sub_mul, Int.mul_comm B R] at this
      omega
    omega
  · intro l
    have m1 := Int.mul_nonneg (a := U - R) (b := A) (by omega) (by omega)
    have m2 := Int.mul_nonneg (a := U - R) (b := B) (by omega) (by omega)
    rw [Int.sub_mul] at m1 m2
    have d1 : D ≤ A := by
      apply Classical.byContradiction
      intro q
      have := Int.mul_pos (a := D - A) (b := U) (by omega) (by omega)
      rw [Int.sub_mul, Int.mul_comm A U] at this
      omega
    have d2 : B ≤ D := by
      apply Classical.byContradiction
      intro q
      have := Int.mul_pos (a := B - D) (b := R) (by omega) (by omega)
      rw [Int.sub_mul, Int.mul_comm B R] at this
      omega
    omega
theorem gm_sqN {a b : Int} {c u r : Int32} (hc : gm_P c) (hPu : gm_P u) (hPr : gm_P r) (hu : u ≠ c → 0 < gm_ph a b c u) (hr : r ≠ c → 0 < gm_ph a b c r) (h : gm_tr c u r = 0) : gm_sq c r ≤ gm_sq c u ↔ gm_dt r c u ≤ 0 := by
  have z : gm_sq c c = 0 := by unfold gm_sq; grind
  by_cases er : r = c
  · have z2 : gm_dt c c u = 0 := by unfold gm_dt; grind
    have := (gm_sqB hc hPu).1
    rw [er, z, z2]
    omega
  by_cases eu : u = c
  · have z2 : gm_dt r c c = gm_sq c r := by unfold gm_dt gm_sq; grind
    rw [eu, z, z2]
  exact gm_sqd (hu eu) (hr er) h
theorem wx_rightmost {post : Int32 → Prop} {fp : Int32} {a0 a1 a2 a3 : Nat → Int32} {S : Int32 → Prop} {N : Nat} {c : Int32} (hN : N ≤ 24) (hI : sp_I S a1 N) (hc : gm_P c) (hE : gm_E S c)
    (h : ∀ q, (q = c ∨ S q) → (∀ r, S r → gm_Ns 1 c q r) → post q) : wpX_rightmostFrom post (fp, nI N, a0, a1, a2, a3) c := by
  obtain ⟨a, b, hE⟩ := hE
  have hS : ∀ i, i < N → S (a1 i) := fun i hi => (hI.2.2 _).mpr ⟨i, hi, rfl⟩
  have key : ∀ d i, i + d = N → ∀ q, (q = c ∨ ∃ j, j < i ∧ a1 j = q) → (∀ r, (∃ j, j < i ∧ a1 j = r) → gm_Ns 1 c q r) → wX_rightmostFrom_4 post c fp (nI N) a0 a1 a2 a3 (d + 1) q (nI i) := by
    intro d
    induction d with
    | zero =>
      intro i hi q hq hn
      refine br_t (nI_le (by omega) (by omega)) (h q ?_ fun r hr => ?_)
      · rcases hq with hq | ⟨j, hj, e⟩
        · exact Or.inl hq
        · exact Or.inr (e ▸ hS j (by omega))
      · obtain ⟨j, hj, e⟩ := (hI.2.2 r).mp hr
        exact hn r ⟨j, by omega, e⟩
    | succ d ih =>
      intro i hi q hq hn
      have hPr := hI.1 i (by omega)
      have hPq : gm_P q := by
        rcases hq with hq | ⟨j, hj, e⟩
        · rw [hq]; exact hc
        · rw [← e]; exact hI.1 j (by omega)
      have pq : q ≠ c → 0 < gm_ph a b c q := by
        intro hne
        rcases hq with hq | ⟨j, hj, e⟩
        · exact absurd hq hne
        · exact hE q (e ▸ hS j (by omega)) hne
      have pr : a1 i ≠ c → 0 < gm_ph a b c (a1 i) := hE _ (hS i (by omega))
      have vin : vp_in (nI i) 24 := vp_in_nI (by omega) (by omega)
      have keep : gm_Ns 1 c q (a1 i) → wX_rightmostFrom_4 post c fp (nI N) a0 a1 a2 a3 (d + 1) q (nI (i + 1)) := by
        intro hk
        refine ih (i + 1) (by omega) q ?_ fun r hr => ?_
        · rcases hq with hq | ⟨j, hj, e⟩
          · exact Or.inl hq
          · exact Or.inr ⟨j, by omega, e⟩
        · obtain ⟨j, hj, e⟩ := hr
          by_cases ej : j = i
          · rw [← e, ej]; exact hk
          · exact hn r ⟨j, by omega, e⟩
      have take : ¬ gm_Ns 1 c q (a1 i) → wX_rightmostFrom_4 post c fp (nI N) a0 a1 a2 a3 (d + 1) (a1 i) (nI (i + 1)) := by
        intro hk
        refine ih (i + 1) (by omega) (a1 i) (Or.inr ⟨i, by omega, rfl⟩) fun r hr => ?_
        refine gm_stp (S := fun r => ∃ j, j < i ∧ a1 j = r) (Or.inl rfl) (c := c) (w := a1 i) (u := q) ?_ hc ⟨a, b, fun r hr hne => hE r ?_ hne⟩ hq.symm hPq hn hk r ?_
        · rintro r ⟨j, hj, rfl⟩; exact hI.1 j (by omega)
        · rcases hr with ⟨j, hj, e⟩ | e
          · rw [← e]; exact hS j (by omega)
          · rw [e]; exact hS i (by omega)
        · obtain ⟨j, hj, e⟩ := hr
          by_cases ej : j = i
          · exact Or.inr (by rw [← e, ej])
          · exact Or.inl ⟨j, by omega, e⟩
      have B := gm_trB hc hPq hPr
      have B1 := gm_sqB hc hPr
      have B2 := gm_sqB hc hPq
      have e1 := i3_lt0 (i := gm_tr c q (a1 i)) (by omega)
      have e2 := i3_eq0 (i := gm_tr c q (a1 i)) (by omega)
      have e3 := i3_le (i := gm_sq c (a1 i)) (j := gm_sq c q) (by omega) (by omega)
      refine br_f (nI_ge (by omega) (by omega)) ⟨vin, ?_⟩
      rw [nI_clamp (by omega)]
      refine wx_turn ⟨fun hl => ⟨vin, nm_e (nm_r (nI_1 i) (take fun hk => ?_))⟩, fun hl => ⟨fun hz => ⟨vin, wx_square (wx_square ⟨fun hs => nm_r (nI_1 i) (keep ?_), fun hs => ⟨vin, nm_e (nm_r (nI_1 i) (take fun hk => ?_))⟩⟩)⟩, fun hz => nm_r (nI_1 i) (keep ?_)⟩⟩
      · have := e1.mp hl
        have := hk.1
        omega
      · have z := e2.mp hz
        exact ⟨by rw [z]; decide, fun _ => (gm_sqN hc hPq hPr pq pr z).mp (e3.mp hs)⟩
      · have z := e2.mp hz
        exact hs (e3.mpr ((gm_sqN hc hPq hPr pq pr z).mpr (hk.2 z)))
      · have n1 := mt e1.mpr hl
        have n2 := mt e2.mpr hz
        exact ⟨by omega, fun z => absurd z n2⟩
  exact ⟨_, key N 0 (by omega) c (Or.inl rfl) (fun r ⟨j, hj, _⟩ => by omega)⟩
/-- what the wrapping has found so far -/
def wr_P (S : Int32 → Prop) (o : Int32) (L : Nat → Int32) (n : Nat) : Prop := L 0 = o ∧ ∀ j, j < n → gm_nx S (L j) (L (j + 1)) ∧ L (j + 1) ≠ L 0
theorem wr_inj {S : Int32 → Prop} (hS : ∀ r, S r → gm_P r) {o : Int32} (ho : S o) {L : Nat → Int32} {n : Nat} (h : wr_P S o L n) : ∀ i j, i < j → j ≤ n → L i ≠ L j := by
  have hs : ∀ j, j ≤ n → S (L j) := by
    intro j hj
    cases j with
    | zero => rw [h.1]; exact ho
    | succ j => exact (h.2 j hj).1.1
  intro i
  induction i with
  | zero =>
    intro j h0 hj e
    obtain ⟨j, rfl⟩ : ∃ x, j = x + 1 := ⟨j - 1, by omega⟩
    exact (h.2 j (by omega)).2 e.symm
  | succ i ih =>
    intro j h0 hj e
    obtain ⟨j, rfl⟩ : ∃ x, j = x + 1 := ⟨j - 1, by omega⟩
    have a := (h.2 i (by omega)).1
    have b := (h.2 j (by omega)).1
    rw [e] at a
    exact ih j (by omega) (by omega) (gm_nxi hS (hs i (by omega)) (hs j (by omega)) a b)
theorem sp_pig {S : Int32 → Prop} {a : Nat → Int32} {N : Nat} (h : sp_I S a N) {L : Nat → Int32} {m : Nat} (hs : ∀ j, j < m → S (L j)) (hi : ∀ i j, i < j → j < m → L i ≠ L j) : m ≤ N := by
  have hf : ∀ j, ∃ i, j < m → (i < N ∧ a i = L j) := by
    intro j
    by_cases c : j < m
    · obtain ⟨i, hi⟩ := (h.2.2 _).mp (hs j c)
      exact ⟨i, fun _ => hi⟩
    · exact ⟨0, fun c' => absurd c' c⟩
  refine ph_pig N m (fun j => (hf j).choose) (fun j hj => ((hf j).choose_spec hj).1) (fun i j hij hj e => hi i j hij hj ?_)
  have e1 := ((hf i).choose_spec (by omega)).2
  have e2 := ((hf j).choose_spec hj).2
  have e : (hf i).choose = (hf j).choose := e
  rw [← e1, ← e2, e]
theorem sp_P {S : Int32 → Prop} {a : Nat → Int32} {N : Nat} (h : sp_I S a N) : ∀ r, S r → gm_P r := by
  intro r hr
  obtain ⟨i, hi, e⟩ := (h.2.2 r).mp hr
  rw [← e]; exact h.1 i hi
theorem sp_mn {S : Int32 → Prop} {a : Nat → Int32} {N : Nat} (h : sp_I S a N) (h0 : 0 < N) : gm_mn S (a 0) := by
  refine ⟨(h.2.2 _).mpr ⟨0, h0, rfl⟩, fun r hr hn => ?_⟩
  obtain ⟨i, hi, e⟩ := (h.2.2 r).mp hr
  have : i ≠ 0 := fun z => hn (by rw [← e, z])
  rw [← e]; exact h.2.1 0 i (by omega) hi
theorem wx_wrap_ring {post : Int32 → SX → Prop} {fp : Int32} {a0 a1 a2 a3 : Nat → Int32} {S : Int32 → Prop} {N : Nat} (hN : N ≤ 24) (h0 : 0 < N) (hI : sp_I S a1 N)
    (h : ∀ m L, m ≤ 24 → gm_cyc S L m → post (nI m) (fp, nI N, a0, a1, L, a3)) : wpX_wrap__ring post (fp, nI N, a0, a1, a2, a3) := by
  have hS := sp_P hI
  have ho := sp_mn hI h0
  have key : ∀ d n, n + d + 1 = N → ∀ L c, wr_P S (a1 0) (upd L n c) n → wX_wrap__ring_9 post fp (nI N) (d + 1) c (nI n) a0 a1 L a3 := by
    intro d
    induction d with
    | zero =>
      intro n hn L c hw
      have ec : upd L n c n = c := pk_us
      have hcS : S c := by
        cases n with
        | zero => rw [← ec, hw.1]; exact ho.1
        | succ n => rw [← ec]; exact (hw.2 n (by omega)).1.1
      have hcE : gm_E S c := by
        cases n with
        | zero => rw [← ec, hw.1]; exact gm_mnE ho
        | succ n =>
          have x := (hw.2 n (by omega)).1
          rw [ec] at x
          have y : S (upd L (n + 1) c n) := by
            cases n with
            | zero => rw [hw.1]; exact ho.1
            | succ n => exact (hw.2 n (by omega)).1.1
          exact gm_nxE hS (hS _ y) x
      refine ⟨vp_in_nI (by omega) (by omega), nm_e (nm_r (nI_1 n) (wx_rightmost hN hI (hS c hcS) hcE fun q hq hnx => ?_))⟩
      have hnx : gm_nx S c q := ⟨hq.elim (fun e => e ▸ hcS) id, fun r hr => gm_N1.mpr (hnx r hr)⟩
      rw [nI_clamp (by omega)]
      have fin : q = a1 0 → gm_cyc S (upd L n c) (n + 1) := by
        intro e
        refine ⟨by omega, hw.1 ▸ ho, fun i hi => hw.2 i (by omega), ?_⟩
        rw [show n + 1 - 1 = n by omega, ec, hw.1, ← e]; exact hnx
      refine ⟨fun e => h _ _ (by omega) (fin e), fun e => ?_⟩
      have hw2 : wr_P S (a1 0) (upd (upd L n c) (n + 1) q) (n + 1) := by
        have z : upd (upd L n c) (n + 1) q 0 = a1 0 := (pk_un (by omega)).trans hw.1
        refine ⟨z, fun j hj => ?_⟩
        rw [z]
        by_cases ej : j = n
        · rw [ej, pk_us, pk_un (by omega), ec]; exact ⟨hnx, e⟩
        · have q1 : upd (upd L n c) (n + 1) q j = upd L n c j := pk_un (by omega)
          have q2 : upd (upd L n c) (n + 1) q (j + 1) = upd L n c (j + 1) := pk_un (by omega)
          rw [q1, q2, ← hw.1]; exact hw.2 j (by omega)
      exfalso
      have pg := sp_pig hI (L := upd (upd L n c) (n + 1) q) (m := n + 2) (fun j hj => by
        cases j with
        | zero => rw [hw2.1]; exact ho.1
        | succ j => exact (hw2.2 j (by omega)).1.1) (fun i j hij hj => wr_inj hS ho.1 hw2 i j hij (by omega))
      omega
    | succ d ih =>
      intro n hn L c hw
      have ec : upd L n c n = c := pk_us
      have hcS : S c := by
        cases n with
        | zero => rw [← ec, hw.1]; exact ho.1
        | succ n => rw [← ec]; exact (hw.2 n (by omega)).1.1
      have hcE : gm_E S c := by
        cases n with
        | zero => rw [← ec, hw.1]; exact gm_mnE ho
        | succ n =>
          have x := (hw.2 n (by omega)).1
          rw [ec] at x
          have y : S (upd L (n + 1) c n) := by
            cases n with
            | zero => rw [hw.1]; exact ho.1
            | succ n => exact (hw.2 n (by omega)).1.1
          exact gm_nxE hS (hS _ y) x
      refine ⟨vp_in_nI (by omega) (by omega), nm_e (nm_r (nI_1 n) (wx_rightmost hN hI (hS c hcS) hcE fun q hq hnx => ?_))⟩
      have hnx : gm_nx S c q := ⟨hq.elim (fun e => e ▸ hcS) id, fun r hr => gm_N1.mpr (hnx r hr)⟩
      rw [nI_clamp (by omega)]
      have fin : q = a1 0 → gm_cyc S (upd L n c) (n + 1) := by
        intro e
        refine ⟨by omega, hw.1 ▸ ho, fun i hi => hw.2 i (by omega), ?_⟩
        rw [show n + 1 - 1 = n by omega, ec, hw.1, ← e]; exact hnx
      refine ⟨fun e => h _ _ (by omega) (fin e), fun e => br_t (nI_lt (by omega) (by omega)) (ih (n + 1) (by omega) _ q ?_)⟩
      have z : upd (upd L n c) (n + 1) q 0 = a1 0 := (pk_un (by omega)).trans hw.1
      refine ⟨z, fun j hj => ?_⟩
      rw [z]
      by_cases ej : j = n
      · rw [ej, pk_us, pk_un (by omega), ec]; exact ⟨hnx, e⟩
      · have q1 : upd (upd L n c) (n + 1) q j = upd L n c j := pk_un (by omega)
        have q2 : upd (upd L n c) (n + 1) q (j + 1) = upd L n c (j + 1) := pk_un (by omega)
        rw [q1, q2, ← hw.1]; exact hw.2 j (by omega)
  exact nm_e ⟨_, key (N - 1) 0 (by omega) a2 (a1 0) ⟨pk_us, fun j hj => by omega⟩⟩
theorem wx_wrap_otherRing {post : Int32 → SX → Prop} {fp : Int32} {a0 a1 a2 a3 : Nat → Int32} {S : Int32 → Prop} {N : Nat} (hN : N ≤ 24) (h0 : 0 < N) (hI : sp_I S a1 N)
    (h : ∀ m L, m ≤ 24 → gm_cyc S L m → post (nI m) (fp, nI N, a0, a1, a2, L)) : wpX_wrap__otherRing post (fp, nI N, a0, a1, a2, a3) := by
  have hS := sp_P hI
  have ho := sp_mn hI h0
  have key : ∀ d n, n + d + 1 = N → ∀ L c, wr_P S (a1 0) (upd L n c) n → wX_wrap__otherRing_9 post fp (nI N) (d + 1) c (nI n) a0 a1 a2 L := by
    intro d
    induction d with
    | zero =>
      intro n hn L c hw
      have ec : upd L n c n = c := pk_us
      have hcS : S c := by
        cases n with
        | zero => rw [← ec, hw.1]; exact ho.1
        | succ n => rw [← ec]; exact (hw.2 n (by omega)).1.1
      have hcE : gm_E S c := by
        cases n with
        | zero => rw [← ec, hw.1]; exact gm_mnE ho
        | succ n =>
          have x := (hw.2 n (by omega)).1
          rw [ec] at x
          have y : S (upd L (n + 1) c n) := by
            cases n with
            | zero => rw [hw.1]; exact ho.1
            | succ n => exact (hw.2 n (by omega)).1.1
          exact gm_nxE hS (hS _ y) x
      refine ⟨vp_in_nI (by omega) (by omega), nm_e (nm_r (nI_1 n) (wx_rightmost hN hI (hS c hcS) hcE fun q hq hnx => ?_))⟩
      have hnx : gm_nx S c q := ⟨hq.elim (fun e => e ▸ hcS) id, fun r hr => gm_N1.mpr (hnx r hr)⟩
      rw [nI_clamp (by omega)]
      have fin : q = a1 0 → gm_cyc S (upd L n c) (n + 1) := by
        intro e
        refine ⟨by omega, hw.1 ▸ ho, fun i hi => hw.2 i (by omega), ?_⟩
        rw [show n + 1 - 1 = n by omega, ec, hw.1, ← e]; exact hnx
      refine ⟨fun e => h _ _ (by omega) (fin e), fun e => ?_⟩
      have hw2 : wr_P S (a1 0) (upd (upd L n c) (n + 1) q) (n + 1) := by
        have z : upd (upd L n c) (n + 1) q 0 = a1 0 := (pk_un (by omega)).trans hw.1
        refine ⟨z, fun j hj => ?_⟩
        rw [z]
        by_cases ej : j = n
        · rw [ej, pk_us, pk_un (by omega), ec]; exact ⟨hnx, e⟩
        · have q1 : upd (upd L n c) (n + 1) q j = upd L n c j := pk_un (by omega)
          have q2 : upd (upd L n c) (n + 1) q (j + 1) = upd L n c (j + 1) := pk_un (by omega)
          rw [q1, q2, ← hw.1]; exact hw.2 j (by omega)
      exfalso
      have pg := sp_pig hI (L := upd (upd L n c) (n + 1) q) (m := n + 2) (fun j hj => by
        cases j with
        | zero => rw [hw2.1]; exact ho.1
        | succ j => exact (hw2.2 j (by omega)).1.1) (fun i j hij hj => wr_inj hS ho.1 hw2 i j hij (by omega))
      omega
    | succ d ih =>
      intro n hn L c hw
      have ec : upd L n c n = c := pk_us
      have hcS : S c := by
        cases n with
        | zero => rw [← ec, hw.1]; exact ho.1
        | succ n => rw [← ec]; exact (hw.2 n (by omega)).1.1
      have hcE : gm_E S c := by
        cases n with
        | zero => rw [← ec, hw.1]; exact gm_mnE ho
        | succ n =>
          have x := (hw.2 n (by omega)).1
          rw [ec] at x
          have y : S (upd L (n + 1) c n) := by
            cases n with
            | zero => rw [hw.1]; exact ho.1
            | succ n => exact (hw.2 n (by omega)).1.1
          exact gm_nxE hS (hS _ y) x
      refine ⟨vp_in_nI (by omega) (by omega), nm_e (nm_r (nI_1 n) (wx_rightmost hN hI (hS c hcS) hcE fun q hq hnx => ?_))⟩
      have hnx : gm_nx S c q := ⟨hq.elim (fun e => e ▸ hcS) id, fun r hr => gm_N1.mpr (hnx r hr)⟩
      rw [nI_clamp (by omega)]
      have fin : q = a1 0 → gm_cyc S (upd L n c) (n + 1) := by
        intro e
        refine ⟨by omega, hw.1 ▸ ho, fun i hi => hw.2 i (by omega), ?_⟩
        rw [show n + 1 - 1 = n by omega, ec, hw.1, ← e]; exact hnx
      refine ⟨fun e => h _ _ (by omega) (fin e), fun e => br_t (nI_lt (by omega) (by omega)) (ih (n + 1) (by omega) _ q ?_)⟩
      have z : upd (upd L n c) (n + 1) q 0 = a1 0 := (pk_un (by omega)).trans hw.1
      refine ⟨z, fun j hj => ?_⟩
      rw [z]
      by_cases ej : j = n
      · rw [ej, pk_us, pk_un (by omega), ec]; exact ⟨hnx, e⟩
      · have q1 : upd (upd L n c) (n + 1) q j = upd L n c j := pk_un (by omega)
        have q2 : upd (upd L n c) (n + 1) q (j + 1) = upd L n c (j + 1) := pk_un (by omega)
        rw [q1, q2, ← hw.1]; exact hw.2 j (by omega)
  exact nm_e ⟨_, key (N - 1) 0 (by omega) a3 (a1 0) ⟨pk_us, fun j hj => by omega⟩⟩
end
section
/-- sorting by direction from o, the nearer one first -/
theorem sa_B {o a b : Int32} (ha : gm_P a) (hb : gm_P b) : 0 < gm_B 4096 1 o a b ↔ (0 < gm_tr o a b ∨ (gm_tr o a b = 0 ∧ gm_la a < gm_la b)) := by
  have A := gm_laB ha
  have B := gm_laB hb
  unfold gm_B
  omega
theorem sa_tr {o a b c : Int32} (ha : gm_P a) (hb : gm_P b) (hc : gm_P c) (la : a = o ∨ gm_la o < gm_la a) (lb : gm_la o < gm_la b) (lc : gm_la o < gm_la c)
    (h1 : 0 < gm_B 4096 1 o a b) (h2 : 0 < gm_B 4096 1 o b c) : 0 < gm_B 4096 1 o a c := by
  rw [sa_B ha hb] at h1
  rw [sa_B hb hc] at h2
  rw [sa_B ha hc]
  rcases la with rfl | la
  · exact Or.inr ⟨gm_ppr _ _, lc⟩
  have e := gm_phB 64 1 o a b c
  rw [gm_phl, gm_phl, gm_phl] at e
  have m1 := Int.mul_nonneg (a := gm_tr o b c) (b := gm_la a - gm_la o) (by omega) (by omega)
  have m2 := Int.mul_nonneg (a := gm_tr o a b) (b := gm_la c - gm_la o) (by omega) (by omega)
  have g := gm_nn (a := gm_tr o a c) (b := gm_la b - gm_la o) (by omega) (by omega)
  by_cases z : gm_tr o a c = 0
  · rw [z, Int.zero_mul] at e
    have z1 := gm_z (a := gm_tr o b c) (b := gm_la a - gm_la o) (by omega) (by omega)
    have z2 := gm_z (a := gm_tr o a b) (b := gm_la c - gm_la o) (by omega) (by omega)
    exact Or.inr ⟨z, by omega⟩
  · exact Or.inl (by omega)
def sa_I (a a' : Nat → Int32) (i : Nat) : Prop := a' 0 = a 0 ∧ (∀ k, i ≤ k → a' k = a k) ∧ (∀ k, k < i → ∃ j, j < i ∧ a' k = a j) ∧ (∀ j, j < i → ∃ k, k < i ∧ a' k = a j) ∧ (∀ k j, k < j → j < i → 0 < gm_B 4096 1 (a 0) (a' k) (a' j))
theorem sa_ins {a a' : Nat → Int32} {n i x : Nat} (hP : ∀ i, i < n → gm_P (a i)) (hl : ∀ i j, i < j → j < n → gm_la (a i) < gm_la (a j)) (hi : i < n) (h : sa_I a a' i) (x1 : 1 ≤ x) (x2 : x ≤ i)
    (h1 : x = 1 ∨ 0 ≤ gm_tr (a 0) (a' (x - 1)) (a i)) (h2 : ∀ k, x ≤ k → k < i → gm_tr (a 0) (a' k) (a i) < 0) : sa_I a (ar_ins a' i x (a i)) (i + 1) := by
  obtain ⟨i0, i1, i2, i3, i4⟩ := h
  have e1 : ∀ k, k < x → ar_ins a' i x (a i) k = a' k := fun k hk => by unfold ar_ins; rw [if_pos hk]
  have e2 : ar_ins a' i x (a i) x = a i := by unfold ar_ins; rw [if_neg (by omega), if_pos rfl]
  have e3 : ∀ k, x ≤ k → k < i → ar_ins a' i x (a i) (k + 1) = a' k := fun k hk hN => by unfold ar_ins; rw [if_neg (by omega), if_neg (by omega), if_pos (by omega)]; rfl
  have e4 : ∀ k, i < k → ar_ins a' i x (a i) k = a' k := fun k hk => by unfold ar_ins; rw [if_neg (by omega), if_neg (by omega), if_neg (by omega)]
  have pP : ∀ k, k < i → gm_P (a' k) := fun k hk => by obtain ⟨j, hj, e⟩ := i2 k hk; rw [e]; exact hP j (by omega)
  have pl : ∀ k, k < i → gm_la (a' k) < gm_la (a i) := fun k hk => by obtain ⟨j, hj, e⟩ := i2 k hk; rw [e]; exact hl j i hj hi
  have po : ∀ k, k < i → a' k = a 0 ∨ gm_la (a 0) < gm_la (a' k) := by
    intro k hk
    obtain ⟨j, hj, e⟩ := i2 k hk
    by_cases ej : j = 0
    · rw [e, ej]; exact Or.inl rfl
    · rw [e]; exact Or.inr (hl 0 j (by omega) (by omega))
  have lx : gm_la (a 0) < gm_la (a i) := hl 0 i (by omega) hi
  have lo : ∀ k, k < x → 0 < gm_B 4096 1 (a 0) (a' k) (a i) := by
    intro k hk
    have top : 0 < gm_B 4096 1 (a 0) (a' (x - 1)) (a i) := by
      rw [sa_B (pP _ (by omega)) (hP i hi)]
      rcases h1 with h1 | h1
      · rw [h1, i0, gm_ppr]; exact Or.inr ⟨rfl, lx⟩
      · have := pl (x - 1) (by omega)
        omega
    by_cases ek : k = x - 1
    · rw [ek]; exact top
    · have hx := i4 k (x - 1) (by omega) (by omega)
      have h0 := i4 0 (x - 1) (by omega) (by omega)
      have l1 : gm_la (a 0) < gm_la (a' (x - 1)) := by
        rcases po (x - 1) (by omega) with q | q
        · rw [q, i0] at h0
          unfold gm_B at h0
          rw [gm_prr] at h0
          omega
        · exact q
      exact sa_tr (pP k (by omega)) (pP (x - 1) (by omega)) (hP i hi) (po k (by omega)) l1 lx hx top
  have hi' : ∀ k, x ≤ k → k < i → 0 < gm_B 4096 1 (a 0) (a i) (a' k) := by
    intro k hk hk'
    rw [sa_B (hP i hi) (pP k hk')]
    have := h2 k hk hk'
    rw [gm_swp] at this
    omega
  refine ⟨(e1 0 (by omega)).trans i0, fun k hk => (e4 k (by omega)).trans (i1 k (by omega)), fun k hk => ?_, fun j hj => ?_, fun k j hkj hj => ?_⟩
  · rcases Nat.lt_trichotomy k x with c | c | c
    · obtain ⟨j, hj, e⟩ := i2 k (by omega)
      exact ⟨j, by omega, (e1 k c).trans e⟩
    · exact ⟨i, by omega, by rw [c, e2]⟩
    · obtain ⟨k, rfl⟩ : ∃ z, k = z + 1 := ⟨k - 1, by omega⟩
      obtain ⟨j, hj, e⟩ := i2 k (by omega)
      exact ⟨j, by omega, (e3 k (by omega) (by omega)).trans e⟩
  · by_cases ej : j = i
    · exact ⟨x, by omega, by rw [e2, ej]⟩
    · obtain ⟨k, hk, e⟩ := i3 j (by omega)
      by_cases c : k < x
      · exact ⟨k, by omega, (e1 k c).trans e⟩
      · exact ⟨k + 1, by omega, (e3 k (by omega) hk).trans e⟩
  · rcases Nat.lt_trichotomy k x with c | c | c
    · rw [e1 k c]
      rcases Nat.lt_trichotomy j x with d | d | d
      · rw [e1 j d]; exact i4 k j hkj (by omega)
      · rw [d, e2]; exact lo k c
      · obtain ⟨j, rfl⟩ : ∃ z, j = z + 1 := ⟨j - 1, by omega⟩
        rw [e3 j (by omega) (by omega)]; exact i4 k j (by omega) (by omega)
    · obtain ⟨j, rfl⟩ : ∃ z, j = z + 1 := ⟨j - 1, by omega⟩
      rw [c, e2, e3 j (by omega) (by omega)]; exact hi' j (by omega) (by omega)
    · obtain ⟨j, rfl⟩ : ∃ z, j = z + 1 := ⟨j - 1, by omega⟩
      obtain ⟨k, rfl⟩ : ∃ z, k = z + 1 := ⟨k - 1, by omega⟩
      rw [e3 j (by omega) (by omega), e3 k (by omega) (by omega)]; exact i4 k j (by omega) (by omega)
theorem sa_two {a : Nat → Int32} {n : Nat} (hP : ∀ i, i < n → gm_P (a i)) (hl : ∀ i j, i < j → j < n → gm_la (a i) < gm_la (a j)) {i : Nat} (hi : i ≤ 2) (hn : i ≤ n) : sa_I a a i := by
  refine ⟨rfl, fun _ _ => rfl, fun k hk => ⟨k, hk, rfl⟩, fun k hk => ⟨k, hk, rfl⟩, fun k j hkj hj => ?_⟩
  rw [show k = 0 by omega, sa_B (hP 0 (by omega)) (hP j (by omega)), gm_ppr]
  exact Or.inr ⟨rfl, hl 0 j (by omega) (by omega)⟩
theorem wx_sort_spots {post : SX → Prop} {fp fs : Int32} {a0 a1 a2 a3 : Nat → Int32} {n : Nat} (hn : n ≤ 24) (hP : ∀ i, i < n → gm_P (a1 i)) (hl : ∀ i j, i < j → j < n → gm_la (a1 i) < gm_la (a1 j))
    (h : ∀ L, sa_I a1 L n → post (fp, fs, a0, L, a2, a3)) : wpX_sortAroundFirst__spots post (fp, fs, a0, a1, a2, a3) (nI n) := by
  have key : ∀ d i, 2 ≤ i → i + d = n → ∀ L, sa_I a1 L i → wX_sortAroundFirst__spots_2 post (nI n) fp fs (d + 1) (nI i) a0 L a2 a3 := by
    intro d
    induction d with
    | zero =>
      intro i h2 hi L hL
      rw [show i = n by omega] at hL ⊢
      exact br_t (nI_le (Nat.le_refl n) (by omega)) (h L hL)
    | succ d ih =>
      intro i h2 hi L hL
      have ei : L i = a1 i := hL.2.1 i (Nat.le_refl i)
      refine br_f (nI_ge (by omega) (by omega)) ⟨vp_in_nI (by omega) (by omega), nm_e ?_⟩
      rw [nI_clamp (by omega), ei]
      have fin : ∀ x, 1 ≤ x → x ≤ i → (x = 1 ∨ 0 ≤ gm_tr (a1 0) (L (x - 1)) (a1 i)) → (∀ k, x ≤ k → k < i → gm_tr (a1 0) (L k) (a1 i) < 0) →
          wX_sortAroundFirst__spots_2 post (nI n) fp fs (d + 1) (nI (i + 1)) a0 (ar_ins L i x (a1 i)) a2 a3 := by
        intro x h1 h3 h4 h5
        exact ih (i + 1) (by omega) (by omega) _ (sa_ins hP hl (by omega) hL h1 h3 h4 h5)
      have inner : ∀ x, x + 1 ≤ i → (∀ k, x + 1 ≤ k → k < i → gm_tr (a1 0) (L k) (a1 i) < 0) →
          wX_sortAroundFirst__spots_14 post (wX_sortAroundFirst__spots_2 post (nI n) fp fs (d + 1)) (nI n) (nI i) (a1 i) fp fs (x + 1) (nI (x + 1)) a0 (ar_sh L i (x + 1)) a2 a3 := by
        intro x
        induction x with
        | zero =>
          intro hx hk
          refine br_t (nI_le (a := 1) (b := 1) (by omega) (by decide)) ⟨vp_in_nI (by omega) (by omega), nm_e (nm_r (nI_1 i) ?_)⟩
          rw [nI_clamp (by omega), ar_she _ (by omega)]
          exact fin 1 (by omega) (by omega) (Or.inl rfl) hk
        | succ x ihx =>
          intro hx hk
          have q0 : ar_sh L i (x + 1 + 1) 0 = a1 0 := by unfold ar_sh; rw [if_neg (by omega)]; exact hL.1
          have q1 : ar_sh L i (x + 1 + 1) (x + 1) = L (x + 1) := by unfold ar_sh; rw [if_neg (by omega)]
          refine br_f (nI_ge (b := x + 1 + 1) (a := 1) (by omega) (by omega)) ?_
          rw [nI_pred]
          refine ⟨vp_in_nI (by omega) (by omega), wx_turn ?_⟩
          have hPx : gm_P (L (x + 1)) := by obtain ⟨j, hj, e⟩ := hL.2.2.1 (x + 1) (by omega); rw [e]; exact hP j (by omega)
          rw [nI_clamp (by omega), q0, q1]
          have Bd := gm_trB (hP 0 (by omega)) hPx (hP i (by omega))
          have e1 := i3_ge0 (i := gm_tr (a1 0) (L (x + 1)) (a1 i)) (by omega)
          refine ⟨fun hg => ⟨vp_in_nI (by omega) (by omega), nm_e (nm_r (nI_1 i) ?_)⟩, fun hg => ⟨vp_in_nI (by omega) (by omega), vp_in_nI (by omega) (by omega), nm_e (nm_r (pk_m1 (x + 1)) ?_)⟩⟩
          · rw [nI_clamp (by omega), ar_she _ (by omega)]
            exact fin (x + 1 + 1) (by omega) (by omega) (Or.inr (e1.mp hg)) hk
          · have e2 := ar_shs L (n := i) (i := x + 1) (by omega)
            rw [q1] at e2
            rw [nI_clamp (by omega), e2]
            refine ihx (by omega) fun k h1 h3 => ?_
            by_cases ek : k = x + 1
            · rw [ek]
              have := mt e1.mpr hg
              omega
            · exact hk k (by omega) h3
      have h9 := inner (i - 1) (by omega) (fun k h1 h3 => by omega)
      rw [show i - 1 + 1 = i by omega, ar_sh0] at h9
      exact ⟨_, h9⟩
  by_cases c : n < 2
  · exact ⟨1, br_t (nI_le (b := 2) (by omega) (by omega)) (h _ (sa_two hP hl (by omega) (Nat.le_refl n)))⟩
  · exact ⟨_, key (n - 2) 2 (by omega) (by omega) _ (sa_two hP hl (by omega) (by omega))⟩
theorem wx_sort_ring {post : SX → Prop} {fp fs : Int32} {a0 a1 a2 a3 : Nat → Int32} {n : Nat} (hn : n ≤ 24) (hP : ∀ i, i < n → gm_P (a2 i)) (hl : ∀ i j, i < j → j < n → gm_la (a2 i) < gm_la (a2 j))
    (h : ∀ L, sa_I a2 L n → post (fp, fs, a0, a1, L, a3)) : wpX_sortAroundFirst__ring post (fp, fs, a0, a1, a2, a3) (nI n) := by
  have key : ∀ d i, 2 ≤ i → i + d = n → ∀ L, sa_I a2 L i → wX_sortAroundFirst__ring_2 post (nI n) fp fs (d + 1) (nI i) a0 a1 L a3 := by
    intro d
    induction d with
    | zero =>
      intro i h2 hi L hL
      rw [show i = n by omega] at hL ⊢
      exact br_t (nI_le (Nat.le_refl n) (by omega)) (h L hL)
    | succ d ih =>
      intro i h2 hi L hL
      have ei : L i = a2 i := hL.2.1 i (Nat.le_refl i)
      refine br_f (nI_ge (by omega) (by omega)) ⟨vp_in_nI (by omega) (by omega), nm_e ?_⟩
      rw [nI_clamp (by omega), ei]
      have fin : ∀ x, 1 ≤ x → x ≤ i → (x = 1 ∨ 0 ≤ gm_tr (a2 0) (L (x - 1)) (a2 i)) → (∀ k, x ≤ k → k < i → gm_tr (a2 0) (L k) (a2 i) < 0) →
          wX_sortAroundFirst__ring_2 post (nI n) fp fs (d + 1) (nI (i + 1)) a0 a1 (ar_ins L i x (a2 i)) a3 := by
        intro x h1 h3 h4 h5
        exact ih (i + 1) (by omega) (by omega) _ (sa_ins hP hl (by omega) hL h1 h3 h4 h5)
      have inner : ∀ x, x + 1 ≤ i → (∀ k, x + 1 ≤ k → k < i → gm_tr (a2 0) (L k) (a2 i) < 0) →
          wX_sortAroundFirst__ring_14 post (wX_sortAroundFirst__ring_2 post (nI n) fp fs (d + 1)) (nI n) (nI i) (a2 i) fp fs (x + 1) (nI (x + 1)) a0 a1 (ar_sh L i (x + 1)) a3 := by
        intro x
        induction x with
        | zero =>
          intro hx hk
          refine br_t (nI_le (a := 1) (b := 1) (by omega) (by decide)) ⟨vp_in_nI (by omega) (by omega), nm_e (nm_r (nI_1 i) ?_)⟩
          rw [nI_clamp (by omega), ar_she _ (by omega)]
          exact fin 1 (by omega) (by omega) (Or.inl rfl) hk
        | succ x ihx =>
          intro hx hk
          have q0 : ar_sh L i (x + 1 + 1) 0 = a2 0 := by unfold ar_sh; rw [if_neg (by omega)]; exact hL.1
          have q1 : ar_sh L i (x + 1 + 1) (x + 1) = L (x + 1) := by unfold ar_sh; rw [if_neg (by omega)]
          refine br_f (nI_ge (b := x + 1 + 1) (a := 1) (by omega) (by omega)) ?_
          rw [nI_pred]
          refine ⟨vp_in_nI (by omega) (by omega), wx_turn ?_⟩
          have hPx : gm_P (L (x + 1)) := by obtain ⟨j, hj, e⟩ := hL.2.2.1 (x + 1) (by omega); rw [e]; exact hP j (by omega)
          rw [nI_clamp (by omega), q0, q1]
          have Bd := gm_trB (hP 0 (by omega)) hPx (hP i (by omega))
          have e1 := i3_ge0 (i := gm_tr (a2 0) (L (x + 1)) (a2 i)) (by omega)
          refine ⟨fun hg => ⟨vp_in_nI (by omega) (by omega), nm_e (nm_r (nI_1 i) ?_)⟩, fun hg => ⟨vp_in_nI (by omega) (by omega), vp_in_nI (by omega) (by omega), nm_e (nm_r (pk_m1 (x + 1)) ?_)⟩⟩
          · rw [nI_clamp (by omega), ar_she _ (by omega)]
            exact fin (x + 1 + 1) (by omega) (by omega) (Or.inr (e1.mp hg)) hk
          · have e2 := ar_shs L (n := i) (i := x + 1) (by omega)
            rw [q1] at e2
            rw [nI_clamp (by omega), e2]
            refine ihx (by omega) fun k h1 h3 => ?_
            by_cases ek : k = x + 1
            · rw [ek]
              have := mt e1.mpr hg
              omega
            · exact hk k (by omega) h3
      have h9 := inner (i - 1) (by omega) (fun k h1 h3 => by omega)
      rw [show i - 1 + 1 = i by omega, ar_sh0] at h9
      exact ⟨_, h9⟩
  by_cases c : n < 2
  · exact ⟨1, br_t (nI_le (b := 2) (by omega) (by omega)) (h _ (sa_two hP hl (by omega) (Nat.le_refl n)))⟩
  · exact ⟨_, key (n - 2) 2 (by omega) (by omega) _ (sa_two hP hl (by omega) (by omega))⟩
theorem wx_sort_otherRing {post : SX → Prop} {fp fs : Int32} {a0 a1 a2 a3 : Nat → Int32} {n : Nat} (hn : n ≤ 24) (hP : ∀ i, i < n → gm_P (a3 i)) (hl : ∀ i j, i < j → j < n → gm_la (a3 i) < gm_la (a3 j))
    (h : ∀ L, sa_I a3 L n → post (fp, fs, a0, a1, a2, L)) : wpX_sortAroundFirst__otherRing post (fp, fs, a0, a1, a2, a3) (nI n) := by
  have key : ∀ d i, 2 ≤ i → i + d = n → ∀ L, sa_I a3 L i → wX_sortAroundFirst__otherRing_2 post (nI n) fp fs (d + 1) (nI i) a0 a1 a2 L := by
    intro d
    induction d with
    | zero =>
      intro i h2 hi L hL
      rw [show i = n by omega] at hL ⊢
      exact br_t (nI_le (Nat.le_refl n) (by omega)) (h L hL)
    | succ d ih =>
      intro i h2 hi L hL
      have ei : L i = a3 i := hL.2.1 i (Nat.le_refl i)
      refine br_f (nI_ge (by omega) (by omega)) ⟨vp_in_nI (by omega) (by omega), nm_e ?_⟩
      rw [nI_clamp (by omega), ei]
      have fin : ∀ x, 1 ≤ x → x ≤ i → (x = 1 ∨ 0 ≤ gm_tr (a3 0) (L (x - 1)) (a3 i)) → (∀ k, x ≤ k → k < i → gm_tr (a3 0) (L k) (a3 i) < 0) →
          wX_sortAroundFirst__otherRing_2 post (nI n) fp fs (d + 1) (nI (i + 1)) a0 a1 a2 (ar_ins L i x (a3 i)) := by
        intro x h1 h3 h4 h5
        exact ih (i + 1) (by omega) (by omega) _ (sa_ins hP hl (by omega) hL h1 h3 h4 h5)
      have inner : ∀ x, x + 1 ≤ i → (∀ k, x + 1 ≤ k → k < i → gm_tr (a3 0) (L k) (a3 i) < 0) →
          wX_sortAroundFirst__otherRing_14 post (wX_sortAroundFirst__otherRing_2 post (nI n) fp fs (d + 1)) (nI n) (nI i) (a3 i) fp fs (x + 1) (nI (x + 1)) a0 a1 a2 (ar_sh L i (x + 1)) := by
        intro x
        induction x with
        | zero =>
          intro hx hk
          refine br_t (nI_le (a := 1) (b := 1) (by omega) (by decide)) ⟨vp_in_nI (by omega) (by omega), nm_e (nm_r (nI_1 i) ?_)⟩
          rw [nI_clamp (by omega), ar_she _ (by omega)]
          exact fin 1 (by omega) (by omega) (Or.inl rfl) hk
        | succ x ihx =>
          intro hx hk
          have q0 : ar_sh L i (x + 1 + 1) 0 = a3 0 := by unfold ar_sh; rw [if_neg (by omega)]; exact hL.1
          have q1 : ar_sh L i (x + 1 + 1) (x + 1) = L (x + 1) := by unfold ar_sh; rw [if_neg (by omega)]
          refine br_f (nI_ge (b := x + 1 + 1) (a := 1) (by omega) (by omega)) ?_
          rw [nI_pred]
          refine ⟨vp_in_nI (by omega) (by omega), wx_turn ?_⟩
          have hPx : gm_P (L (x + 1)) := by obtain ⟨j, hj, e⟩ := hL.2.2.1 (x + 1) (by omega); rw [e]; exact hP j (by omega)
          rw [nI_clamp (by omega), q0, q1]
          have Bd := gm_trB (hP 0 (by omega)) hPx (hP i (by omega))
          have e1 := i3_ge0 (i := gm_tr (a3 0) (L (x + 1)) (a3 i)) (by omega)
          refine ⟨fun hg => ⟨vp_in_nI (by omega) (by omega), nm_e (nm_r (nI_1 i) ?_)⟩, fun hg => ⟨vp_in_nI (by omega) (by omega), vp_in_nI (by omega) (by omega), nm_e (nm_r (pk_m1 (x + 1)) ?_)⟩⟩
          · rw [nI_clamp (by omega), ar_she _ (by omega)]
            exact fin (x + 1 + 1) (by omega) (by omega) (Or.inr (e1.mp hg)) hk
          · have e2 := ar_shs L (n := i) (i := x + 1) (by omega)
            rw [q1] at e2
            rw [nI_clamp (by omega), e2]
            refine ihx (by omega) fun k h1 h3 => ?_
            by_cases ek : k = x + 1
            · rw [ek]
              have := mt e1.mpr hg
              omega
            · exact hk k (by omega) h3
      have h9 := inner (i - 1) (by omega) (fun k h1 h3 => by omega)
      rw [show i - 1 + 1 = i by omega, ar_sh0] at h9
      exact ⟨_, h9⟩
  by_cases c : n < 2
  · exact ⟨1, br_t (nI_le (b := 2) (by omega) (by omega)) (h _ (sa_two hP hl (by omega) (Nat.le_refl n)))⟩
  · exact ⟨_, key (n - 2) 2 (by omega) (by omega) _ (sa_two hP hl (by omega) (by omega))⟩
end
section
theorem ch_lo {S : Int32 → Prop} {a : Nat → Int32} {N : Nat} (h : sp_I S a N) : ch_o 0 1 0 a N := by
  intro i j hij hj
  have := h.2.1 i j hij hj
  unfold gm_B
  omega
theorem ch_up {S : Int32 → Prop} {a : Nat → Int32} {N : Nat} (h : sp_I S a N) : ch_o 0 (-1) 0 (fun j => a (N - 1 - j)) N := by
  intro i j hij hj
  have := h.2.1 (N - 1 - j) (N - 1 - i) (by omega) (by omega)
  unfold gm_B
  dsimp only
  omega
/-- the lower and the upper chain share their ends alone -/
theorem ch_bnd {S : Int32 → Prop} {a : Nat → Int32} {N l u i : Nat} {ix iy : Nat → Nat} (h : sp_I S a N) (h1 : ch_I a N l ix) (hi : i ≤ N) (h2 : ch_I (fun j => a (N - 1 - j)) i u iy) : l + u ≤ N + 2 := by
  have l1 := fun j (hj : j < l) => ch_lt h1 hj
  have l2 := fun j (hj : j < u) => ch_lt h2 hj
  by_cases cu : u < 2
  · have := h1.2.1
    omega
  have hpos : ∀ j, 0 < j → j < u → 0 < iy j := by
    intro j h0 hj
    have := h2.2.2.2.2.1 0 j h0 hj
    omega
  have cross : ∀ j k, j < l → 0 < k → k + 1 < u → ix j ≠ N - 1 - iy k := by
    intro j k hj hk0 hk e
    have p0 := hpos k hk0 (by omega)
    have q1 := l1 j hj
    have q2 := l2 k (by omega)
    have q3 := h2.2.2.2.2.1 k (u - 1) (by omega) (by omega)
    have q4 := h2.2.2.2.1
    by_cases ej : j = l - 1
    · have := h1.2.2.2.1
      rw [← ej] at this
      omega
    have A := ch_last (ch_up h) hi h2 (j := k) (r := 0) hk p0
    have B := ch_last (ch_lo h) (Nat.le_refl N) h1 (j := j) (r := N - i) (by omega) (by omega)
    rw [← e, show N - 1 - 0 = N - 1 by omega, show N - 1 - (i - 1) = N - i by omega] at A
    have e2 : gm_tr (a (N - i)) (a (ix j)) (a (N - 1)) = - gm_tr (a (N - 1)) (a (ix j)) (a (N - i)) := by unfold gm_tr; grind
    omega
  have := ph_pig N (l + (u - 2)) (fun j => if j < l then ix j else N - 1 - iy (j - l + 1)) (fun j hj => by
    by_cases c : j < l
    · simp only [c, if_true]; exact l1 j c
    · have := l2 (j - l + 1) (by omega)
      simp only [c, if_false]; omega) (fun j k hjk hk => by
    by_cases c : j < l
    · by_cases d : k < l
      · simp only [c, d, if_true]
        have := h1.2.2.2.2.1 j k hjk d
        omega
      · simp only [c, d, if_true, if_false]
        exact cross j (k - l + 1) c (by omega) (by omega)
    · have d : ¬ k < l := by omega
      simp only [c, d, if_false]
      have := h2.2.2.2.2.1 (j - l + 1) (k - l + 1) (by omega) (by omega)
      have := l2 (k - l + 1) (by omega)
      omega)
  omega
theorem ch_ring {S : Int32 → Prop} {a L : Nat → Int32} {N l u : Nat} {ix iy : Nat → Nat} (h : sp_I S a N) (hN : 2 ≤ N) (h1 : ch_I a N l ix) (h2 : ch_I (fun j => a (N - 1 - j)) N u iy)
    (e1 : ∀ j, j < l → L j = a (ix j)) (e2 : ∀ j, j < u → L (l - 1 + j) = a (N - 1 - iy j)) : gm_cyc S L (l - 1 + u - 1) := by
  have l1 := fun j (hj : j < l) => ch_lt h1 hj
  have l2 := fun j (hj : j < u) => ch_lt h2 hj
  have x0 := h1.2.2.1
  have x1 := h1.2.2.2.1
  have y0 := h2.2.2.1
  have y1 := h2.2.2.2.1
  have lp := h1.1
  have up := h2.1
  have hl2 : 2 ≤ l := by
    apply Classical.byContradiction
    intro c
    rw [show l - 1 = 0 by omega] at x1
    omega
  have hu2 : 2 ≤ u := by
    apply Classical.byContradiction
    intro c
    rw [show u - 1 = 0 by omega] at y1
    omega
  have hS : ∀ j, j < N → S (a j) := fun j hj => (h.2.2 _).mpr ⟨j, hj, rfl⟩
  have o : L 0 = a 0 := by rw [e1 0 (by omega), x0]
  have ne : ∀ j, 0 < j → j < N → a j ≠ a 0 := by
    intro j h0 hj e
    have := h.2.1 0 j h0 hj
    rw [e] at this
    omega
  have nl : ∀ j, j + 1 < l → gm_nx S (a (ix j)) (a (ix (j + 1))) := by
    intro j hj
    refine ⟨hS _ (l1 _ hj), fun r hr => ?_⟩
    obtain ⟨i, hi, e⟩ := (h.2.2 r).mp hr
    rw [← e]
    exact ch_N (ch_lo h) (Nat.le_refl N) h1 hj hi
  have nu : ∀ j, j + 1 < u → gm_nx S (a (N - 1 - iy j)) (a (N - 1 - iy (j + 1))) := by
    intro j hj
    refine ⟨hS _ (by omega), fun r hr => ?_⟩
    obtain ⟨i, hi, e⟩ := (h.2.2 r).mp hr
    have := ch_N (ch_up h) (Nat.le_refl N) h2 (j := j) (r := N - 1 - i) hj (by omega)
    rw [show N - 1 - (N - 1 - i) = i by omega, e] at this
    exact this
  refine ⟨by omega, o ▸ sp_mn h (by omega), fun j hj => ?_, ?_⟩
  · by_cases c : j + 1 < l
    · rw [e1 j (by omega), e1 (j + 1) c, o]
      have := h1.2.2.2.2.1 0 (j + 1) (by omega) c
      exact ⟨nl j c, ne _ (by omega) (l1 _ c)⟩
    · obtain ⟨k, rfl⟩ : ∃ k, j = l - 1 + k := ⟨j - (l - 1), by omega⟩
      have q := e2 (k + 1) (by omega)
      have := h2.2.2.2.2.1 (k + 1) (u - 1) (by omega) (by omega)
      rw [e2 k (by omega), show l - 1 + k + 1 = l - 1 + (k + 1) by omega, q, o]
      exact ⟨nu k (by omega), ne _ (by omega) (by omega)⟩
  · have q := nu (u - 2) (by omega)
    rw [show u - 2 + 1 = u - 1 by omega, y1, show N - 1 - (N - 1) = 0 by omega] at q
    rw [o, show l - 1 + u - 1 - 1 = l - 1 + (u - 2) by omega, e2 (u - 2) (by omega)]
    exact q
/-- the scan's ring -/
theorem sc_ring {S : Int32 → Prop} {a b L : Nat → Int32} {N n : Nat} {ix : Nat → Nat} (h : sp_I S a N) (h0 : 0 < N) (hb : sa_I a b N) (h1 : ch_I b N n ix) (e1 : ∀ j, j < n → L j = b (ix j)) : gm_cyc S L n := by
  obtain ⟨b0, b1, b2, b3, b4⟩ := hb
  have ho : ch_o 4096 1 (a 0) b N := b4
  have hS : ∀ r, S r ↔ ∃ i, i < N ∧ b i = r := by
    intro r
    rw [h.2.2 r]
    constructor
    · rintro ⟨i, hi, e⟩
      obtain ⟨k, hk, e'⟩ := b3 i hi
      exact ⟨k, hk, e'.trans e⟩
    · rintro ⟨i, hi, e⟩
      obtain ⟨k, hk, e'⟩ := b2 i hi
      exact ⟨k, hk, e'.symm.trans e⟩
  have hP : ∀ i, i < N → gm_P (b i) := fun i hi => by obtain ⟨k, hk, e⟩ := b2 i hi; rw [e]; exact h.1 k hk
  have l1 := fun j (hj : j < n) => ch_lt h1 hj
  have x0 := h1.2.2.1
  have x1 := h1.2.2.2.1
  have np := h1.1
  have o : L 0 = a 0 := by rw [e1 0 (by omega), x0, b0]
  have mn := sp_mn h h0
  have ne : ∀ j, 0 < j → j < N → b j ≠ a 0 := by
    intro j hj hN e
    have := b4 0 j hj hN
    rw [b0, e] at this
    unfold gm_B at this
    rw [gm_prr] at this
    omega
  refine ⟨by omega, o ▸ mn, fun j hj => ?_, ?_⟩
  · rw [e1 j (by omega), e1 (j + 1) hj, o]
    have := h1.2.2.2.2.1 0 (j + 1) (by omega) hj
    refine ⟨⟨(hS _).mpr ⟨_, l1 _ hj, rfl⟩, fun r hr => ?_⟩, ne _ (by omega) (l1 _ hj)⟩
    obtain ⟨i, hi, e⟩ := (hS r).mp hr
    rw [← e]
    exact ch_N ho (Nat.le_refl N) h1 hj hi
  · rw [e1 (n - 1) (by omega), x1, o]
    refine ⟨mn.1, fun r hr => ?_⟩
    obtain ⟨i, hi, e⟩ := (hS r).mp hr
    rw [← e]
    by_cases ei : i = N - 1
    · rw [ei]
      exact gm_Nm.mpr (gm_ru (-1) _ _)
    have q := b4 i (N - 1) (by omega) (by omega)
    rw [sa_B (hP i hi) (hP _ (by omega))] at q
    have t : gm_tr (b (N - 1)) (a 0) (b i) = gm_tr (a 0) (b i) (b (N - 1)) := (gm_rot _ _ _).symm
    refine ⟨by omega, fun z => ?_⟩
    by_cases eo : b i = a 0
    · rw [eo]; unfold gm_dt; grind
    have lo := mn.2 (b i) ((hS _).mpr ⟨i, hi, rfl⟩) eo
    have ll := mn.2 (b (N - 1)) ((hS _).mpr ⟨N - 1, by omega, rfl⟩) (ne _ (by omega) (by omega))
    rw [gm_dts]
    refine (gm_seg (a := 64) (b := 1) (c := a 0) (u := b (N - 1)) (r := b i) (by rw [gm_phl]; omega) (by rw [gm_phl]; omega) (by rw [gm_swp]; omega)).mpr ?_
    rw [gm_phl, gm_phl]
    omega
theorem wx_push_ring {post : Int32 → SX → Prop} {fp fs : Int32} {a0 a1 a2 a3 : Nat → Int32} {K e : Int} {o : Int32} {g : Nat → Int32} {N i n b : Nat} {ix : Nat → Nat} (ho : ch_o K e o g N) (hi : i < N) (hP : ∀ j, j < N → gm_P (g j))
    (hI : ch_I g i n ix) (hb : b + n ≤ 25) (ha : ∀ j, j < n → a2 (b + j) = g (ix j))
    (h : ∀ k, 0 < k → k ≤ n → ch_I g (i + 1) (k + 1) (fun j => if j = k then i else ix j) → b + k < 25 ∧ post (nI (b + k + 1)) (fp, fs, a0, a1, upd a2 (b + k) (g i), a3)) :
    wpX_pushLeftTurn__ring post (fp, fs, a0, a1, a2, a3) (nI b) (nI (b + n)) (g i) := by
  have fin : ∀ k, 0 < k → k ≤ n → ch_p g i k ix → (∀ k', k = k' + 2 → 0 < gm_tr (g (ix k')) (g (ix (k' + 1))) (g i)) → wX_pushLeftTurn__ring_36 post (g i) (nI (b + k)) fp fs a0 a1 a2 a3 := by
    intro k h0 hk hp ht
    obtain ⟨hb, hpost⟩ := h k h0 hk (ch_psh ho hi hI h0 hk hp ht)
    refine ⟨vp_in_nI hb (by omega), nm_e ?_⟩
    rw [nI_clamp (by omega), nI_1]
    exact hpost
  have key : ∀ k, k + 1 ≤ n → ch_p g i (k + 1) ix → wX_pushLeftTurn__ring_3 post (nI b) (g i) fp fs a0 a1 a2 a3 (k + 1) (nI (b + (k + 1))) := by
    intro k
    induction k with
    | zero =>
      intro hk hp
      refine br_t ?_ (fin 1 (by omega) hk hp (fun k' e => by omega))
      exact (nI_add b 2) ▸ nI_lt (a := b + 1) (b := b + 2) (by omega) (by omega)
    | succ k ih =>
      intro hk hp
      have n2 : nI (b + (k + 1 + 1)) - 2 = nI (b + k) := (pk_sub (a := b + (k + 1 + 1)) (b := 2) (by omega)).trans (congrArg nI (by omega))
      have n1 : nI (b + (k + 1 + 1)) - 1 = nI (b + (k + 1)) := (pk_sub (a := b + (k + 1 + 1)) (b := 1) (by omega)).trans (congrArg nI (by omega))
      have hPk : ∀ j, j < n → gm_P (g (ix j)) := fun j hj => hP _ (by have := ch_lt hI hj; omega)
      have Bd := gm_trB (hPk k (by omega)) (hPk (k + 1) (by omega)) (hP i hi)
      have e1 := i3_gt0 (i := gm_tr (g (ix k)) (g (ix (k + 1))) (g i)) (by omega)
      refine br_f ?_ ?_
      · exact (nI_add b 2) ▸ nI_nlt (a := b + (k + 1 + 1)) (b := b + 2) (by omega) (by omega)
      rw [n2, n1]
      refine ⟨vp_in_nI (by omega) (by omega), vp_in_nI (by omega) (by omega), wx_turn ?_⟩
      rw [nI_clamp (by omega), nI_clamp (by omega), ha k (by omega), ha (k + 1) (by omega)]
      refine ⟨fun hg => fin (k + 1 + 1) (by omega) hk hp (fun k' ek => ?_), fun hg => nm_r (?_ : _ = nI (b + (k + 1))) (ih (by omega) (ch_pop ho hi hI hk hp ?_))⟩
      · rw [show k' = k by omega]; exact e1.mp hg
      · exact pk_m1 (b + (k + 1))
      · have := mt e1.mpr hg
        omega
  obtain ⟨m, rfl⟩ : ∃ m, n = m + 1 := ⟨n - 1, by have := hI.1; omega⟩
  refine ⟨_, key m (Nat.le_refl _) fun r hr hx => ?_⟩
  have := hI.2.2.2.1
  rw [this] at hx
  omega
theorem wx_push0_ring {post : Int32 → SX → Prop} {fp fs p : Int32} {a0 a1 a2 a3 : Nat → Int32} (h : post (nI 1) (fp, fs, a0, a1, upd a2 0 p, a3)) :
    wpX_pushLeftTurn__ring post (fp, fs, a0, a1, a2, a3) 0 (nI 0) p :=
  ⟨1, br_t (by decide) ⟨vp_in_nI (n := 0) (N := 25) (by omega) (by omega), nm_e h⟩⟩
theorem wx_chain_ring {post : Int32 → SX → Prop} {fp : Int32} {a0 a1 a2 a3 : Nat → Int32} {S : Int32 → Prop} {N : Nat} (hN : N ≤ 24) (h0 : 0 < N) (hI : sp_I S a1 N)
    (h : ∀ m L, m ≤ 24 → gm_cyc S L m → post (nI m) (fp, nI N, a0, a1, L, a3)) : wpX_chain__ring post (fp, nI N, a0, a1, a2, a3) := by
  refine pk_eq N 1 (fun c => nm_e ?_) (fun c => ?_)
  · have e0 : upd a2 0 (a1 0) 0 = a1 0 := pk_us
    have mn := sp_mn hI h0
    refine h 1 _ (by omega) ⟨by omega, e0.symm ▸ mn, fun i hi => by omega, ?_⟩
    show gm_nx S (upd a2 0 (a1 0) 0) (upd a2 0 (a1 0) 0)
    rw [e0]
    refine ⟨mn.1, fun r hr => ?_⟩
    obtain ⟨i, hi, e⟩ := (hI.2.2 r).mp hr
    rw [← e, show i = 0 by omega]
    exact gm_N1.mpr (gm_rc 1 _ _)
  have second : ∀ l ix, ch_I a1 N l ix → ∀ d i, i + d = N → 0 < i → ∀ L u iy, ch_I (fun j => a1 (N - 1 - j)) i u iy → (∀ j, j < l → L j = a1 (ix j)) → (∀ j, j < u → L (l - 1 + j) = a1 (N - 1 - iy j)) →
      wX_chain__ring_62 post (nI (l - 1)) (d + 1) (nI (l - 1 + u)) (nI d + (-1)) fp (nI N) a0 a1 L a3 := by
    intro l ix hl d
    induction d with
    | zero =>
      intro i hi hp L u iy hu e1 e2
      have bd := ch_bnd hI hl (by omega) hu
      have hup := hu.1
      have hlp := hl.1
      refine br_t (by decide) ?_
      rw [show i = N by omega] at hu
      have := ch_ring hI (by omega) hl hu e1 e2
      have q : nI (l - 1 + u) - 1 = nI (l - 1 + u - 1) := pk_sub (a := l - 1 + u) (b := 1) (by omega)
      rw [q]
      exact h _ L (by omega) this
    | succ d ih =>
      intro i hi hp L u iy hu e1 e2
      have bd := ch_bnd hI hl (by omega) hu
      have hup := hu.1
      have hlp := hl.1
      have lN := hl.2.1
      rw [pk_m1]
      refine br_f (nI_pos (by omega)) ⟨vp_in_nI (by omega) (by omega), ?_⟩
      rw [nI_clamp (by omega)]
      have hg : a1 d = a1 (N - 1 - i) := by rw [show N - 1 - i = d by omega]
      rw [hg]
      have q := wx_push_ring (post := fun r_16 u => match u with | (f0, f1, b0, b1, b2, b3) => ∀ y : Int32, y = nI d + (-1) → wX_chain__ring_62 post (nI (l - 1)) (d + 1) r_16 y f0 f1 b0 b1 b2 b3) (fp := fp) (fs := nI N) (a0 := a0) (a1 := a1) (a2 := L) (a3 := a3) (K := 0) (e := -1) (o := 0) (g := fun j => a1 (N - 1 - j)) (N := N) (i := i) (n := u) (b := l - 1) (ix := iy) (ch_up hI) (by omega) (fun j hj => hI.1 _ (by omega)) hu (by omega) e2 (fun k k0 kn hk => ?_)
      · exact q
      have bd2 := ch_bnd hI hl (by omega) hk
      refine ⟨by omega, nm_e ?_⟩
      refine ih (i + 1) (by omega) (by omega) _ (k + 1) _ hk (fun j hj => ?_) (fun j hj => ?_)
      · rw [pk_un (by omega)]; exact e1 j hj
      · by_cases ej : j = k
        · rw [ej, pk_us, if_pos rfl]
        · rw [pk_un (by omega), if_neg ej]; exact e2 j (by omega)
  have first : ∀ d i, i + d = N → ∀ L n ix, (i = 0 ∧ n = 0 ∨ ch_I a1 i n ix) → (∀ j, j < n → L j = a1 (ix j)) → wX_chain__ring_23 post (d + 1) (nI n) (nI i) fp (nI N) a0 a1 L a3 := by
    intro d
    induction d with
    | zero =>
      intro i hi L n ix hc e1
      have hc : ch_I a1 N n ix := by
        rcases hc with hc | hc
        · omega
        · rw [show i = N by omega] at hc; exact hc
      have np := hc.1
      have nN := hc.2.1
      have q1 : nI n - 1 = nI (n - 1) := pk_sub (b := 1) (by omega)
      have q2 : nI N - 2 = nI (N - 1) + (-1) := by
        rw [show nI N - 2 = nI (N - 2) from pk_sub (b := 2) (by omega), show N - 1 = (N - 2) + 1 by omega, pk_m1]
      refine br_t (nI_le (by omega) (by omega)) (nm_r q1 (nm_r q2 ?_))
      have e2 : ∀ j, j < 1 → L (n - 1 + j) = a1 (N - 1 - (fun _ => 0) j) := by
        intro j hj
        rw [show j = 0 by omega, Nat.add_zero, e1 (n - 1) (by omega), hc.2.2.2.1]
        rfl
      have := second n ix hc (N - 1) 1 (by omega) (by omega) L 1 (fun _ => 0) (ch_one _) e1 e2
      rw [show n - 1 + 1 = n by omega] at this
      exact ⟨_, this⟩
    | succ d ih =>
      intro i hi L n ix hc e1
      refine br_f (nI_ge (by omega) (by omega)) ⟨vp_in_nI (by omega) (by omega), ?_⟩
      rw [nI_clamp (by omega)]
      rcases hc with ⟨rfl, rfl⟩ | hc
      · refine wx_push0_ring (nm_r (nI_1 0) (ih 1 (by omega) _ 1 (fun _ => 0) (Or.inr (ch_one _)) (fun j hj => ?_)))
        rw [show j = 0 by omega]; exact pk_us
      · have := hc.2.1
        have q := wx_push_ring (post := fun r_16 u => match u with | (f0, f1, b0, b1, b2, b3) => ∀ y : Int32, y = nI i + 1 → wX_chain__ring_23 post (d + 1) r_16 y f0 f1 b0 b1 b2 b3) (fp := fp) (fs := nI N) (a0 := a0) (a1 := a1) (a2 := L) (a3 := a3) (b := 0) (ch_lo hI) (show i < N by omega) hI.1 hc (by omega) (fun j hj => by rw [Nat.zero_add]; exact e1 j hj) (fun k k0 kn hk => ?_)
        · rw [Nat.zero_add] at q; exact q
        refine ⟨by omega, nm_r (nI_1 i) ?_⟩
        rw [Nat.zero_add]
        refine ih (i + 1) (by omega) _ (k + 1) _ (Or.inr hk) (fun j hj => ?_)
        by_cases ej : j = k
        · rw [ej, pk_us, if_pos rfl]
        · rw [pk_un (by omega), if_neg ej]; exact e1 j (by omega)
  exact ⟨_, first N 0 (by omega) _ 0 (fun _ => 0) (Or.inl ⟨rfl, rfl⟩) (fun j hj => by omega)⟩
theorem wx_scan_ring {post : Int32 → SX → Prop} {fp : Int32} {a0 a1 a2 a3 : Nat → Int32} {S : Int32 → Prop} {N : Nat} (hN : N ≤ 24) (h0 : 0 < N) (hI : sp_I S a1 N)
    (h : ∀ m L b, m ≤ 24 → gm_cyc S L m → post (nI m) (fp, nI N, a0, b, L, a3)) : wpX_scan__ring post (fp, nI N, a0, a1, a2, a3) := by
  refine wx_sort_spots hN hI.1 hI.2.1 (fun b hb => ?_)
  have ho : ch_o 4096 1 (a1 0) b N := hb.2.2.2.2
  have hP : ∀ i, i < N → gm_P (b i) := fun i hi => by obtain ⟨k, hk, e⟩ := hb.2.2.1 i hi; rw [e]; exact hI.1 k hk
  have first : ∀ d i, i + d = N → ∀ L n ix, (i = 0 ∧ n = 0 ∨ ch_I b i n ix) → (∀ j, j < n → L j = b (ix j)) → wX_scan__ring_15 post (d + 1) (nI n) (nI i) fp (nI N) a0 b L a3 := by
    intro d
    induction d with
    | zero =>
      intro i hi L n ix hc e1
      have hc : ch_I b N n ix := by
        rcases hc with hc | hc
        · omega
        · rw [show i = N by omega] at hc; exact hc
      have nN := hc.2.1
      exact br_t (nI_le (by omega) (by omega)) (h n L b (by omega) (sc_ring hI h0 hb hc e1))
    | succ d ih =>
      intro i hi L n ix hc e1
      refine br_f (nI_ge (by omega) (by omega)) ⟨vp_in_nI (by omega) (by omega), ?_⟩
      rw [nI_clamp (by omega)]
      rcases hc with ⟨rfl, rfl⟩ | hc
      · refine wx_push0_ring (nm_r (nI_1 0) (ih 1 (by omega) _ 1 (fun _ => 0) (Or.inr (ch_one _)) (fun j hj => ?_)))
        rw [show j = 0 by omega]; exact pk_us
      · have := hc.2.1
        have q := wx_push_ring (post := fun r_16 u => match u with | (f0, f1, b0, b1, b2, b3) => ∀ y : Int32, y = nI i + 1 → wX_scan__ring_15 post (d + 1) r_16 y f0 f1 b0 b1 b2 b3) (fp := fp) (fs := nI N) (a0 := a0) (a1 := b) (a2 := L) (a3 := a3) (b := 0) ho (show i < N by omega) hP hc (by omega) (fun j hj => by rw [Nat.zero_add]; exact e1 j hj) (fun k k0 kn hk => ?_)
        · rw [Nat.zero_add] at q; exact q
        refine ⟨by omega, nm_r (nI_1 i) ?_⟩
        rw [Nat.zero_add]
        refine ih (i + 1) (by omega) _ (k + 1) _ (Or.inr hk) (fun j hj => ?_)
        by_cases ej : j = k
        · rw [ej, pk_us, if_pos rfl]
        · rw [pk_un (by omega), if_neg ej]; exact e1 j (by omega)
  exact ⟨_, first N 0 (by omega) _ 0 (fun _ => 0) (Or.inl ⟨rfl, rfl⟩) (fun j hj => by omega)⟩
theorem wx_push_otherRing {post : Int32 → SX → Prop} {fp fs : Int32} {a0 a1 a2 a3 : Nat → Int32} {K e : Int} {o : Int32} {g : Nat → Int32} {N i n b : Nat} {ix : Nat → Nat} (ho : ch_o K e o g N) (hi : i < N) (hP : ∀ j, j < N → gm_P (g j))
    (hI : ch_I g i n ix) (hb : b + n ≤ 25) (ha : ∀ j, j < n → a3 (b + j) = g (ix j))
    (h : ∀ k, 0 < k → k ≤ n → ch_I g (i + 1) (k + 1) (fun j => if j = k then i else ix j) → b + k < 25 ∧ post (nI (b + k + 1)) (fp, fs, a0, a1, a2, upd a3 (b + k) (g i))) :
    wpX_pushLeftTurn__otherRing post (fp, fs, a0, a1, a2, a3) (nI b) (nI (b + n)) (g i) := by
  have fin : ∀ k, 0 < k → k ≤ n → ch_p g i k ix → (∀ k', k = k' + 2 → 0 < gm_tr (g (ix k')) (g (ix (k' + 1))) (g i)) → wX_pushLeftTurn__otherRing_36 post (g i) (nI (b + k)) fp fs a0 a1 a2 a3 := by
    intro k h0 hk hp ht
    obtain ⟨hb, hpost⟩ := h k h0 hk (ch_psh ho hi hI h0 hk hp ht)
    refine ⟨vp_in_nI hb (by omega), nm_e ?_⟩
    rw [nI_clamp (by omega), nI_1]
    exact hpost
  have key : ∀ k, k + 1 ≤ n → ch_p g i (k + 1) ix → wX_pushLeftTurn__otherRing_3 post (nI b) (g i) fp fs a0 a1 a2 a3 (k + 1) (nI (b + (k + 1))) := by
    intro k
    induction k with
    | zero =>
      intro hk hp
      refine br_t ?_ (fin 1 (by omega) hk hp (fun k' e => by omega))
      exact (nI_add b 2) ▸ nI_lt (a := b + 1) (b := b + 2) (by omega) (by omega)
    | succ k ih =>
      intro hk hp
      have n2 : nI (b + (k + 1 + 1)) - 2 = nI (b + k) := (pk_sub (a := b + (k + 1 + 1)) (b := 2) (by omega)).trans (congrArg nI (by omega))
      have n1 : nI (b + (k + 1 + 1)) - 1 = nI (b + (k + 1)) := (pk_sub (a := b + (k + 1 + 1)) (b := 1) (by omega)).trans (congrArg nI (by omega))
      have hPk : ∀ j, j < n → gm_P (g (ix j)) := fun j hj => hP _ (by have := ch_lt hI hj; omega)
      have Bd := gm_trB (hPk k (by omega)) (hPk (k + 1) (by omega)) (hP i hi)
      have e1 := i3_gt0 (i := gm_tr (g (ix k)) (g (ix (k + 1))) (g i)) (by omega)
      refine br_f ?_ ?_
      · exact (nI_add b 2) ▸ nI_nlt (a := b + (k + 1 + 1)) (b := b + 2) (by omega) (by omega)
      rw [n2, n1]
      refine ⟨vp_in_nI (by omega) (by omega), vp_in_nI (by omega) (by omega), wx_turn ?_⟩
      rw [nI_clamp (by omega), nI_clamp (by omega), ha k (by omega), ha (k + 1) (by omega)]
      refine ⟨fun hg => fin (k + 1 + 1) (by omega) hk hp (fun k' ek => ?_), fun hg => nm_r (?_ : _ = nI (b + (k + 1))) (ih (by omega) (ch_pop ho hi hI hk hp ?_))⟩
      · rw [show k' = k by omega]; exact e1.mp hg
      · exact pk_m1 (b + (k + 1))
      · have := mt e1.mpr hg
        omega
  obtain ⟨m, rfl⟩ : ∃ m, n = m + 1 := ⟨n - 1, by have := hI.1; omega⟩
  refine ⟨_, key m (Nat.le_refl _) fun r hr hx => ?_⟩
  have := hI.2.2.2.1
  rw [this] at hx
  omega
theorem wx_push0_otherRing {post : Int32 → SX → Prop} {fp fs p : Int32} {a0 a1 a2 a3 : Nat → Int32} (h : post (nI 1) (fp, fs, a0, a1, a2, upd a3 0 p)) :
    wpX_pushLeftTurn__otherRing post (fp, fs, a0, a1, a2, a3) 0 (nI 0) p :=
  ⟨1, br_t (by decide) ⟨vp_in_nI (n := 0) (N := 25) (by omega) (by omega), nm_e h⟩⟩
theorem wx_chain_otherRing {post : Int32 → SX → Prop} {fp : Int32} {a0 a1 a2 a3 : Nat → Int32} {S : Int32 → Prop} {N : Nat} (hN : N ≤ 24) (h0 : 0 < N) (hI : sp_I S a1 N)
    (h : ∀ m L, m ≤ 24 → gm_cyc S L m → post (nI m) (fp, nI N, a0, a1, a2, L)) : wpX_chain__otherRing post (fp, nI N, a0, a1, a2, a3) := by
  refine pk_eq N 1 (fun c => nm_e ?_) (fun c => ?_)
  · have e0 : upd a3 0 (a1 0) 0 = a1 0 := pk_us
    have mn := sp_mn hI h0
    refine h 1 _ (by omega) ⟨by omega, e0.symm ▸ mn, fun i hi => by omega, ?_⟩
    show gm_nx S (upd a3 0 (a1 0) 0) (upd a3 0 (a1 0) 0)
    rw [e0]
    refine ⟨mn.1, fun r hr => ?_⟩
    obtain ⟨i, hi, e⟩ := (hI.2.2 r).mp hr
    rw [← e, show i = 0 by omega]
    exact gm_N1.mpr (gm_rc 1 _ _)
  have second : ∀ l ix, ch_I a1 N l ix → ∀ d i, i + d = N → 0 < i → ∀ L u iy, ch_I (fun j => a1 (N - 1 - j)) i u iy → (∀ j, j < l → L j = a1 (ix j)) → (∀ j, j < u → L (l - 1 + j) = a1 (N - 1 - iy j)) →
      wX_chain__otherRing_62 post (nI (l - 1)) (d + 1) (nI (l - 1 + u)) (nI d + (-1)) fp (nI N) a0 a1 a2 L := by
    intro l ix hl d
    induction d with
    | zero =>
      intro i hi hp L u iy hu e1 e2
      have bd := ch_bnd hI hl (by omega) hu
      have hup := hu.1
      have hlp := hl.1
      refine br_t (by decide) ?_
      rw [show i = N by omega] at hu
      have := ch_ring hI (by omega) hl hu e1 e2
      have q : nI (l - 1 + u) - 1 = nI (l - 1 + u - 1) := pk_sub (a := l - 1 + u) (b := 1) (by omega)
      rw [q]
      exact h _ L (by omega) this
    | succ d ih =>
      intro i hi hp L u iy hu e1 e2
      have bd := ch_bnd hI hl (by omega) hu
      have hup := hu.1
      have hlp := hl.1
      have lN := hl.2.1
      rw [pk_m1]
      refine br_f (nI_pos (by omega)) ⟨vp_in_nI (by omega) (by omega), ?_⟩
      rw [nI_clamp (by omega)]
      have hg : a1 d = a1 (N - 1 - i) := by rw [show N - 1 - i = d by omega]
      rw [hg]
      have q := wx_push_otherRing (post := fun r_16 u => match u with | (f0, f1, b0, b1, b2, b3) => ∀ y : Int32, y = nI d + (-1) → wX_chain__otherRing_62 post (nI (l - 1)) (d + 1) r_16 y f0 f1 b0 b1 b2 b3) (fp := fp) (fs := nI N) (a0 := a0) (a1 := a1) (a2 := a2) (a3 := L) (K := 0) (e := -1) (o := 0) (g := fun j => a1 (N - 1 - j)) (N := N) (i := i) (n := u) (b := l - 1) (ix := iy) (ch_up hI) (by omega) (fun j hj => hI.1 _ (by omega)) hu (by omega) e2 (fun k k0 kn hk => ?_)
      · exact q
      have bd2 := ch_bnd hI hl (by omega) hk
      refine ⟨by omega, nm_e ?_⟩
      refine ih (i + 1) (by omega) (by omega) _ (k + 1) _ hk (fun j hj => ?_) (fun j hj => ?_)
      · rw [pk_un (by omega)]; exact e1 j hj
      · by_cases ej : j = k
        · rw [ej, pk_us, if_pos rfl]
        · rw [pk_un (by omega), if_neg ej]; exact e2 j (by omega)
  have first : ∀ d i, i + d = N → ∀ L n ix, (i = 0 ∧ n = 0 ∨ ch_I a1 i n ix) → (∀ j, j < n → L j = a1 (ix j)) → wX_chain__otherRing_23 post (d + 1) (nI n) (nI i) fp (nI N) a0 a1 a2 L := by
    intro d
    induction d with
    | zero =>
      intro i hi L n ix hc e1
      have hc : ch_I a1 N n ix := by
        rcases hc with hc | hc
        · omega
        · rw [show i = N by omega] at hc; exact hc
      have np := hc.1
      have nN := hc.2.1
      have q1 : nI n - 1 = nI (n - 1) := pk_sub (b := 1) (by omega)
      have q2 : nI N - 2 = nI (N - 1) + (-1) := by
        rw [show nI N - 2 = nI (N - 2) from pk_sub (b := 2) (by omega), show N - 1 = (N - 2) + 1 by omega, pk_m1]
      refine br_t (nI_le (by omega) (by omega)) (nm_r q1 (nm_r q2 ?_))
      have e2 : ∀ j, j < 1 → L (n - 1 + j) = a1 (N - 1 - (fun _ => 0) j) := by
        intro j hj
        rw [show j = 0 by omega, Nat.add_zero, e1 (n - 1) (by omega), hc.2.2.2.1]
        rfl
      have := second n ix hc (N - 1) 1 (by omega) (by omega) L 1 (fun _ => 0) (ch_one _) e1 e2
      rw [show n - 1 + 1 = n by omega] at this
      exact ⟨_, this⟩
    | succ d ih =>
      intro i hi L n ix hc e1
      refine br_f (nI_ge (by omega) (by omega)) ⟨vp_in_nI (by omega) (by omega), ?_⟩
      rw [nI_clamp (by omega)]
      rcases hc with ⟨rfl, rfl⟩ | hc
      · refine wx_push0_otherRing (nm_r (nI_1 0) (ih 1 (by omega) _ 1 (fun _ => 0) (Or.inr (ch_one _)) (fun j hj => ?_)))
        rw [show j = 0 by omega]; exact pk_us
      · have := hc.2.1
        have q := wx_push_otherRing (post := fun r_16 u => match u with | (f0, f1, b0, b1, b2, b3) => ∀ y : Int32, y = nI i + 1 → wX_chain__otherRing_23 post (d + 1) r_16 y f0 f1 b0 b1 b2 b3) (fp := fp) (fs := nI N) (a0 := a0) (a1 := a1) (a2 := a2) (a3 := L) (b := 0) (ch_lo hI) (show i < N by omega) hI.1 hc (by omega) (fun j hj => by rw [Nat.zero_add]; exact e1 j hj) (fun k k0 kn hk => ?_)
        · rw [Nat.zero_add] at q; exact q
        refine ⟨by omega, nm_r (nI_1 i) ?_⟩
        rw [Nat.zero_add]
        refine ih (i + 1) (by omega) _ (k + 1) _ (Or.inr hk) (fun j hj => ?_)
        by_cases ej : j = k
        · rw [ej, pk_us, if_pos rfl]
        · rw [pk_un (by omega), if_neg ej]; exact e1 j (by omega)
  exact ⟨_, first N 0 (by omega) _ 0 (fun _ => 0) (Or.inl ⟨rfl, rfl⟩) (fun j hj => by omega)⟩
theorem wx_scan_otherRing {post : Int32 → SX → Prop} {fp : Int32} {a0 a1 a2 a3 : Nat → Int32} {S : Int32 → Prop} {N : Nat} (hN : N ≤ 24) (h0 : 0 < N) (hI : sp_I S a1 N)
    (h : ∀ m L b, m ≤ 24 → gm_cyc S L m → post (nI m) (fp, nI N, a0, b, a2, L)) : wpX_scan__otherRing post (fp, nI N, a0, a1, a2, a3) := by
  refine wx_sort_spots hN hI.1 hI.2.1 (fun b hb => ?_)
  have ho : ch_o 4096 1 (a1 0) b N := hb.2.2.2.2
  have hP : ∀ i, i < N → gm_P (b i) := fun i hi => by obtain ⟨k, hk, e⟩ := hb.2.2.1 i hi; rw [e]; exact hI.1 k hk
  have first : ∀ d i, i + d = N → ∀ L n ix, (i = 0 ∧ n = 0 ∨ ch_I b i n ix) → (∀ j, j < n → L j = b (ix j)) → wX_scan__otherRing_15 post (d + 1) (nI n) (nI i) fp (nI N) a0 b a2 L := by
    intro d
    induction d with
    | zero =>
      intro i hi L n ix hc e1
      have hc : ch_I b N n ix := by
        rcases hc with hc | hc
        · omega
        · rw [show i = N by omega] at hc; exact hc
      have nN := hc.2.1
      exact br_t (nI_le (by omega) (by omega)) (h n L b (by omega) (sc_ring hI h0 hb hc e1))
    | succ d ih =>
      intro i hi L n ix hc e1
      refine br_f (nI_ge (by omega) (by omega)) ⟨vp_in_nI (by omega) (by omega), ?_⟩
      rw [nI_clamp (by omega)]
      rcases hc with ⟨rfl, rfl⟩ | hc
      · refine wx_push0_otherRing (nm_r (nI_1 0) (ih 1 (by omega) _ 1 (fun _ => 0) (Or.inr (ch_one _)) (fun j hj => ?_)))
        rw [show j = 0 by omega]; exact pk_us
      · have := hc.2.1
        have q := wx_push_otherRing (post := fun r_16 u => match u with | (f0, f1, b0, b1, b2, b3) => ∀ y : Int32, y = nI i + 1 → wX_scan__otherRing_15 post (d + 1) r_16 y f0 f1 b0 b1 b2 b3) (fp := fp) (fs := nI N) (a0 := a0) (a1 := b) (a2 := a2) (a3 := L) (b := 0) ho (show i < N by omega) hP hc (by omega) (fun j hj => by rw [Nat.zero_add]; exact e1 j hj) (fun k k0 kn hk => ?_)
        · rw [Nat.zero_add] at q; exact q
        refine ⟨by omega, nm_r (nI_1 i) ?_⟩
        rw [Nat.zero_add]
        refine ih (i + 1) (by omega) _ (k + 1) _ (Or.inr hk) (fun j hj => ?_)
        by_cases ej : j = k
        · rw [ej, pk_us, if_pos rfl]
        · rw [pk_un (by omega), if_neg ej]; exact e1 j (by omega)
  exact ⟨_, first N 0 (by omega) _ 0 (fun _ => 0) (Or.inl ⟨rfl, rfl⟩) (fun j hj => by omega)⟩
end
section
def sl_f (i n : Nat) : Nat := if i + 1 < n then i + 1 else 0
/-- corners found so far, by direction from the first -/
def sl_I (S : Int32 → Prop) (L : Nat → Int32) (n : Nat) : Prop := 2 ≤ n ∧ gm_mn S (L 0) ∧ (∀ i, i < n → S (L i) ∧ gm_E S (L i)) ∧ (∀ i, 0 < i → i < n → L i ≠ L 0) ∧ (∀ i j, 0 < i → i < j → j < n → 0 < gm_tr (L 0) (L i) (L j))
def sl_C (S : Int32 → Prop) (L : Nat → Int32) (n s : Nat) : Prop := ∀ i, i < s → ∀ r, S r → 0 ≤ gm_tr (L i) (L (sl_f i n)) r
theorem sl_inj {S : Int32 → Prop} {L : Nat → Int32} {n : Nat} (h : sl_I S L n) {i j : Nat} (hij : i < j) (hj : j < n) : L i ≠ L j := by
  cases i with
  | zero => exact fun e => h.2.2.2.1 j hij hj e.symm
  | succ i =>
    intro e
    have := h.2.2.2.2 (i + 1) j (by omega) hij hj
    rw [e, gm_prr] at this
    omega
theorem sl_ph (f t p r : Int32) : gm_ph (4096 * (-(gm_y t - gm_y f)) + 64) (4096 * (gm_x t - gm_x f) + 1) p r = 4096 * (gm_tr f t r - gm_tr f t p) + (gm_la r - gm_la p) := by
  unfold gm_ph gm_tr gm_la; grind
theorem sl_E {S : Int32 → Prop} (hS : ∀ r, S r → gm_P r) {f t p : Int32} (hp : S p) (h : ∀ r, S r → gm_tr f t p < gm_tr f t r ∨ (gm_tr f t p = gm_tr f t r ∧ (r = p ∨ gm_la p < gm_la r))) : gm_E S p := by
  refine ⟨4096 * (-(gm_y t - gm_y f)) + 64, 4096 * (gm_x t - gm_x f) + 1, fun r hr hn => ?_⟩
  rw [sl_ph]
  have a := gm_laB (hS r hr)
  have b := gm_laB (hS p hp)
  rcases h r hr with c | ⟨c, d | d⟩
  · omega
  · exact absurd d hn
  · omega
theorem sl_ins {S : Int32 → Prop} {L : Nat → Int32} {n s : Nat} {p : Int32} (h : sl_I S L n) (hs : s < n) (hp : S p) (hE : gm_E S p) (ht : gm_tr (L s) (L (sl_f s n)) p < 0) : sl_I S (ar_ins L n (s + 1) p) (n + 1) := by
  obtain ⟨h2, hm, hC, hne, hso⟩ := h
  have e1 : ∀ k, k < s + 1 → ar_ins L n (s + 1) p k = L k := fun k hk => by unfold ar_ins; rw [if_pos hk]
  have e2 : ar_ins L n (s + 1) p (s + 1) = p := by unfold ar_ins; rw [if_neg (by omega), if_pos rfl]
  have e3 : ∀ k, s + 1 ≤ k → k < n → ar_ins L n (s + 1) p (k + 1) = L k := fun k hk hN => by unfold ar_ins; rw [if_neg (by omega), if_neg (by omega), if_pos (by omega)]; rfl
  have hla : ∀ k, 0 < k → k < n → gm_la (L 0) < gm_la (L k) := fun k h0 hk => hm.2 _ (hC k hk).1 (hne k h0 hk)
  have o1 : 0 ≤ gm_tr (L s) (L (sl_f s n)) (L 0) := by
    unfold sl_f
    by_cases c : s + 1 < n
    · rw [if_pos c]
      by_cases d : s = 0
      · rw [d, gm_prp]; exact Int.le_refl 0
      · rw [gm_rot (L 0)]; exact Int.le_of_lt (hso s (s + 1) (by omega) (by omega) c)
    · rw [if_neg c, gm_prr]; exact Int.le_refl 0
  have pne : p ≠ L 0 := by
    intro e
    rw [e] at ht
    omega
  have pla : gm_la (L 0) < gm_la p := hm.2 p hp pne
  have pfr : L s ≠ p := by
    intro e
    rw [← e, gm_prp] at ht
    omega
  have pto : L (sl_f s n) ≠ p := by
    intro e
    rw [← e, gm_prr] at ht
    omega
  have lo1 : 0 < s → 0 < gm_tr (L 0) (L s) p := by
    intro s0
    unfold sl_f at ht pto
    by_cases c : s + 1 < n
    · rw [if_pos c] at ht pto
      have q := hso s (s + 1) s0 (by omega) c
      apply Classical.byContradiction
      intro hn
      have i1 : gm_tr p (L (s + 1)) (L s) = - gm_tr (L s) (L (s + 1)) p := by unfold gm_tr; grind
      have i2 : gm_tr (L (s + 1)) (L 0) (L s) = gm_tr (L 0) (L s) (L (s + 1)) := by unfold gm_tr; grind
      have i3 : gm_tr (L 0) p (L s) = - gm_tr (L 0) (L s) p := gm_swp _ _ _
      have i4 : gm_tr (L 0) p (L (s + 1)) = gm_tr p (L (s + 1)) (L s) + gm_tr (L (s + 1)) (L 0) (L s) + gm_tr (L 0) p (L s) := by unfold gm_tr; grind
      exact gm_Etri (hC s hs).2 hm.1 hp (hC (s + 1) c).1 (fun e => hne s s0 hs e.symm) pfr.symm (fun e => by rw [e, gm_prr] at q; omega) (by omega) (by omega) (by omega) (by omega)
    · rw [if_neg c, gm_swq (L 0)] at ht
      omega
  have hi1 : s + 1 < n → 0 < gm_tr (L 0) p (L (s + 1)) := by
    intro c
    unfold sl_f at ht pto
    rw [if_pos c] at ht pto
    by_cases s0 : s = 0
    · rw [s0] at ht ⊢
      rw [gm_swp] at ht
      omega
    · have q := hso s (s + 1) (by omega) (by omega) c
      apply Classical.byContradiction
      intro hn
      have i1 : gm_tr (L s) p (L (s + 1)) = - gm_tr (L s) (L (s + 1)) p := gm_swp _ _ _
      have i2 : gm_tr p (L 0) (L (s + 1)) = - gm_tr (L 0) p (L (s + 1)) := gm_swq _ _ _
      have i4 : gm_tr (L 0) (L s) p = gm_tr (L s) p (L (s + 1)) + gm_tr p (L 0) (L (s + 1)) + gm_tr (L 0) (L s) (L (s + 1)) := by unfold gm_tr; grind
      exact gm_Etri (hC (s + 1) c).2 hm.1 (hC s hs).1 hp (fun e => hne (s + 1) (by omega) c e.symm) (fun e => by rw [e, gm_prr] at q; omega) pto.symm (by omega) (by omega) (by omega) (by omega)
  have lo : ∀ i, 0 < i → i ≤ s → 0 < gm_tr (L 0) (L i) p := by
    intro i h0 hi
    by_cases c : i = s
    · rw [c]; exact lo1 (by omega)
    · exact gm_srt (hla i h0 (by omega)) (hla s (by omega) hs) pla (hso i s h0 (by omega) hs) (lo1 (by omega))
  have hi : ∀ j, s + 1 ≤ j → j < n → 0 < gm_tr (L 0) p (L j) := by
    intro j hj hn
    by_cases c : j = s + 1
    · rw [c]; exact hi1 (by omega)
    · exact gm_srt pla (hla (s + 1) (by omega) (by omega)) (hla j (by omega) hn) (hi1 (by omega)) (hso (s + 1) j (by omega) (by omega) hn)
  have z : ar_ins L n (s + 1) p 0 = L 0 := e1 0 (by omega)
  refine ⟨by omega, z.symm ▸ hm, fun i hi => ?_, fun i h0 hi => ?_, fun i j h0 hij hj => ?_⟩
  · rcases Nat.lt_trichotomy i (s + 1) with c | c | c
    · rw [e1 i c]; exact hC i (by omega)
    · rw [c, e2]; exact ⟨hp, hE⟩
    · obtain ⟨i, rfl⟩ : ∃ z, i = z + 1 := ⟨i - 1, by omega⟩
      rw [e3 i (by omega) (by omega)]; exact hC i (by omega)
  · rw [z]
    rcases Nat.lt_trichotomy i (s + 1) with c | c | c
    · rw [e1 i c]; exact hne i h0 (by omega)
    · rw [c, e2]; exact pne
    · obtain ⟨i, rfl⟩ : ∃ z, i = z + 1 := ⟨i - 1, by omega⟩
      rw [e3 i (by omega) (by omega)]; exact hne i (by omega) (by omega)
  · rw [z]
    rcases Nat.lt_trichotomy i (s + 1) with c | c | c
    · rw [e1 i c]
      rcases Nat.lt_trichotomy j (s + 1) with d | d | d
      · rw [e1 j d]; exact hso i j h0 hij (by omega)
      · rw [d, e2]; exact lo i h0 (by omega)
      · obtain ⟨j, rfl⟩ : ∃ z, j = z + 1 := ⟨j - 1, by omega⟩
        rw [e3 j (by omega) (by omega)]; exact hso i j h0 (by omega) (by omega)
    · obtain ⟨j, rfl⟩ : ∃ z, j = z + 1 := ⟨j - 1, by omega⟩
      rw [c, e2, e3 j (by omega) (by omega)]; exact hi j (by omega) (by omega)
    · obtain ⟨j, rfl⟩ : ∃ z, j = z + 1 := ⟨j - 1, by omega⟩
      obtain ⟨i, rfl⟩ : ∃ z, i = z + 1 := ⟨i - 1, by omega⟩
      rw [e3 i (by omega) (by omega), e3 j (by omega) (by omega)]; exact hso i j (by omega) (by omega) (by omega)
theorem sl_insC {S : Int32 → Prop} {L : Nat → Int32} {n s : Nat} {p : Int32} (hs : s < n) (h : sl_C S L n s) : sl_C S (ar_ins L n (s + 1) p) (n + 1) s := by
  intro i hi r hr
  have e1 : ∀ k, k < s + 1 → ar_ins L n (s + 1) p k = L k := fun k hk => by unfold ar_ins; rw [if_pos hk]
  have := h i hi r hr
  unfold sl_f at this ⊢
  rw [if_pos (by omega)] at this ⊢
  rw [e1 i (by omega), e1 (i + 1) (by omega)]
  exact this
theorem gm_betw (u v r : Int32) (h : gm_tr u v r = 0) : gm_dt r u v * gm_sq u v = - (gm_dt u r v * gm_dt v u r) := by
  unfold gm_tr at h; unfold gm_dt gm_sq; grind
/-- between two outermost points nothing lies beyond them -/
theorem gm_EN {S : Int32 → Prop} {u v r : Int32} (hu : S u) (hv : S v) (hr : S r) (Eu : gm_E S u) (Ev : gm_E S v) (ne : u ≠ v) (h : 0 ≤ gm_tr u v r) : gm_N u v r := by
  refine ⟨h, fun z => ?_⟩
  by_cases c : r = u
  · rw [c]; unfold gm_dt; grind
  by_cases d : r = v
  · rw [d]; unfold gm_dt; grind
  have a := gm_Eseg Eu hr hv c (fun e => ne e.symm) (by rw [gm_swp]; omega)
  have b := gm_Eseg Ev hu hr ne d (by rw [gm_swq]; omega)
  have e := gm_betw u v r z
  have m := Int.mul_pos a b
  have sq : 0 ≤ gm_sq u v := by
    rcases Int.lt_or_le (gm_sq u v) 0 with h | h
    · have := gm_sqz (a := gm_x u - gm_x v) (b := gm_y u - gm_y v) (by unfold gm_sq at h; omega)
      unfold gm_sq at h
      rw [this.1, this.2] at h
      omega
    · exact h
  by_cases s0 : gm_sq u v = 0
  · rw [s0, Int.mul_zero] at e
    omega
  · exact gm_np (b := gm_sq u v) (by omega) (by omega)
theorem sl_cyc {S : Int32 → Prop} {L : Nat → Int32} {n : Nat} (h : sl_I S L n) (hC : sl_C S L n n) : gm_cyc S L n := by
  have hi := fun i j (hij : i < j) (hj : j < n) => sl_inj h hij hj
  obtain ⟨h2, hm, hE, hne, hso⟩ := h
  refine ⟨by omega, hm, fun i hi' => ⟨⟨(hE _ hi').1, fun r hr => ?_⟩, hne _ (by omega) hi'⟩, ⟨hm.1, fun r hr => ?_⟩⟩
  · have q := hC i (by omega) r hr
    unfold sl_f at q
    rw [if_pos hi'] at q
    exact gm_EN (hE i (by omega)).1 (hE _ hi').1 hr (hE i (by omega)).2 (hE _ hi').2 (hi i (i + 1) (by omega) hi') q
  · have q := hC (n - 1) (by omega) r hr
    unfold sl_f at q
    rw [if_neg (by omega)] at q
    exact gm_EN (hE (n - 1) (by omega)).1 hm.1 hr (hE (n - 1) (by omega)).2 (hE 0 (by omega)).2 (fun e => hi 0 (n - 1) (by omega) (by omega) e.symm) q
theorem wx_far {post : Int32 → Prop} {fp : Int32} {a0 a1 a2 a3 : Nat → Int32} {S : Int32 → Prop} {N : Nat} {f t : Int32} (hN : N ≤ 24) (hI : sp_I S a1 N) (hf : gm_P f) (ht : gm_P t)
    (hno : (∀ r, S r → 0 ≤ gm_tr f t r) → post (-1))
    (hyes : ∀ p, S p → gm_tr f t p < 0 → (∀ r, S r → gm_tr f t p < gm_tr f t r ∨ (gm_tr f t p = gm_tr f t r ∧ (r = p ∨ gm_la p < gm_la r))) → post p) : wpX_farthestOutside post (fp, nI N, a0, a1, a2, a3) f t := by
  have key : ∀ d i, i + d = N → ∀ x y, (x = -1 ∧ y = 0 ∧ (∀ j, j < i → 0 ≤ gm_tr f t (a1 j)) ∨ ∃ k, k < i ∧ x = a1 k ∧ y = gm_tr f t (a1 k) ∧ y < 0 ∧ ∀ j, j < i → y < gm_tr f t (a1 j) ∨ (y = gm_tr f t (a1 j) ∧ k ≤ j)) → wX_farthestOutside_8 post f t fp (nI N) a0 a1 a2 a3 (d + 1) x (Int32.ofInt y) (nI i) := by
    intro d
    induction d with
    | zero =>
      intro i hi x y hxy
      refine br_t (nI_le (by omega) (by omega)) ?_
      rcases hxy with ⟨rfl, rfl, h⟩ | ⟨k, hk, rfl, rfl, hy, h⟩
      · refine hno fun r hr => ?_
        obtain ⟨j, hj, e⟩ := (hI.2.2 r).mp hr
        rw [← e]; exact h j (by omega)
      · refine hyes _ ((hI.2.2 _).mpr ⟨k, by omega, rfl⟩) hy fun r hr => ?_
        obtain ⟨j, hj, e⟩ := (hI.2.2 r).mp hr
        rcases h j (by omega) with q | ⟨q, q'⟩
        · rw [← e]; exact Or.inl q
        · rw [← e]
          by_cases ej : k = j
          · exact Or.inr ⟨q, Or.inl (by rw [ej])⟩
          · exact Or.inr ⟨q, Or.inr (hI.2.1 k j (by omega) hj)⟩
    | succ d ih =>
      intro i hi x y hxy
      have Bi := gm_trB hf ht (hI.1 i (by omega))
      have By : -7938 ≤ y ∧ y ≤ 7938 := by
        rcases hxy with ⟨rfl, rfl, h⟩ | ⟨k, hk, rfl, rfl, hy, h⟩
        · omega
        · exact gm_trB hf ht (hI.1 k (by omega))
      have e1 := i3_le (i := y) (j := gm_tr f t (a1 i)) (by omega) (by omega)
      refine br_f (nI_ge (by omega) (by omega)) ⟨vp_in_nI (by omega) (by omega), wx_turn ?_⟩
      rw [nI_clamp (by omega)]
      refine ⟨fun hl => nm_r (nI_1 i) (ih (i + 1) (by omega) x y ?_), fun hl => ⟨vp_in_nI (by omega) (by omega), nm_e (nm_r (nI_1 i) (ih (i + 1) (by omega) (a1 i) (gm_tr f t (a1 i)) ?_))⟩⟩
      · have hl := e1.mp hl
        rcases hxy with ⟨rfl, rfl, h⟩ | ⟨k, hk, rfl, ey, hy, h⟩
        · refine Or.inl ⟨rfl, rfl, fun j hj => ?_⟩
          by_cases ej : j = i
          · rw [ej]; exact hl
          · exact h j (by omega)
        · refine Or.inr ⟨k, by omega, rfl, ey, hy, fun j hj => ?_⟩
          by_cases ej : j = i
          · rw [ej]; omega
          · exact h j (by omega)
      · have hl := mt e1.mpr hl
        refine Or.inr ⟨i, by omega, rfl, rfl, ?_, fun j hj => ?_⟩
        · rcases hxy with ⟨rfl, rfl, h⟩ | ⟨k, hk, rfl, ey, hy, h⟩ <;> omega
        · by_cases ej : j = i
          · rw [ej]; exact Or.inr ⟨rfl, Nat.le_refl i⟩
          · rcases hxy with ⟨rfl, rfl, h⟩ | ⟨k, hk, rfl, ey, hy, h⟩
            · have := h j (by omega); exact Or.inl (by omega)
            · have := h j (by omega); exact Or.inl (by omega)
  exact ⟨_, key N 0 (by omega) (-1) 0 (Or.inl ⟨rfl, rfl, fun j hj => by omega⟩)⟩
theorem wx_split_ring {post : Int32 → SX → Prop} {fp : Int32} {a0 a1 a2 a3 : Nat → Int32} {S : Int32 → Prop} {N : Nat} (hN : N ≤ 24) (h0 : 0 < N) (hI : sp_I S a1 N)
    (h : ∀ m L, m ≤ 24 → gm_cyc S L m → post (nI m) (fp, nI N, a0, a1, L, a3)) : wpX_split__ring post (fp, nI N, a0, a1, a2, a3) := by
  have hS := sp_P hI
  have mn := sp_mn hI h0
  refine nm_e (pk_eq N 1 (fun c => ?_) (fun c => ?_))
  · have e0 : upd a2 0 (a1 0) 0 = a1 0 := pk_us
    refine h 1 _ (by omega) ⟨by omega, e0.symm ▸ mn, fun i hi => by omega, ?_⟩
    show gm_nx S (upd a2 0 (a1 0) 0) (upd a2 0 (a1 0) 0)
    rw [e0]
    refine ⟨mn.1, fun r hr => ?_⟩
    obtain ⟨i, hi, e⟩ := (hI.2.2 r).mp hr
    rw [← e, show i = 0 by omega]
    exact gm_N1.mpr (gm_rc 1 _ _)
  have key : ∀ d n s, n + s + d = 2 * N + 1 → s ≤ n → ∀ L, sl_I S L n → sl_C S L n s → wX_split__ring_40 post d (nI n) (nI s) (nI (n - 2 + s)) fp (nI N) a0 a1 L a3 := by
    intro d
    induction d with
    | zero =>
      intro n s hd hs L hL hC
      exfalso
      have := sp_pig hI (L := L) (m := n) (fun j hj => (hL.2.2.1 j hj).1) (fun i j hij hj => sl_inj hL hij hj)
      omega
    | succ d ih =>
      intro n s hd hs L hL hC
      have n2 := hL.1
      have nN := sp_pig hI (L := L) (m := n) (fun j hj => (hL.2.2.1 j hj).1) (fun i j hij hj => sl_inj hL hij hj)
      refine br_f (nI_ge (b := 48) (by omega) (by omega)) (pk_le n s (fun c => ?_) (fun c => ?_))
      · have e : s = n := by omega
        rw [e] at hC
        exact h n L (by omega) (sl_cyc hL hC)
      · have fl : sl_f s n < n := by unfold sl_f; split <;> omega
        refine ⟨vp_in_nI (by omega) (by omega), nm_e (wx_following (by omega) (by omega) ?_)⟩
        rw [show (if s + 1 < n then s + 1 else 0) = sl_f s n from rfl]
        refine ⟨vp_in_nI (by omega) (by omega), nm_e ?_⟩
        rw [nI_clamp (by omega), nI_clamp (by omega)]
        have hPf := hS _ (hL.2.2.1 s (by omega)).1
        have hPt := hS _ (hL.2.2.1 (sl_f s n) fl).1
        refine wx_far hN hI hPf hPt (fun hno => br_t rfl (nm_r (nI_1 s) (nm_r (nI_1 _) ?_))) (fun p hp ht hmin => br_f ?_ ?_)
        · rw [show n - 2 + s + 1 = n - 2 + (s + 1) by omega]
          refine ih n (s + 1) (by omega) (by omega) L hL fun i hi r hr => ?_
          by_cases ei : i = s
          · rw [ei]; exact hno r hr
          · exact hC i (by omega) r hr
        · intro e
          have := hS p hp
          rw [e] at this
          exact absurd this.1 (by decide)
        · rw [nI_1 s]
          have hL' := sl_ins hL c hp (sl_E hS hp hmin) ht
          have nN' := sp_pig hI (L := ar_ins L n (s + 1) p) (m := n + 1) (fun j hj => (hL'.2.2.1 j hj).1) (fun i j hij hj => sl_inj hL' hij hj)
          refine wx_ins_ring (by omega) (by omega) (nm_r (nI_1 _) ?_)
          rw [show n - 2 + s + 1 = n + 1 - 2 + s by omega]
          exact ih (n + 1) s (by omega) (by omega) _ hL' (sl_insC c hC)
  have q1 : nI N - 1 = nI (N - 1) := pk_sub (b := 1) (by omega)
  rw [q1, nI_clamp (by omega)]
  refine ⟨vp_in_nI (by omega) (by omega), nm_e ⟨_, key (2 * N - 1) 2 0 (by omega) (by omega) _ ?_ (fun i hi => by omega)⟩⟩
  have z0 : upd (upd a2 0 (a1 0)) 1 (a1 (N - 1)) 0 = a1 0 := (pk_un (by omega)).trans pk_us
  have z1 : upd (upd a2 0 (a1 0)) 1 (a1 (N - 1)) 1 = a1 (N - 1) := pk_us
  have mE : gm_E S (a1 (N - 1)) := by
    refine ⟨-64, -1, fun r hr hn => ?_⟩
    obtain ⟨i, hi, e⟩ := (hI.2.2 r).mp hr
    have ne : i ≠ N - 1 := fun z => hn (by rw [← e, z])
    have := hI.2.1 i (N - 1) (by omega) (by omega)
    rw [← e]
    have e : gm_ph (-64) (-1) (a1 (N - 1)) (a1 i) = gm_la (a1 (N - 1)) - gm_la (a1 i) := by unfold gm_ph gm_la; grind
    omega
  refine ⟨by omega, z0.symm ▸ mn, fun i hi => ?_, fun i h1 hi => ?_, fun i j h1 h2 h3 => by omega⟩
  · by_cases ei : i = 0
    · rw [ei, z0]; exact ⟨mn.1, gm_mnE mn⟩
    · rw [show i = 1 by omega, z1]; exact ⟨(hI.2.2 _).mpr ⟨N - 1, by omega, rfl⟩, mE⟩
  · rw [show i = 1 by omega, z0, z1]
    intro e
    have := hI.2.1 0 (N - 1) (by omega) (by omega)
    rw [e] at this
    omega
theorem wx_split_otherRing {post : Int32 → SX → Prop} {fp : Int32} {a0 a1 a2 a3 : Nat → Int32} {S : Int32 → Prop} {N : Nat} (hN : N ≤ 24) (h0 : 0 < N) (hI : sp_I S a1 N)
    (h : ∀ m L, m ≤ 24 → gm_cyc S L m → post (nI m) (fp, nI N, a0, a1, a2, L)) : wpX_split__otherRing post (fp, nI N, a0, a1, a2, a3) := by
  have hS := sp_P hI
  have mn := sp_mn hI h0
  refine nm_e (pk_eq N 1 (fun c => ?_) (fun c => ?_))
  · have e0 : upd a3 0 (a1 0) 0 = a1 0 := pk_us
    refine h 1 _ (by omega) ⟨by omega, e0.symm ▸ mn, fun i hi => by omega, ?_⟩
    show gm_nx S (upd a3 0 (a1 0) 0) (upd a3 0 (a1 0) 0)
    rw [e0]
    refine ⟨mn.1, fun r hr => ?_⟩
    obtain ⟨i, hi, e⟩ := (hI.2.2 r).mp hr
    rw [← e, show i = 0 by omega]
    exact gm_N1.mpr (gm_rc 1 _ _)
  have key : ∀ d n s, n + s + d = 2 * N + 1 → s ≤ n → ∀ L, sl_I S L n → sl_C S L n s → wX_split__otherRing_40 post d (nI n) (nI s) (nI (n - 2 + s)) fp (nI N) a0 a1 a2 L := by
    intro d
    induction d with
    | zero =>
      intro n s hd hs L hL hC
      exfalso
      have := sp_pig hI (L := L) (m := n) (fun j hj => (hL.2.2.1 j hj).1) (fun i j hij hj => sl_inj hL hij hj)
      omega
    | succ d ih =>
      intro n s hd hs L hL hC
      have n2 := hL.1
      have nN := sp_pig hI (L := L) (m := n) (fun j hj => (hL.2.2.1 j hj).1) (fun i j hij hj => sl_inj hL hij hj)
      refine br_f (nI_ge (b := 48) (by omega) (by omega)) (pk_le n s (fun c => ?_) (fun c => ?_))
      · have e : s = n := by omega
        rw [e] at hC
        exact h n L (by omega) (sl_cyc hL hC)
      · have fl : sl_f s n < n := by unfold sl_f; split <;> omega
        refine ⟨vp_in_nI (by omega) (by omega), nm_e (wx_following (by omega) (by omega) ?_)⟩
        rw [show (if s + 1 < n then s + 1 else 0) = sl_f s n from rfl]
        refine ⟨vp_in_nI (by omega) (by omega), nm_e ?_⟩
        rw [nI_clamp (by omega), nI_clamp (by omega)]
        have hPf := hS _ (hL.2.2.1 s (by omega)).1
        have hPt := hS _ (hL.2.2.1 (sl_f s n) fl).1
        refine wx_far hN hI hPf hPt (fun hno => br_t rfl (nm_r (nI_1 s) (nm_r (nI_1 _) ?_))) (fun p hp ht hmin => br_f ?_ ?_)
        · rw [show n - 2 + s + 1 = n - 2 + (s + 1) by omega]
          refine ih n (s + 1) (by omega) (by omega) L hL fun i hi r hr => ?_
          by_cases ei : i = s
          · rw [ei]; exact hno r hr
          · exact hC i (by omega) r hr
        · intro e
          have := hS p hp
          rw [e] at this
          exact absurd this.1 (by decide)
        · rw [nI_1 s]
          have hL' := sl_ins hL c hp (sl_E hS hp hmin) ht
          have nN' := sp_pig hI (L := ar_ins L n (s + 1) p) (m := n + 1) (fun j hj => (hL'.2.2.1 j hj).1) (fun i j hij hj => sl_inj hL' hij hj)
          refine wx_ins_otherRing (by omega) (by omega) (nm_r (nI_1 _) ?_)
          rw [show n - 2 + s + 1 = n + 1 - 2 + s by omega]
          exact ih (n + 1) s (by omega) (by omega) _ hL' (sl_insC c hC)
  have q1 : nI N - 1 = nI (N - 1) := pk_sub (b := 1) (by omega)
  rw [q1, nI_clamp (by omega)]
  refine ⟨vp_in_nI (by omega) (by omega), nm_e ⟨_, key (2 * N - 1) 2 0 (by omega) (by omega) _ ?_ (fun i hi => by omega)⟩⟩
  have z0 : upd (upd a3 0 (a1 0)) 1 (a1 (N - 1)) 0 = a1 0 := (pk_un (by omega)).trans pk_us
  have z1 : upd (upd a3 0 (a1 0)) 1 (a1 (N - 1)) 1 = a1 (N - 1) := pk_us
  have mE : gm_E S (a1 (N - 1)) := by
    refine ⟨-64, -1, fun r hr hn => ?_⟩
    obtain ⟨i, hi, e⟩ := (hI.2.2 r).mp hr
    have ne : i ≠ N - 1 := fun z => hn (by rw [← e, z])
    have := hI.2.1 i (N - 1) (by omega) (by omega)
    rw [← e]
    have e : gm_ph (-64) (-1) (a1 (N - 1)) (a1 i) = gm_la (a1 (N - 1)) - gm_la (a1 i) := by unfold gm_ph gm_la; grind
    omega
  refine ⟨by omega, z0.symm ▸ mn, fun i hi => ?_, fun i h1 hi => ?_, fun i j h1 h2 h3 => by omega⟩
  · by_cases ei : i = 0
    · rw [ei, z0]; exact ⟨mn.1, gm_mnE mn⟩
    · rw [show i = 1 by omega, z1]; exact ⟨(hI.2.2 _).mpr ⟨N - 1, by omega, rfl⟩, mE⟩
  · rw [show i = 1 by omega, z0, z1]
    intro e
    have := hI.2.1 0 (N - 1) (by omega) (by omega)
    rw [e] at this
    omega
end
section
theorem gr_nx {S : Int32 → Prop} {L : Nat → Int32} {n : Nat} (h : gm_cyc S L n) {i : Nat} (hi : i < n) : gm_nx S (L i) (L (sl_f i n)) := by
  unfold sl_f
  by_cases c : i + 1 < n
  · rw [if_pos c]; exact (h.2.2.1 i c).1
  · rw [if_neg c]
    have := h.2.2.2
    rw [show n - 1 = i by omega] at this
    exact this
theorem gr_pE {S : Int32 → Prop} {p : Int32} (hl : ∀ r, S r → gm_la r < gm_la p) : ∀ r, (S r ∨ r = p) → r ≠ p → 0 < gm_ph (-64) (-1) p r := by
  intro r hr hn
  have e : gm_ph (-64) (-1) p r = gm_la p - gm_la r := by unfold gm_ph gm_la; grind
  rcases hr with hr | hr
  · have := hl r hr; omega
  · exact absurd hr hn
theorem gr_ns {S : Int32 → Prop} {p u v : Int32} (hl : ∀ r, S r → gm_la r < gm_la p) (hu : S u) (hv : S v) (h : gm_tr u v p ≤ 0) : ¬ gm_N u v p := by
  intro hn
  have h1 := hn.1
  have h2 := hn.2 (by omega)
  have ne : ∀ r, S r → r ≠ p := fun r hr e => by have := hl r hr; rw [e] at this; omega
  have := gm_col (gr_pE hl u (Or.inl hu) (ne u hu)) (gr_pE hl v (Or.inl hv) (ne v hv)) (by rw [← gm_rot]; omega)
  omega
/-- a new last point: it takes the place of all between the first and the last side that it sees -/
theorem gr_step {S : Int32 → Prop} (hS : ∀ r, S r → gm_P r) {L M : Nat → Int32} {n f l : Nat} {p : Int32} (h : gm_cyc S L n) (hp : gm_P p) (hl : ∀ r, S r → gm_la r < gm_la p) (hfl : f ≤ l) (hln : l < n)
    (sf : gm_tr (L f) (L (sl_f f n)) p ≤ 0) (sl : gm_tr (L l) (L (sl_f l n)) p ≤ 0) (uf : ∀ i, i < f → 0 < gm_tr (L i) (L (sl_f i n)) p) (ul : ∀ i, l < i → i < n → 0 < gm_tr (L i) (L (sl_f i n)) p)
    (e1 : ∀ i, i ≤ f → M i = L i) (e2 : M (f + 1) = p) (e3 : ∀ i, l < i → i < n → M (i - l + f + 1) = L i) : gm_cyc (fun r => S r ∨ r = p) M (n - l + f + 1) := by
  have hS' : ∀ r, (S r ∨ r = p) → gm_P r := fun r hr => hr.elim (hS r) (fun e => e ▸ hp)
  have hs := fun i (hi : i < n) => gm_cS h hi
  have mn' : gm_mn (fun r => S r ∨ r = p) (L 0) := by
    refine ⟨Or.inl h.2.1.1, fun r hr hn => ?_⟩
    rcases hr with hr | hr
    · exact h.2.1.2 r hr hn
    · rw [hr]; exact hl _ h.2.1.1
  have p0 : p ≠ L 0 := fun e => by have := hl _ h.2.1.1; rw [e] at this; omega
  have fn : ∀ i, i < n → sl_f i n < n := fun i hi => by unfold sl_f; split <;> omega
  have A : ∀ i, i < n → 0 < gm_tr (L i) (L (sl_f i n)) p → gm_nx (fun r => S r ∨ r = p) (L i) (L (sl_f i n)) := by
    intro i hi ht
    have q := gr_nx h hi
    refine ⟨Or.inl q.1, fun r hr => ?_⟩
    rcases hr with hr | hr
    · exact q.2 r hr
    · rw [hr]; exact ⟨Int.le_of_lt ht, fun z => by omega⟩
  have sf1 : ∀ i, i + 1 < n → sl_f i n = i + 1 := fun i hi => by unfold sl_f; rw [if_pos hi]
  have sf0 : sl_f (n - 1) n = 0 := by unfold sl_f; rw [if_neg (by omega)]
  have Ef : gm_E (fun r => S r ∨ r = p) (L f) := by
    cases f with
    | zero => exact gm_mnE mn'
    | succ f =>
      have q := A f (by omega) (uf f (by omega))
      rw [sf1 f (by omega)] at q
      exact gm_nxE hS' (hS _ (hs f (by omega))) q
  have El : gm_E (fun r => S r ∨ r = p) (L (sl_f l n)) := by
    by_cases c : l + 1 < n
    · rw [sf1 l c]
      exact gm_nxP hS' (hS _ (hs (l + 1) c)) (A (l + 1) c (ul (l + 1) (by omega) c))
    · rw [show l = n - 1 by omega, sf0]; exact gm_mnE mn'
  have B : gm_nx (fun r => S r ∨ r = p) (L f) p := by
    have q := gr_nx h (i := f) (by omega)
    refine ⟨Or.inr rfl, fun r hr => gm_N1.mpr ?_⟩
    exact gm_stp (Or.inl rfl) hS (hS _ (hs f (by omega))) Ef (Or.inl q.1) (hS _ q.1) (fun r hr => gm_N1.mp (q.2 r hr)) (fun z => gr_ns hl (hs f (by omega)) q.1 sf (gm_N1.mpr z)) r hr
  have C : gm_nx (fun r => S r ∨ r = p) p (L (sl_f l n)) := by
    have q := gr_nx h (i := l) (by omega)
    refine ⟨Or.inl q.1, fun r hr => gm_Nm.mpr ?_⟩
    exact gm_stp (Or.inr rfl) hS (hS _ q.1) El (Or.inl (hs l hln)) (hS _ (hs l hln)) (fun r hr => gm_Nm.mp (q.2 r hr)) (fun z => gr_ns hl (hs l hln) q.1 sl (gm_Nm.mpr z)) r hr
  have m0 : M 0 = L 0 := e1 0 (by omega)
  refine ⟨by omega, m0.symm ▸ mn', fun i hi => ?_, ?_⟩
  · rw [m0]
    rcases Nat.lt_trichotomy i f with c | c | c
    · rw [e1 i (by omega), e1 (i + 1) (by omega)]
      have q := A i (by omega) (uf i c)
      rw [sf1 i (by omega)] at q
      exact ⟨q, (h.2.2.1 i (by omega)).2⟩
    · rw [e1 i (by omega), c, e2]; exact ⟨B, p0⟩
    · by_cases d : i = f + 1
      · rw [d, e2, show f + 1 + 1 = l + 1 - l + f + 1 by omega, e3 (l + 1) (by omega) (by omega)]
        rw [sf1 l (by omega)] at C
        exact ⟨C, (h.2.2.1 l (by omega)).2⟩
      · obtain ⟨j, rfl, hj⟩ : ∃ j, i = j - l + f + 1 ∧ l < j := ⟨i + l - f - 1, by omega⟩
        rw [show j - l + f + 1 + 1 = (j + 1) - l + f + 1 by omega, e3 j hj (by omega), e3 (j + 1) (by omega) (by omega)]
        have q := A j (by omega) (ul j hj (by omega))
        rw [sf1 j (by omega)] at q
        exact ⟨q, (h.2.2.1 j (by omega)).2⟩
  · rw [m0]
    by_cases c : l = n - 1
    · rw [c, sf0] at C
      rw [show n - l + f + 1 - 1 = f + 1 by omega, e2]
      exact C
    · have q := A (n - 1) (by omega) (ul (n - 1) (by omega) (by omega))
      rw [sf0] at q
      rw [show n - l + f + 1 - 1 = (n - 1) - l + f + 1 by omega, e3 (n - 1) (by omega) (by omega)]
      exact q
theorem gr_seen {S : Int32 → Prop} (hS : ∀ r, S r → gm_P r) {L : Nat → Int32} {n : Nat} {p : Int32} (h : gm_cyc S L n) (hp : gm_P p) (hl : ∀ r, S r → gm_la r < gm_la p) (u : ∀ i, i < n → 0 < gm_tr (L i) (L (sl_f i n)) p) : False := by
  have hS' : ∀ r, (S r ∨ r = p) → gm_P r := fun r hr => hr.elim (hS r) (fun e => e ▸ hp)
  have A : ∀ i, i < n → gm_nx (fun r => S r ∨ r = p) (L i) (L (sl_f i n)) := by
    intro i hi
    have q := gr_nx h hi
    refine ⟨Or.inl q.1, fun r hr => ?_⟩
    rcases hr with hr | hr
    · exact q.2 r hr
    · have := u i hi
      rw [hr]; exact ⟨Int.le_of_lt this, fun z => by omega⟩
  have n0 := h.1
  have c : gm_cyc (fun r => S r ∨ r = p) L n := by
    refine ⟨n0, ⟨Or.inl h.2.1.1, fun r hr hn => ?_⟩, fun i hi => ?_, ?_⟩
    · rcases hr with hr | hr
      · exact h.2.1.2 r hr hn
      · rw [hr]; exact hl _ h.2.1.1
    · have q := A i (by omega)
      unfold sl_f at q
      rw [if_pos hi] at q
      exact ⟨q, (h.2.2.1 i hi).2⟩
    · have q := A (n - 1) (by omega)
      unfold sl_f at q
      rw [if_neg (by omega)] at q
      exact q
  obtain ⟨i, hi, e⟩ := gm_call hS' c (p := p) (Or.inr rfl) ⟨-64, -1, fun r hr hn => gr_pE hl r hr hn⟩
  have := hl _ (gm_cS h hi)
  rw [e] at this
  omega
def gr_s (L : Nat → Int32) (f d i : Nat) : Nat → Int32 := fun j => if f + 1 ≤ j ∧ j + d < i then L (j + d) else L j
theorem gr_s0 (L : Nat → Int32) (f d i : Nat) (h : i ≤ f + 1 + d) : gr_s L f d i = L := by
  funext j
  unfold gr_s
  rw [if_neg (by omega)]
theorem gr_ss (L : Nat → Int32) {f d i : Nat} (h : f + 1 + d ≤ i) : upd (gr_s L f d i) (i - d) (gr_s L f d i i) = gr_s L f d (i + 1) := by
  funext j
  unfold gr_s upd
  dsimp only
  by_cases e : j = i - d
  · rw [if_pos e, if_neg (by omega), if_pos (by omega), e, show i - d + d = i by omega]
  · rw [if_neg e]
    by_cases c : f + 1 ≤ j ∧ j + d < i
    · rw [if_pos c, if_pos (by omega)]
    · rw [if_neg c, if_neg (by omega)]
theorem wx_growBy_ring {post : Int32 → SX → Prop} {fp fs : Int32} {a0 a1 a2 a3 : Nat → Int32} {S : Int32 → Prop} {n : Nat} {p : Int32} (hn : n < 24) (hS : ∀ r, S r → gm_P r) (hp : gm_P p) (hl : ∀ r, S r → gm_la r < gm_la p)
    (hc : n = 0 ∧ (∀ r, ¬ S r) ∨ gm_cyc S a2 n) (h : ∀ m L, m ≤ n + 1 → gm_cyc (fun r => S r ∨ r = p) L m → post (nI m) (fp, fs, a0, a1, L, a3)) : wpX_growBy__ring post (fp, fs, a0, a1, a2, a3) (nI n) p := by
  rcases hc with ⟨n0, hno⟩ | hc
  · subst n0
    refine ⟨1, br_t (by decide) (nm_r (show (-1 : Int32) - (-1) = nI 0 from rfl) (nm_r (show (-1 : Int32) + 1 = nI 0 from rfl) ⟨1, br_t (by decide) ?_⟩))⟩
    refine wx_ins_ring (n := 0) (k := 0) (by omega) (by omega) (h 1 _ (by omega) ?_)
    have e : ar_ins a2 0 0 p 0 = p := by unfold ar_ins; rw [if_neg (by omega), if_pos rfl]
    refine ⟨by omega, ⟨Or.inr e, fun r hr hn => absurd (hr.elim (fun q => absurd q (hno r)) id) (e ▸ hn)⟩, fun i hi => by omega, ⟨Or.inr e, fun r hr => ?_⟩⟩
    show gm_N (ar_ins a2 0 0 p 0) (ar_ins a2 0 0 p 0) r
    rw [e, hr.elim (fun q => absurd q (hno r)) id]
    exact gm_N1.mpr (gm_rc 1 _ _)
  have n0 := hc.1
  have hs := fun i (hi : i < n) => hS _ (gm_cS hc hi)
  have fn : ∀ i, i < n → sl_f i n < n := fun i hi => by unfold sl_f; split <;> omega
  have fin : ∀ f l, f ≤ l → l < n → gm_tr (a2 f) (a2 (sl_f f n)) p ≤ 0 → gm_tr (a2 l) (a2 (sl_f l n)) p ≤ 0 → (∀ i, i < f → 0 < gm_tr (a2 i) (a2 (sl_f i n)) p) → (∀ i, l < i → i < n → 0 < gm_tr (a2 i) (a2 (sl_f i n)) p) →
      ∃ n71 : Nat, wX_growBy__ring_71 post (nI n) p (nI f) (nI (l - f)) fp fs n71 (nI (l + 1)) a0 a1 a2 a3 := by
    intro f l hfl hln sf sl uf ul
    have key : ∀ d i, i + d = n → l + 1 ≤ i → wX_growBy__ring_71 post (nI n) p (nI f) (nI (l - f)) fp fs (d + 1) (nI i) a0 a1 (gr_s a2 f (l - f) i) a3 := by
      intro d
      induction d with
      | zero =>
        intro i hi hl1
        refine br_t (nI_le (by omega) (by omega)) ?_
        rw [pk_sub (a := n) (b := l - f) (by omega), nI_1]
        refine wx_ins_ring (by omega) (by omega) ?_
        rw [show n - (l - f) + 1 = n - l + f + 1 by omega]
        refine h _ _ (by omega) (gr_step hS hc hp hl hfl hln sf sl uf ul (fun j hj => ?_) ?_ (fun j h1 h2 => ?_))
        · unfold ar_ins gr_s; rw [if_pos (by omega), if_neg (by omega)]
        · unfold ar_ins; rw [if_neg (by omega), if_pos rfl]
        · unfold ar_ins gr_s
          rw [if_neg (by omega), if_neg (by omega), if_pos (by omega), if_pos (by omega)]
          congr 1; omega
      | succ d ih =>
        intro i hi hl1
        refine br_f (nI_ge (by omega) (by omega)) ⟨vp_in_nI (by omega) (by omega), ?_⟩
        rw [pk_sub (a := i) (b := l - f) (by omega)]
        refine ⟨vp_in_nI (by omega) (by omega), nm_e (nm_r (nI_1 i) ?_)⟩
        rw [nI_clamp (by omega), nI_clamp (by omega), gr_ss _ (by omega)]
        exact ih (i + 1) (by omega) (by omega)
    have q := key (n - (l + 1)) (l + 1) (by omega) (by omega)
    rw [gr_s0 _ _ _ _ (by omega)] at q
    exact ⟨_, q⟩
  have key : ∀ d i, i + d = n → ∀ x y : Int32, (x = -1 ∧ y = -1 ∧ (∀ j, j < i → 0 < gm_tr (a2 j) (a2 (sl_f j n)) p) ∨ ∃ f l, f ≤ l ∧ l < i ∧ x = nI f ∧ y = nI l ∧ gm_tr (a2 f) (a2 (sl_f f n)) p ≤ 0 ∧ gm_tr (a2 l) (a2 (sl_f l n)) p ≤ 0 ∧ (∀ j, j < f → 0 < gm_tr (a2 j) (a2 (sl_f j n)) p) ∧ (∀ j, l < j → j < i → 0 < gm_tr (a2 j) (a2 (sl_f j n)) p)) →
      wX_growBy__ring_8 post (nI n) p fp fs a0 a1 a2 a3 (d + 1) x y (nI i) := by
    intro d
    induction d with
    | zero =>
      intro i hi x y hxy
      rw [show i = n by omega] at hxy ⊢
      refine br_t (nI_le (Nat.le_refl n) (by omega)) ?_
      rcases hxy with ⟨_, _, u⟩ | ⟨f, l, hfl, hln, rfl, rfl, sf, sl, uf, ul⟩
      · exact absurd (gr_seen hS hc hp hl u) id
      · exact nm_r (pk_sub hfl) (nm_r (nI_1 l) (fin f l hfl hln sf sl uf ul))
    | succ d ih =>
      intro i hi x y hxy
      have Bd := gm_trB (hs i (by omega)) (hs _ (fn i (by omega))) hp
      have e1 := i3_gt0 (i := gm_tr (a2 i) (a2 (sl_f i n)) p) (by omega)
      have fni := fn i (by omega)
      refine br_f (nI_ge (by omega) (by omega)) (wx_following (by omega) (by omega) ?_)
      rw [show (if i + 1 < n then i + 1 else 0) = sl_f i n from rfl]
      refine ⟨vp_in_nI (by omega) (by omega), nm_e ⟨vp_in_nI (by omega) (by omega), wx_turn ?_⟩⟩
      rw [nI_clamp (by omega), nI_clamp (by omega)]
      refine ⟨fun hg => nm_r (nI_1 i) (ih (i + 1) (by omega) x y ?_), fun hg => ⟨fun ex => nm_r (nI_1 i) (ih (i + 1) (by omega) (nI i) (nI i) ?_), fun ex => nm_r (nI_1 i) (ih (i + 1) (by omega) x (nI i) ?_)⟩⟩
      · have hg := e1.mp hg
        rcases hxy with ⟨ex, ey, u⟩ | ⟨f, l, hfl, hln, ex, ey, sf, sl, uf, ul⟩
        · refine Or.inl ⟨ex, ey, fun j hj => ?_⟩
          by_cases ej : j = i
          · rw [ej]; exact hg
          · exact u j (by omega)
        · refine Or.inr ⟨f, l, hfl, by omega, ex, ey, sf, sl, uf, fun j h1 h2 => ?_⟩
          by_cases ej : j = i
          · rw [ej]; exact hg
          · exact ul j h1 (by omega)
      · have hg := mt e1.mpr hg
        rcases hxy with ⟨_, ey, u⟩ | ⟨f, l, hfl, hln, ex', ey, sf, sl, uf, ul⟩
        · exact Or.inr ⟨i, i, Nat.le_refl i, by omega, rfl, rfl, by omega, by omega, u, fun j h1 h2 => by omega⟩
        · rw [ex'] at ex
          have := nI_pos (n := f) (by omega)
          rw [ex] at this
          exact absurd (by decide) this
      · have hg := mt e1.mpr hg
        rcases hxy with ⟨ex', ey, u⟩ | ⟨f, l, hfl, hln, ex', ey, sf, sl, uf, ul⟩
        · exact absurd ex' ex
        · exact Or.inr ⟨f, i, by omega, by omega, ex', rfl, sf, by omega, uf, fun j h1 h2 => by omega⟩
  exact ⟨_, key n 0 (by omega) (-1) (-1) (Or.inl ⟨rfl, rfl, fun j hj => by omega⟩)⟩
theorem wx_grow_ring {post : Int32 → SX → Prop} {fp : Int32} {a0 a1 a2 a3 : Nat → Int32} {S : Int32 → Prop} {N : Nat} (hN : N ≤ 24) (h0 : 0 < N) (hI : sp_I S a1 N)
    (h : ∀ m L, m ≤ 24 → gm_cyc S L m → post (nI m) (fp, nI N, a0, a1, L, a3)) : wpX_grow__ring post (fp, nI N, a0, a1, a2, a3) := by
  have key : ∀ d i, i + d = N → ∀ L n, n ≤ i → (n = 0 ∧ i = 0 ∨ gm_cyc (fun r => ∃ j, j < i ∧ a1 j = r) L n) → wX_grow__ring_4 post (d + 1) (nI n) (nI i) fp (nI N) a0 a1 L a3 := by
    intro d
    induction d with
    | zero =>
      intro i hi L n hn hc
      refine br_t (nI_le (by omega) (by omega)) (h n L (by omega) ?_)
      rcases hc with hc | hc
      · omega
      · have e : S = fun r => ∃ j, j < i ∧ a1 j = r := by
          funext r
          rw [show i = N by omega]
          exact propext (hI.2.2 r)
        rw [e]; exact hc
    | succ d ih =>
      intro i hi L n hn hc
      refine br_f (nI_ge (by omega) (by omega)) ⟨vp_in_nI (by omega) (by omega), ?_⟩
      rw [nI_clamp (by omega)]
      refine wx_growBy_ring (S := fun r => ∃ j, j < i ∧ a1 j = r) (by omega) ?_ (hI.1 i (by omega)) ?_ ?_ (fun m M hm hc' => nm_r (nI_1 i) (ih (i + 1) (by omega) M m (by omega) (Or.inr ?_)))
      · rintro r ⟨j, hj, rfl⟩; exact hI.1 j (by omega)
      · rintro r ⟨j, hj, rfl⟩; exact hI.2.1 j i hj (by omega)
      · rcases hc with ⟨c1, c2⟩ | hc
        · exact Or.inl ⟨c1, fun r ⟨j, hj, _⟩ => by omega⟩
        · exact Or.inr hc
      · have e : (fun r => ∃ j, j < i + 1 ∧ a1 j = r) = fun r => (∃ j, j < i ∧ a1 j = r) ∨ r = a1 i := by
          funext r
          apply propext
          constructor
          · rintro ⟨j, hj, e⟩
            by_cases ej : j = i
            · rw [ej] at e; exact Or.inr e.symm
            · exact Or.inl ⟨j, by omega, e⟩
          · rintro (⟨j, hj, e⟩ | e)
            · exact ⟨j, by omega, e⟩
            · exact ⟨i, by omega, e.symm⟩
        rw [e]; exact hc'
  exact ⟨_, key N 0 (by omega) _ 0 (by omega) (Or.inl ⟨rfl, rfl⟩)⟩
theorem wx_growBy_otherRing {post : Int32 → SX → Prop} {fp fs : Int32} {a0 a1 a2 a3 : Nat → Int32} {S : Int32 → Prop} {n : Nat} {p : Int32} (hn : n < 24) (hS : ∀ r, S r → gm_P r) (hp : gm_P p) (hl : ∀ r, S r → gm_la r < gm_la p)
    (hc : n = 0 ∧ (∀ r, ¬ S r) ∨ gm_cyc S a3 n) (h : ∀ m L, m ≤ n + 1 → gm_cyc (fun r => S r ∨ r = p) L m → post (nI m) (fp, fs, a0, a1, a2, L)) : wpX_growBy__otherRing post (fp, fs, a0, a1, a2, a3) (nI n) p := by
  rcases hc with ⟨n0, hno⟩ | hc
  · subst n0
    refine ⟨1, br_t (by decide) (nm_r (show (-1 : Int32) - (-1) = nI 0 from rfl) (nm_r (show (-1 : Int32) + 1 = nI 0 from rfl) ⟨1, br_t (by decide) ?_⟩))⟩
    refine wx_ins_otherRing (n := 0) (k := 0) (by omega) (by omega) (h 1 _ (by omega) ?_)
    have e : ar_ins a3 0 0 p 0 = p := by unfold ar_ins; rw [if_neg (by omega), if_pos rfl]
    refine ⟨by omega, ⟨Or.inr e, fun r hr hn => absurd (hr.elim (fun q => absurd q (hno r)) id) (e ▸ hn)⟩, fun i hi => by omega, ⟨Or.inr e, fun r hr => ?_⟩⟩
    show gm_N (ar_ins a3 0 0 p 0) (ar_ins a3 0 0 p 0) r
    rw [e, hr.elim (fun q => absurd q (hno r)) id]
    exact gm_N1.mpr (gm_rc 1 _ _)
  have n0 := hc.1
  have hs := fun i (hi : i < n) => hS _ (gm_cS hc hi)
  have fn : ∀ i, i < n → sl_f i n < n := fun i hi => by unfold sl_f; split <;> omega
  have fin : ∀ f l, f ≤ l → l < n → gm_tr (a3 f) (a3 (sl_f f n)) p ≤ 0 → gm_tr (a3 l) (a3 (sl_f l n)) p ≤ 0 → (∀ i, i < f → 0 < gm_tr (a3 i) (a3 (sl_f i n)) p) → (∀ i, l < i → i < n → 0 < gm_tr (a3 i) (a3 (sl_f i n)) p) →
      ∃ n71 : Nat, wX_growBy__otherRing_71 post (nI n) p (nI f) (nI (l - f)) fp fs n71 (nI (l + 1)) a0 a1 a2 a3 := by
    intro f l hfl hln sf sl uf ul
    have key : ∀ d i, i + d = n → l + 1 ≤ i → wX_growBy__otherRing_71 post (nI n) p (nI f) (nI (l - f)) fp fs (d + 1) (nI i) a0 a1 a2 (gr_s a3 f (l - f) i) := by
      intro d
      induction d with
      | zero =>
        intro i hi hl1
        refine br_t (nI_le (by omega) (by omega)) ?_
        rw [pk_sub (a := n) (b := l - f) (by omega), nI_1]
        refine wx_ins_otherRing (by omega) (by omega) ?_
        rw [show n - (l - f) + 1 = n - l + f + 1 by omega]
        refine h _ _ (by omega) (gr_step hS hc hp hl hfl hln sf sl uf ul (fun j hj => ?_) ?_ (fun j h1 h2 => ?_))
        · unfold ar_ins gr_s; rw [if_pos (by omega), if_neg (by omega)]
        · unfold ar_ins; rw [if_neg (by omega), if_pos rfl]
        · unfold ar_ins gr_s
          rw [if_neg (by omega), if_neg (by omega), if_pos (by omega), if_pos (by omega)]
          congr 1; omega
      | succ d ih =>
        intro i hi hl1
        refine br_f (nI_ge (by omega) (by omega)) ⟨vp_in_nI (by omega) (by omega), ?_⟩
        rw [pk_sub (a := i) (b := l - f) (by omega)]
        refine ⟨vp_in_nI (by omega) (by omega), nm_e (nm_r (nI_1 i) ?_)⟩
        rw [nI_clamp (by omega), nI_clamp (by omega), gr_ss _ (by omega)]
        exact ih (i + 1) (by omega) (by omega)
    have q := key (n - (l + 1)) (l + 1) (by omega) (by omega)
    rw [gr_s0 _ _ _ _ (by omega)] at q
    exact ⟨_, q⟩
  have key : ∀ d i, i + d = n → ∀ x y : Int32, (x = -1 ∧ y = -1 ∧ (∀ j, j < i → 0 < gm_tr (a3 j) (a3 (sl_f j n)) p) ∨ ∃ f l, f ≤ l ∧ l < i ∧ x = nI f ∧ y = nI l ∧ gm_tr (a3 f) (a3 (sl_f f n)) p ≤ 0 ∧ gm_tr (a3 l) (a3 (sl_f l n)) p ≤ 0 ∧ (∀ j, j < f → 0 < gm_tr (a3 j) (a3 (sl_f j n)) p) ∧ (∀ j, l < j → j < i → 0 < gm_tr (a3 j) (a3 (sl_f j n)) p)) →
      wX_growBy__otherRing_8 post (nI n) p fp fs a0 a1 a2 a3 (d + 1) x y (nI i) := by
    intro d
    induction d with
    | zero =>
      intro i hi x y hxy
      rw [show i = n by omega] at hxy ⊢
      refine br_t (nI_le (Nat.le_refl n) (by omega)) ?_
      rcases hxy with ⟨_, _, u⟩ | ⟨f, l, hfl, hln, rfl, rfl, sf, sl, uf, ul⟩
      · exact absurd (gr_seen hS hc hp hl u) id
      · exact nm_r (pk_sub hfl) (nm_r (nI_1 l) (fin f l hfl hln sf sl uf ul))
    | succ d ih =>
      intro i hi x y hxy
      have Bd := gm_trB (hs i (by omega)) (hs _ (fn i (by omega))) hp
      have e1 := i3_gt0 (i := gm_tr (a3 i) (a3 (sl_f i n)) p) (by omega)
      have fni := fn i (by omega)
      refine br_f (nI_ge (by omega) (by omega)) (wx_following (by omega) (by omega) ?_)
      rw [show (if i + 1 < n then i + 1 else 0) = sl_f i n from rfl]
      refine ⟨vp_in_nI (by omega) (by omega), nm_e ⟨vp_in_nI (by omega) (by omega), wx_turn ?_⟩⟩
      rw [nI_clamp (by omega), nI_clamp (by omega)]
      refine ⟨fun hg => nm_r (nI_1 i) (ih (i + 1) (by omega) x y ?_), fun hg => ⟨fun ex => nm_r (nI_1 i) (ih (i + 1) (by omega) (nI i) (nI i) ?_), fun ex => nm_r (nI_1 i) (ih (i + 1) (by omega) x (nI i) ?_)⟩⟩
      · have hg := e1.mp hg
        rcases hxy with ⟨ex, ey, u⟩ | ⟨f, l, hfl, hln, ex, ey, sf, sl, uf, ul⟩
        · refine Or.inl ⟨ex, ey, fun j hj => ?_⟩
          by_cases ej : j = i
          · rw [ej]; exact hg
          · exact u j (by omega)
        · refine Or.inr ⟨f, l, hfl, by omega, ex, ey, sf, sl, uf, fun j h1 h2 => ?_⟩
          by_cases ej : j = i
          · rw [ej]; exact hg
          · exact ul j h1 (by omega)
      · have hg := mt e1.mpr hg
        rcases hxy with ⟨_, ey, u⟩ | ⟨f, l, hfl, hln, ex', ey, sf, sl, uf, ul⟩
        · exact Or.inr ⟨i, i, Nat.le_refl i, by omega, rfl, rfl, by omega, by omega, u, fun j h1 h2 => by omega⟩
        · rw [ex'] at ex
          have := nI_pos (n := f) (by omega)
          rw [ex] at this
          exact absurd (by decide) this
      · have hg := mt e1.mpr hg
        rcases hxy with ⟨ex', ey, u⟩ | ⟨f, l, hfl, hln, ex', ey, sf, sl, uf, ul⟩
        · exact absurd ex' ex
        · exact Or.inr ⟨f, i, by omega, by omega, ex', rfl, sf, by omega, uf, fun j h1 h2 => by omega⟩
  exact ⟨_, key n 0 (by omega) (-1) (-1) (Or.inl ⟨rfl, rfl, fun j hj => by omega⟩)⟩
theorem wx_grow_otherRing {post : Int32 → SX → Prop} {fp : Int32} {a0 a1 a2 a3 : Nat → Int32} {S : Int32 → Prop} {N : Nat} (hN : N ≤ 24) (h0 : 0 < N) (hI : sp_I S a1 N)
    (h : ∀ m L, m ≤ 24 → gm_cyc S L m → post (nI m) (fp, nI N, a0, a1, a2, L)) : wpX_grow__otherRing post (fp, nI N, a0, a1, a2, a3) := by
  have key : ∀ d i, i + d = N → ∀ L n, n ≤ i → (n = 0 ∧ i = 0 ∨ gm_cyc (fun r => ∃ j, j < i ∧ a1 j = r) L n) → wX_grow__otherRing_4 post (d + 1) (nI n) (nI i) fp (nI N) a0 a1 a2 L := by
    intro d
    induction d with
    | zero =>
      intro i hi L n hn hc
      refine br_t (nI_le (by omega) (by omega)) (h n L (by omega) ?_)
      rcases hc with hc | hc
      · omega
      · have e : S = fun r => ∃ j, j < i ∧ a1 j = r := by
          funext r
          rw [show i = N by omega]
          exact propext (hI.2.2 r)
        rw [e]; exact hc
    | succ d ih =>
      intro i hi L n hn hc
      refine br_f (nI_ge (by omega) (by omega)) ⟨vp_in_nI (by omega) (by omega), ?_⟩
      rw [nI_clamp (by omega)]
      refine wx_growBy_otherRing (S := fun r => ∃ j, j < i ∧ a1 j = r) (by omega) ?_ (hI.1 i (by omega)) ?_ ?_ (fun m M hm hc' => nm_r (nI_1 i) (ih (i + 1) (by omega) M m (by omega) (Or.inr ?_)))
      · rintro r ⟨j, hj, rfl⟩; exact hI.1 j (by omega)
      · rintro r ⟨j, hj, rfl⟩; exact hI.2.1 j i hj (by omega)
      · rcases hc with ⟨c1, c2⟩ | hc
        · exact Or.inl ⟨c1, fun r ⟨j, hj, _⟩ => by omega⟩
        · exact Or.inr hc
      · have e : (fun r => ∃ j, j < i + 1 ∧ a1 j = r) = fun r => (∃ j, j < i ∧ a1 j = r) ∨ r = a1 i := by
          funext r
          apply propext
          constructor
          · rintro ⟨j, hj, e⟩
            by_cases ej : j = i
            · rw [ej] at e; exact Or.inr e.symm
            · exact Or.inl ⟨j, by omega, e⟩
          · rintro (⟨j, hj, e⟩ | e)
            · exact ⟨j, by omega, e⟩
            · exact ⟨i, by omega, e.symm⟩
        rw [e]; exact hc'
  exact ⟨_, key N 0 (by omega) _ 0 (by omega) (Or.inl ⟨rfl, rfl⟩)⟩
end
section
theorem gm_Fi {f t r : Int32} (hf : gm_P f) (ht : gm_P t) (hr : gm_P r) (ne : t ≠ f) : gm_F f t r ↔ (0 ≤ gm_tr f t r ∧ (gm_tr f t r = 0 → r ≠ f → 0 < gm_dt f t r)) := by
  constructor
  · intro h
    refine ⟨h.1, fun z hn => ?_⟩
    have h2 := h.2 z
    by_cases z2 : gm_dt f t r = 0
    · have e : gm_sq t f * gm_sq r f = gm_tr f t r * gm_tr f t r + gm_dt f t r * gm_dt f t r := by unfold gm_sq gm_tr gm_dt; grind
      rw [z, z2, Int.mul_zero] at e
      rcases Int.mul_eq_zero.mp (e.trans (Int.zero_add 0)) with e1 | e1
      · exact absurd (gm_sq0 ht hf (by omega)) ne
      · exact absurd (gm_sq0 hr hf (by omega)) hn
    · omega
  · intro h
    refine ⟨h.1, fun z => ?_⟩
    by_cases c : r = f
    · rw [c]; unfold gm_dt; grind
    · exact Int.le_of_lt (h.2 z c)
theorem wx_all {post : Int32 → Prop} {fp : Int32} {a0 a1 a2 a3 : Nat → Int32} {S : Int32 → Prop} {N : Nat} {f t : Int32} (hN : N ≤ 24) (hI : sp_I S a1 N) (hf : gm_P f) (ht : gm_P t) (ne : t ≠ f)
    (h1 : (∀ r, S r → gm_F f t r) → post 1) (h0 : (∃ r, S r ∧ ¬ gm_F f t r) → post 0) : wpX_allLeftOrAhead post (fp, nI N, a0, a1, a2, a3) f t := by
  have key : ∀ d i, i + d = N → (∀ j, j < i → gm_F f t (a1 j)) → wX_allLeftOrAhead_2 post f t fp (nI N) a0 a1 a2 a3 (d + 1) (nI i) := by
    intro d
    induction d with
    | zero =>
      intro i hi hF
      refine br_t (nI_le (by omega) (by omega)) (h1 fun r hr => ?_)
      obtain ⟨j, hj, e⟩ := (hI.2.2 r).mp hr
      rw [← e]; exact hF j (by omega)
    | succ d ih =>
      intro i hi hF
      have vin : vp_in (nI i) 24 := vp_in_nI (by omega) (by omega)
      have hP := hI.1 i (by omega)
      have hSi : S (a1 i) := (hI.2.2 _).mpr ⟨i, by omega, rfl⟩
      have Bd := gm_trB hf ht hP
      have e1 := i3_lt0 (i := gm_tr f t (a1 i)) (by omega)
      have e2 := i3_eq0 (i := gm_tr f t (a1 i)) (by omega)
      have fi := gm_Fi hf ht hP ne
      have good : gm_F f t (a1 i) → wX_allLeftOrAhead_2 post f t fp (nI N) a0 a1 a2 a3 (d + 1) (nI (i + 1)) := by
        intro hg
        refine ih (i + 1) (by omega) fun j hj => ?_
        by_cases ej : j = i
        · rw [ej]; exact hg
        · exact hF j (by omega)
      have j56 : (¬ gm_tr f t (a1 i) < 0 → gm_F f t (a1 i)) → wX_allLeftOrAhead_56 post (wX_allLeftOrAhead_2 post f t fp (nI N) a0 a1 a2 a3 (d + 1)) f t (nI i) (Int32.ofInt (gm_tr f t (a1 i))) fp (nI N) a0 a1 a2 a3 := by
        intro hg
        refine ⟨fun hl => h0 ⟨_, hSi, fun q => ?_⟩, fun hl => br_t rfl (nm_r (nI_1 i) (good (hg (mt e1.mpr hl))))⟩
        have := e1.mp hl
        have := q.1
        omega
      refine br_f (nI_ge (by omega) (by omega)) ⟨vin, wx_turn ?_⟩
      rw [nI_clamp (by omega)]
      refine ⟨fun hz => ⟨vin, fun he => j56 fun hl => ?_, fun he => ⟨vin, wx_between ht hP hf (fun hd => br_f (by decide) ?_) (fun hd => br_t rfl (j56 fun hl => ?_))⟩⟩, fun hz => j56 fun hl => ?_⟩
      · have z := e2.mp hz
        exact fi.mpr ⟨by omega, fun _ hn => absurd he hn⟩
      · have z := e2.mp hz
        have nF : ¬ gm_F f t (a1 i) := fun q => by
          have := (fi.mp q).2 z he
          omega
        exact ⟨fun _ => h0 ⟨_, hSi, nF⟩, fun _ => br_f (by decide) (h0 ⟨_, hSi, nF⟩)⟩
      · exact fi.mpr ⟨by omega, fun _ _ => hd⟩
      · have z := mt e2.mpr hz
        exact fi.mpr ⟨by omega, fun q => absurd q z⟩
  exact ⟨_, key N 0 (by omega) (fun j hj => by omega)⟩
/-- an outermost point of several sees all others from one of them on -/
theorem gm_EF {S : Int32 → Prop} {a : Nat → Int32} {N : Nat} (hI : sp_I S a N) {c : Int32} (hc : S c) (hE : gm_E S c) : (∀ r, S r → r = c) ∨ ∃ q, S q ∧ q ≠ c ∧ ∀ r, S r → gm_F c q r := by
  have hS := sp_P hI
  have e : S = fun r => ∃ i, i < N ∧ a i = r := funext fun r => propext (hI.2.2 r)
  obtain ⟨q, hq, h⟩ := gm_nxX (s := 1) (Or.inl rfl) (hS c hc) a N hI.1 (e ▸ hE)
  have h' : ∀ r, S r → gm_N c q r := fun r hr => gm_N1.mpr (h r ((hI.2.2 r).mp hr))
  by_cases ne : q = c
  · refine Or.inl fun r hr => ?_
    have := h' r hr
    rw [ne] at this
    exact gm_uc (hS c hc) (hS r hr) (gm_N1.mp this)
  · have hqS : S q := hq.elim (fun z => absurd z ne) (fun z => (hI.2.2 q).mpr z)
    exact Or.inr ⟨q, hqS, ne, gm_nxF ⟨hqS, h'⟩⟩
theorem wx_stands {post : Int32 → Prop} {fp : Int32} {a0 a1 a2 a3 : Nat → Int32} {S : Int32 → Prop} {N : Nat} {c : Int32} (hN : N ≤ 24) (hI : sp_I S a1 N) (hc : S c)
    (h1 : gm_E S c → post 1) (h0 : ¬ gm_E S c → post 0) : wpX_standsOut post (fp, nI N, a0, a1, a2, a3) c := by
  have hS := sp_P hI
  have key : ∀ d i, i + d = N → (∀ j, j < i → a1 j ≠ c → ∃ r, S r ∧ ¬ gm_F c (a1 j) r) → wX_standsOut_2 post c fp (nI N) a0 a1 a2 a3 (d + 1) (nI i) := by
    intro d
    induction d with
    | zero =>
      intro i hi hF
      refine br_t (nI_le (by omega) (by omega)) (pk_eq N 1 (fun e => h1 ?_) (fun e => h0 ?_))
      · obtain ⟨k, hk, ek⟩ := (hI.2.2 c).mp hc
        refine ⟨0, 0, fun r hr hn => ?_⟩
        obtain ⟨j, hj, ej⟩ := (hI.2.2 r).mp hr
        exact absurd (by rw [← ej, ← ek, show j = k by omega]) hn
      · intro hE
        rcases gm_EF hI hc hE with q | ⟨q, hq, hn, hF'⟩
        · have N2 : 2 ≤ N := by
            obtain ⟨k, hk, ek⟩ := (hI.2.2 c).mp hc
            omega
          have a := q (a1 0) ((hI.2.2 _).mpr ⟨0, by omega, rfl⟩)
          have b := q (a1 1) ((hI.2.2 _).mpr ⟨1, by omega, rfl⟩)
          have := hI.2.1 0 1 (by omega) (by omega)
          rw [a, b] at this
          omega
        · obtain ⟨j, hj, ej⟩ := (hI.2.2 q).mp hq
          obtain ⟨r, hr, hnF⟩ := hF j (by omega) (ej ▸ hn)
          exact hnF (ej ▸ hF' r hr)
    | succ d ih =>
      intro i hi hF
      have vin : vp_in (nI i) 24 := vp_in_nI (by omega) (by omega)
      have hSi : S (a1 i) := (hI.2.2 _).mpr ⟨i, by omega, rfl⟩
      refine br_f (nI_ge (by omega) (by omega)) ⟨vin, ?_⟩
      rw [nI_clamp (by omega)]
      refine ⟨fun e => nm_r (nI_1 i) (ih (i + 1) (by omega) fun j hj hn => ?_), fun e => ⟨vin, wx_all hN hI (hS c hc) (hI.1 i (by omega)) e (fun hall => br_f (by decide) (h1 (gm_FE hS (hS c hc) (hI.1 i (by omega)) e hall))) (fun hno => br_t rfl (nm_r (nI_1 i) (ih (i + 1) (by omega) fun j hj hn => ?_)))⟩⟩
      · by_cases ej : j = i
        · rw [ej] at hn; exact absurd e hn
        · exact hF j (by omega) hn
      · by_cases ej : j = i
        · rw [ej]; exact hno
        · exact hF j (by omega) hn
  exact ⟨_, key N 0 (by omega) (fun j hj => by omega)⟩
/-- corners sorted by direction are the reference's -/
theorem jd_ref {S : Int32 → Prop} (hS : ∀ r, S r → gm_P r) {a L : Nat → Int32} {n : Nat} (h0 : 0 < n) (hm : gm_mn S (a 0)) (hE : ∀ p, (S p ∧ gm_E S p) ↔ ∃ i, i < n ∧ a i = p) (h : sa_I a L n) : gm_ref S L n := by
  obtain ⟨i0, i1, i2, i3, i4⟩ := h
  have hL : ∀ p, (S p ∧ gm_E S p) ↔ ∃ i, i < n ∧ L i = p := by
    intro p
    rw [hE p]
    constructor
    · rintro ⟨i, hi, e⟩
      obtain ⟨k, hk, e'⟩ := i3 i hi
      exact ⟨k, hk, e'.trans e⟩
    · rintro ⟨i, hi, e⟩
      obtain ⟨k, hk, e'⟩ := i2 i hi
      exact ⟨k, hk, e'.symm.trans e⟩
  have hs := fun i (hi : i < n) => (hL _).mpr ⟨i, hi, rfl⟩
  have ne : ∀ i, 0 < i → i < n → L i ≠ L 0 := by
    intro i hi hn e
    have := i4 0 i hi hn
    rw [e, i0] at this
    unfold gm_B at this
    rw [gm_prr] at this
    omega
  refine ⟨hL, fun _ => i0 ▸ hm, ne, fun i j hi hij hj => ?_⟩
  have q := i4 i j hij hj
  have si := hs i (by omega)
  have sj := hs j hj
  rw [sa_B (hS _ si.1) (hS _ sj.1)] at q
  rw [i0]
  rcases q with q | ⟨q, ql⟩
  · exact q
  exfalso
  have li := hm.2 _ si.1 (i0 ▸ ne i hi (by omega))
  have lj := hm.2 _ sj.1 (i0 ▸ ne j (by omega) hj)
  have a1 := gm_Eseg si.2 hm.1 sj.1 (fun e => by rw [e] at li; omega) (fun e => by rw [e] at ql; omega) (by rw [gm_swq]; omega)
  have a2 := (gm_seg (a := 64) (b := 1) (c := a 0) (u := L j) (r := L i) (by rw [gm_phl]; omega) (by rw [gm_phl]; omega) (by rw [gm_swp]; omega)).mpr (by rw [gm_phl, gm_phl]; omega)
  omega
theorem wx_judge_ring {post : Int32 → SX → Prop} {fp : Int32} {a0 a1 a2 a3 : Nat → Int32} {S : Int32 → Prop} {N : Nat} (hN : N ≤ 24) (h0 : 0 < N) (hI : sp_I S a1 N)
    (h : ∀ m L, m ≤ 24 → gm_ref S L m → post (nI m) (fp, nI N, a0, a1, L, a3)) : wpX_judge__ring post (fp, nI N, a0, a1, a2, a3) := by
  have hS := sp_P hI
  have mn := sp_mn hI h0
  have key : ∀ d i, i + d = N → ∀ L n, n ≤ i → (∀ k, k < n → ∃ j, j < i ∧ L k = a1 j ∧ gm_E S (a1 j)) → (∀ j, j < i → gm_E S (a1 j) → ∃ k, k < n ∧ L k = a1 j) → (∀ k k', k < k' → k' < n → gm_la (L k) < gm_la (L k')) → (0 < i → 0 < n ∧ L 0 = a1 0) →
      wX_judge__ring_4 post fp (nI N) (d + 1) (nI n) (nI i) a0 a1 L a3 := by
    intro d
    induction d with
    | zero =>
      intro i hi L n hn c1 c2 c3 c4
      refine br_t (nI_le (by omega) (by omega)) (wx_sort_ring (by omega) (fun k hk => ?_) c3 (fun M hM => h n M (by omega) (jd_ref hS (a := L) (c4 (by omega)).1 ((c4 (by omega)).2 ▸ mn) (fun p => ?_) hM)))
      · obtain ⟨j, hj, e, _⟩ := c1 k hk
        rw [e]; exact hI.1 j (by omega)
      · constructor
        · rintro ⟨hp, hE⟩
          obtain ⟨j, hj, e⟩ := (hI.2.2 p).mp hp
          obtain ⟨k, hk, e'⟩ := c2 j (by omega) (e ▸ hE)
          exact ⟨k, hk, e'.trans e⟩
        · rintro ⟨k, hk, e⟩
          obtain ⟨j, hj, e', hE⟩ := c1 k hk
          have : a1 j = p := e'.symm.trans e
          exact ⟨(hI.2.2 p).mpr ⟨j, by omega, this⟩, this ▸ hE⟩
    | succ d ih =>
      intro i hi L n hn c1 c2 c3 c4
      have hSi : S (a1 i) := (hI.2.2 _).mpr ⟨i, by omega, rfl⟩
      have vin : vp_in (nI i) 24 := vp_in_nI (by omega) (by omega)
      refine br_f (nI_ge (by omega) (by omega)) ⟨vin, ?_⟩
      rw [nI_clamp (n := i) (by omega), nI_clamp (n := n) (by omega)]
      refine wx_stands hN hI hSi (fun hE => br_f (by decide) ⟨vin, vp_in_nI (by omega) (by omega), nm_e (nm_r (nI_1 n) (nm_r (nI_1 i) ?_))⟩) (fun hE => br_t rfl (nm_r (nI_1 i) (ih (i + 1) (by omega) L n (by omega) ?_ ?_ c3 ?_)))
      · refine ih (i + 1) (by omega) _ (n + 1) (by omega) (fun k hk => ?_) (fun j hj hEj => ?_) (fun k k' hkk hk' => ?_) (fun _ => ⟨by omega, ?_⟩)
        · by_cases ek : k = n
          · exact ⟨i, by omega, by rw [ek, pk_us], hE⟩
          · obtain ⟨j, hj, e, q⟩ := c1 k (by omega)
            exact ⟨j, by omega, by rw [pk_un ek, e], q⟩
        · by_cases ej : j = i
          · exact ⟨n, by omega, by rw [pk_us, ej]⟩
          · obtain ⟨k, hk, e⟩ := c2 j (by omega) hEj
            exact ⟨k, by omega, by rw [pk_un (by omega), e]⟩
        · by_cases ek : k' = n
          · rw [ek, pk_us, pk_un (by omega)]
            obtain ⟨j, hj, e, q⟩ := c1 k (by omega)
            rw [e]; exact hI.2.1 j i hj (by omega)
          · rw [pk_un ek, pk_un (by omega)]; exact c3 k k' hkk (by omega)
        · by_cases ei : i = 0
          · rw [show n = 0 by omega, pk_us, ei]
          · obtain ⟨q1, q2⟩ := c4 (by omega)
            rw [pk_un (by omega), q2]
      · intro k hk
        obtain ⟨j, hj, e, q⟩ := c1 k hk
        exact ⟨j, by omega, e, q⟩
      · intro j hj hEj
        by_cases ej : j = i
        · rw [ej] at hEj; exact absurd hEj hE
        · exact c2 j (by omega) hEj
      · intro _
        by_cases ei : i = 0
        · rw [ei] at hE; exact absurd (gm_mnE mn) hE
        · exact c4 (by omega)
  exact ⟨_, key N 0 (by omega) _ 0 (by omega) (fun k hk => by omega) (fun j hj => by omega) (fun k k' _ hk => by omega) (fun q => by omega)⟩
theorem wx_find_ring {post : Int32 → SX → Prop} {fp fs eng : Int32} {a0 a1 a2 a3 : Nat → Int32} (hP : ∀ k, k < 24 → gm_P (a0 k)) (he : en_E eng)
    (h : ∀ m L b f, m ≤ 24 → gm_ref (pl_S fp a0 24) L m → post (nI m) (fp, f, a0, b, L, a3)) : wpX_findCorners__ring post (fp, fs, a0, a1, a2, a3) eng := by
  unfold wpX_findCorners__ring
  refine wx_gather hP (fun b N hN hI => ?_)
  have hS := sp_P hI
  refine pk_eq N 0 (fun e => ?_) (fun e => ?_)
  · refine h 0 _ b _ (by omega) ⟨fun p => ⟨fun hp => ?_, fun ⟨i, hi, _⟩ => by omega⟩, fun q => by omega, fun i _ q => by omega, fun i j _ _ q => by omega⟩
    obtain ⟨i, hi, _⟩ := (hI.2.2 p).mp hp.1
    omega
  have h0 : 0 < N := by omega
  have q0 : ¬ eng < 0 := by
    intro c
    have := Int32.lt_iff_toInt_lt.mp c
    have := he.1
    have z : (0 : Int32).toInt = 0 := rfl
    omega
  refine br_f q0 ⟨fun c => wx_judge_ring hN h0 hI (fun m L hm hr => h m L b _ hm hr), fun c => ⟨fun _ => wx_wrap_ring hN h0 hI (fun m L hm hr => h m L b _ hm (gm_cr hS hr)), fun c0 => ⟨fun _ => wx_chain_ring hN h0 hI (fun m L hm hr => h m L b _ hm (gm_cr hS hr)), fun c1 => ⟨fun _ => wx_scan_ring hN h0 hI (fun m L b' hm hr => h m L b' _ hm (gm_cr hS hr)), fun c2 => ⟨fun _ => wx_split_ring hN h0 hI (fun m L hm hr => h m L b _ hm (gm_cr hS hr)), fun c3 => ⟨fun _ => wx_grow_ring hN h0 hI (fun m L hm hr => h m L b _ hm (gm_cr hS hr)), fun _ => trivial⟩⟩⟩⟩⟩⟩
theorem wx_judge_otherRing {post : Int32 → SX → Prop} {fp : Int32} {a0 a1 a2 a3 : Nat → Int32} {S : Int32 → Prop} {N : Nat} (hN : N ≤ 24) (h0 : 0 < N) (hI : sp_I S a1 N)
    (h : ∀ m L, m ≤ 24 → gm_ref S L m → post (nI m) (fp, nI N, a0, a1, a2, L)) : wpX_judge__otherRing post (fp, nI N, a0, a1, a2, a3) := by
  have hS := sp_P hI
  have mn := sp_mn hI h0
  have key : ∀ d i, i + d = N → ∀ L n, n ≤ i → (∀ k, k < n → ∃ j, j < i ∧ L k = a1 j ∧ gm_E S (a1 j)) → (∀ j, j < i → gm_E S (a1 j) → ∃ k, k < n ∧ L k = a1 j) → (∀ k k', k < k' → k' < n → gm_la (L k) < gm_la (L k')) → (0 < i → 0 < n ∧ L 0 = a1 0) →
      wX_judge__otherRing_4 post fp (nI N) (d + 1) (nI n) (nI i) a0 a1 a2 L := by
    intro d
    induction d with
    | zero =>
      intro i hi L n hn c1 c2 c3 c4
      refine br_t (nI_le (by omega) (by omega)) (wx_sort_otherRing (by omega) (fun k hk => ?_) c3 (fun M hM => h n M (by omega) (jd_ref hS (a := L) (c4 (by omega)).1 ((c4 (by omega)).2 ▸ mn) (fun p => ?_) hM)))
      · obtain ⟨j, hj, e, _⟩ := c1 k hk
        rw [e]; exact hI.1 j (by omega)
      · constructor
        · rintro ⟨hp, hE⟩
          obtain ⟨j, hj, e⟩ := (hI.2.2 p).mp hp
          obtain ⟨k, hk, e'⟩ := c2 j (by omega) (e ▸ hE)
          exact ⟨k, hk, e'.trans e⟩
        · rintro ⟨k, hk, e⟩
          obtain ⟨j, hj, e', hE⟩ := c1 k hk
          have : a1 j = p := e'.symm.trans e
          exact ⟨(hI.2.2 p).mpr ⟨j, by omega, this⟩, this ▸ hE⟩
    | succ d ih =>
      intro i hi L n hn c1 c2 c3 c4
      have hSi : S (a1 i) := (hI.2.2 _).mpr ⟨i, by omega, rfl⟩
      have vin : vp_in (nI i) 24 := vp_in_nI (by omega) (by omega)
      refine br_f (nI_ge (by omega) (by omega)) ⟨vin, ?_⟩
      rw [nI_clamp (n := i) (by omega), nI_clamp (n := n) (by omega)]
      refine wx_stands hN hI hSi (fun hE => br_f (by decide) ⟨vin, vp_in_nI (by omega) (by omega), nm_e (nm_r (nI_1 n) (nm_r (nI_1 i) ?_))⟩) (fun hE => br_t rfl (nm_r (nI_1 i) (ih (i + 1) (by omega) L n (by omega) ?_ ?_ c3 ?_)))
      · refine ih (i + 1) (by omega) _ (n + 1) (by omega) (fun k hk => ?_) (fun j hj hEj => ?_) (fun k k' hkk hk' => ?_) (fun _ => ⟨by omega, ?_⟩)
        · by_cases ek : k = n
          · exact ⟨i, by omega, by rw [ek, pk_us], hE⟩
          · obtain ⟨j, hj, e, q⟩ := c1 k (by omega)
            exact ⟨j, by omega, by rw [pk_un ek, e], q⟩
        · by_cases ej : j = i
          · exact ⟨n, by omega, by rw [pk_us, ej]⟩
          · obtain ⟨k, hk, e⟩ := c2 j (by omega) hEj
            exact ⟨k, by omega, by rw [pk_un (by omega), e]⟩
        · by_cases ek : k' = n
          · rw [ek, pk_us, pk_un (by omega)]
            obtain ⟨j, hj, e, q⟩ := c1 k (by omega)
            rw [e]; exact hI.2.1 j i hj (by omega)
          · rw [pk_un ek, pk_un (by omega)]; exact c3 k k' hkk (by omega)
        · by_cases ei : i = 0
          · rw [show n = 0 by omega, pk_us, ei]
          · obtain ⟨q1, q2⟩ := c4 (by omega)
            rw [pk_un (by omega), q2]
      · intro k hk
        obtain ⟨j, hj, e, q⟩ := c1 k hk
        exact ⟨j, by omega, e, q⟩
      · intro j hj hEj
        by_cases ej : j = i
        · rw [ej] at hEj; exact absurd hEj hE
        · exact c2 j (by omega) hEj
      · intro _
        by_cases ei : i = 0
        · rw [ei] at hE; exact absurd (gm_mnE mn) hE
        · exact c4 (by omega)
  exact ⟨_, key N 0 (by omega) _ 0 (by omega) (fun k hk => by omega) (fun j hj => by omega) (fun k k' _ hk => by omega) (fun q => by omega)⟩
theorem wx_find_otherRing {post : Int32 → SX → Prop} {fp fs eng : Int32} {a0 a1 a2 a3 : Nat → Int32} (hP : ∀ k, k < 24 → gm_P (a0 k)) (he : en_E eng)
    (h : ∀ m L b f, m ≤ 24 → gm_ref (pl_S fp a0 24) L m → post (nI m) (fp, f, a0, b, a2, L)) : wpX_findCorners__otherRing post (fp, fs, a0, a1, a2, a3) eng := by
  unfold wpX_findCorners__otherRing
  refine wx_gather hP (fun b N hN hI => ?_)
  have hS := sp_P hI
  refine pk_eq N 0 (fun e => ?_) (fun e => ?_)
  · refine h 0 _ b _ (by omega) ⟨fun p => ⟨fun hp => ?_, fun ⟨i, hi, _⟩ => by omega⟩, fun q => by omega, fun i _ q => by omega, fun i j _ _ q => by omega⟩
    obtain ⟨i, hi, _⟩ := (hI.2.2 p).mp hp.1
    omega
  have h0 : 0 < N := by omega
  have q0 : ¬ eng < 0 := by
    intro c
    have := Int32.lt_iff_toInt_lt.mp c
    have := he.1
    have z : (0 : Int32).toInt = 0 := rfl
    omega
  refine br_f q0 ⟨fun c => wx_judge_otherRing hN h0 hI (fun m L hm hr => h m L b _ hm hr), fun c => ⟨fun _ => wx_wrap_otherRing hN h0 hI (fun m L hm hr => h m L b _ hm (gm_cr hS hr)), fun c0 => ⟨fun _ => wx_chain_otherRing hN h0 hI (fun m L hm hr => h m L b _ hm (gm_cr hS hr)), fun c1 => ⟨fun _ => wx_scan_otherRing hN h0 hI (fun m L b' hm hr => h m L b' _ hm (gm_cr hS hr)), fun c2 => ⟨fun _ => wx_split_otherRing hN h0 hI (fun m L hm hr => h m L b _ hm (gm_cr hS hr)), fun c3 => ⟨fun _ => wx_grow_otherRing hN h0 hI (fun m L hm hr => h m L b _ hm (gm_cr hS hr)), fun _ => trivial⟩⟩⟩⟩⟩⟩
theorem wx_hullOf {post : Int32 → SX → Prop} {fp fs x : Int32} {a0 a1 a2 a3 : Nat → Int32} (hP : ∀ k, k < 24 → gm_P (a0 k))
    (h : ∀ m L b f, m ≤ 24 → (m = 0 ∧ (∀ r, ¬ pl_S x a0 24 r) ∨ gm_cyc (pl_S x a0 24) L m) → post (nI m) (fp, f, a0, b, L, a3)) : wpX_hullOf post (fp, fs, a0, a1, a2, a3) x := by
  unfold wpX_hullOf
  refine wx_gather hP (fun b N hN hI => ?_)
  refine pk_eq N 0 (fun e => h 0 _ b _ (by omega) (Or.inl ⟨rfl, fun r hr => ?_⟩)) (fun e => wx_wrap_ring hN (by omega) hI (fun m L hm hr => h m L b _ hm (Or.inr hr)))
  obtain ⟨i, hi, _⟩ := (hI.2.2 r).mp hr
  omega
end
section
/-- the reference's arrays show the points of x at the places a0 -/
def yc_R (x : Int32) (a0 sp lf : Nat → Int32) : Prop := (∀ k, k < 24 → gm_P (a0 k)) ∧ (∀ k, k < 24 → lf k = if bt x k = true then 1 else 0) ∧ (∀ k, k < 24 → bt x k = true → sp k = a0 k + 1)
theorem yc_0 {x : Int32} {a0 sp lf : Nat → Int32} (h : yc_R x a0 sp lf) {k : Nat} (hk : k < 24) : lf k = 0 ↔ bt x k = false := by
  rw [h.2.1 k hk]
  by_cases c : bt x k = true
  · rw [if_pos c, c]; decide
  · rw [if_neg c]; simp [c]
theorem yc_1 {x : Int32} {a0 sp lf : Nat → Int32} (h : yc_R x a0 sp lf) {k : Nat} (hk : k < 24) (hb : bt x k = true) : sp k - 1 = a0 k := by
  rw [h.2.2 k hk hb, Int32.add_sub_cancel]
theorem yc_S {x : Int32} {a0 sp lf : Nat → Int32} (h : yc_R x a0 sp lf) : ∀ r, pl_S x a0 24 r → gm_P r := by
  rintro r ⟨k, hk, _, rfl⟩
  exact h.1 k hk
theorem yc_nb : narrow .boolean (.int 0) = .int 0 ∧ narrow .boolean (.int 1) = .int 1 := ⟨by rfl, by rfl⟩
theorem yc_vn : vp_nar .boolean 0 = 0 ∧ vp_nar .boolean 1 = 1 := ⟨by rfl, by rfl⟩
theorem wy_turnA {post : Int32 → Prop} {u : SY} {a b c : Int32} (h : ∀ v, post v) : wpY_turn post u a b c := by
  obtain ⟨fm, sp, lf, li⟩ := u
  exact ⟨wy_64, wy_64, wy_64, wy_64, wy_64, wy_64, wy_64, wy_64, h _⟩
theorem wy_behindA {post : Int32 → Prop} {u : SY} {a b c : Int32} (h0 : post 0) (h1 : post 1) : wpY_behind post u a b c := by
  obtain ⟨fm, sp, lf, li⟩ := u
  exact ⟨wy_64, wy_64, wy_64, wy_64, wy_64, wy_64, wy_64, wy_64, fun _ => h0, fun _ => h1⟩
theorem wy_freeA {post : Int32 → Prop} {fm : Int32} {sp lf li : Nat → Int32} {p q : Int32} (h0 : post 0) (h1 : post 1) : wpY_free post (fm, sp, lf, li) p q := by
  have key : ∀ d i, i + d = 24 → wY_free_5 post p q fm sp lf li (d + 1) 0 (nI i) ∧ wY_free_5 post p q fm sp lf li (d + 1) 1 (nI i) := by
    intro d
    induction d with
    | zero =>
      intro i hi
      have l : (24 : Int32) ≤ nI i := nI_le (a := 24) (by omega) (by omega)
      exact ⟨br_t l ⟨yc_nb.1, h0⟩, br_t l ⟨yc_nb.2, h1⟩⟩
    | succ d ih =>
      intro i hi
      have l : ¬ (24 : Int32) ≤ nI i := nI_ge (b := 24) (by omega) (by omega)
      obtain ⟨i0, i1⟩ := ih (i + 1) (by omega)
      have vin : vp_in (nI i) 24 := vp_in_nI (by omega) (by omega)
      refine ⟨br_f l (br_t rfl ⟨yc_nb.1, h0⟩), br_f l (br_f (by decide) ⟨vin, nm_e ⟨vin, ?_⟩⟩)⟩
      have j : ∀ z, wY_free_49 post (wY_free_5 post p q fm sp lf li (d + 1)) p q (nI i) (sp (nI i).toNatClampNeg - 1) z fm sp lf li := by
        intro z
        exact ⟨fun _ => nm_r (nI_1 i) i1, fun _ => ⟨fun _ => wy_behindA (br_t rfl (nm_r (nI_1 i) i1)) (br_f (by decide) (nm_r (nI_1 i) i0)), fun _ => nm_r (nI_1 i) i0⟩⟩
      exact ⟨fun _ => j 1, fun _ => wy_turnA j⟩
  exact ⟨_, (key 24 0 (by omega)).2⟩
theorem wy_free {post : Int32 → Prop} {fm : Int32} {sp lf li : Nat → Int32} {x : Int32} {a0 : Nat → Int32} {p q : Int32} (h : yc_R x a0 sp lf) (hp : gm_P p) (hq : gm_P q)
    (h1 : (∀ r, pl_S x a0 24 r → gm_F p q r) → post 1) (h0 : (∃ r, pl_S x a0 24 r ∧ ¬ gm_F p q r) → post 0) : wpY_free post (fm, sp, lf, li) p q := by
  have kz : ∀ d i, i + d = 24 → (∃ r, pl_S x a0 24 r ∧ ¬ gm_F p q r) → wY_free_5 post p q fm sp lf li (d + 1) 0 (nI i) := by
    intro d i hi hn
    exact ⟨fun _ => ⟨yc_nb.1, h0 hn⟩, fun _ => br_t rfl ⟨yc_nb.1, h0 hn⟩⟩
  have key : ∀ d i, i + d = 24 → (∀ j, j < i → bt x j = true → gm_F p q (a0 j)) → wY_free_5 post p q fm sp lf li (d + 1) 1 (nI i) := by
    intro d
    induction d with
    | zero =>
      intro i hi hF
      refine br_t (nI_le (a := 24) (by omega) (by omega)) ⟨yc_nb.2, h1 ?_⟩
      rintro r ⟨k, hk, hb, rfl⟩
      exact hF k (by omega) hb
    | succ d ih =>
      intro i hi hF
      have l : ¬ (24 : Int32) ≤ nI i := nI_ge (b := 24) (by omega) (by omega)
      have vin : vp_in (nI i) 24 := vp_in_nI (by omega) (by omega)
      have good : (bt x i = true → gm_F p q (a0 i)) → wY_free_5 post p q fm sp lf li (d + 1) 1 (nI (i + 1)) := by
        intro hg
        refine ih (i + 1) (by omega) fun j hj hb => ?_
        by_cases ej : j = i
        · rw [ej] at hb ⊢; exact hg hb
        · exact hF j (by omega) hb
      refine br_f l (br_f (by decide) ⟨vin, nm_e ⟨vin, ?_⟩⟩)
      rw [nI_clamp (by omega)]
      refine ⟨fun c => br_t (by decide) (nm_r (nI_1 i) (good fun hb => ?_)), fun c => ?_⟩
      · rw [(yc_0 h (by omega)).mp c] at hb; exact absurd hb (by decide)
      · have hb : bt x i = true := by
          have := mt (yc_0 h (k := i) (by omega)).mpr c
          simpa using this
        rw [yc_1 h (by omega) hb]
        have hP := h.1 i (by omega)
        have hSi : pl_S x a0 24 (a0 i) := ⟨i, by omega, hb, rfl⟩
        have Bd := gm_trB hp hq hP
        have e1 := i3_gt0 (i := gm_tr p q (a0 i)) (by omega)
        have e2 := i3_eq0 (i := gm_tr p q (a0 i)) (by omega)
        refine wy_turn hp hq hP ⟨fun hg => nm_r (nI_1 i) (good fun _ => ?_), fun hg => ⟨fun hz => wy_behind hp hq hP (fun hd => br_t rfl (nm_r (nI_1 i) (good fun _ => ?_))) (fun hd => br_f (by decide) (nm_r (nI_1 i) (kz d (i + 1) (by omega) ⟨_, hSi, fun F => ?_⟩))), fun hz => nm_r (nI_1 i) (kz d (i + 1) (by omega) ⟨_, hSi, fun F => ?_⟩)⟩⟩
        · have := e1.mp hg
          exact ⟨by omega, fun z => by omega⟩
        · have := e2.mp hz
          exact ⟨by omega, fun _ => hd⟩
        · have := e2.mp hz
          have := F.2 this
          omega
        · have := mt e1.mpr hg
          have := mt e2.mpr hz
          have := F.1
          omega
  exact ⟨_, key 24 0 (by omega) (fun j hj => by omega)⟩
theorem pl_EF {x : Int32} {a0 : Nat → Int32} (hP : ∀ k, k < 24 → gm_P (a0 k)) {c : Int32} (hc : pl_S x a0 24 c) (hE : gm_E (pl_S x a0 24) c) : (∀ r, pl_S x a0 24 r → r = c) ∨ ∃ q, pl_S x a0 24 q ∧ q ≠ c ∧ ∀ r, pl_S x a0 24 r → gm_F c q r := by
  have hS : ∀ r, pl_S x a0 24 r → gm_P r := by rintro r ⟨k, hk, _, rfl⟩; exact hP k hk
  have e : ∀ r, pl_S x a0 24 r ↔ ∃ i, i < 24 ∧ (fun k => if bt x k = true then a0 k else c) i = r := by
    intro r
    constructor
    · rintro ⟨k, hk, hb, rfl⟩
      exact ⟨k, hk, by dsimp only; rw [if_pos hb]⟩
    · rintro ⟨k, hk, rfl⟩
      dsimp only
      by_cases hb : bt x k = true
      · rw [if_pos hb]; exact ⟨k, hk, hb, rfl⟩
      · rw [if_neg hb]; exact hc
  have e' : pl_S x a0 24 = fun r => ∃ i, i < 24 ∧ (fun k => if bt x k = true then a0 k else c) i = r := funext fun r => propext (e r)
  obtain ⟨q, hq, h⟩ := gm_nxX (s := 1) (Or.inl rfl) (hS c hc) (fun k => if bt x k = true then a0 k else c) 24 (fun i hi => hS _ ((e _).mpr ⟨i, hi, rfl⟩)) (e' ▸ hE)
  have h' : ∀ r, pl_S x a0 24 r → gm_N c q r := fun r hr => gm_N1.mpr (h r ((e r).mp hr))
  by_cases ne : q = c
  · refine Or.inl fun r hr => ?_
    have := h' r hr
    rw [ne] at this
    exact gm_uc (hS c hc) (hS r hr) (gm_N1.mp this)
  · have hqS : pl_S x a0 24 q := hq.elim (fun z => absurd z ne) (fun z => (e q).mpr z)
    exact Or.inr ⟨q, hqS, ne, gm_nxF ⟨hqS, h'⟩⟩
/-- isCorner of a point that isn't left -/
theorem wy_cornA {post : Int32 → Prop} {fm : Int32} {sp lf li : Nat → Int32} {k : Nat} (hk : k < 24) (hl : lf k = 0) (h0 : post 0) : wpY_isCorner post (fm, sp, lf, li) (nI k) := by
  have vk : vp_in (nI k) 24 := vp_in_nI hk (by omega)
  have k2 : ∀ d i, i + d = k → ∀ x3 x4, wY_isCorner_115 post (nI k) fm sp lf li (d + 1) x3 x4 (nI i) := by
    intro d
    induction d with
    | zero =>
      intro i hi x3 x4
      refine br_t (nI_le (by omega) (by omega)) ⟨vk, ?_⟩
      rw [nI_clamp (by omega)]
      exact br_t hl h0
    | succ d ih =>
      intro i hi x3 x4
      have vin : vp_in (nI i) 24 := vp_in_nI (by omega) (by omega)
      have j : ∀ z, wY_isCorner_157 post (wY_isCorner_115 post (nI k) fm sp lf li (d + 1)) (nI k) x3 (nI i) z fm sp lf li := by
        intro z
        exact ⟨fun _ => nm_r (nI_1 i) (ih (i + 1) (by omega) _ _), fun _ => ⟨vin, fun _ => nm_r (nI_1 i) (ih (i + 1) (by omega) _ _), fun _ => nm_r (nI_1 i) (ih (i + 1) (by omega) _ _)⟩⟩
      exact br_f (nI_ge (by omega) (by omega)) ⟨fun _ => j 0, fun _ => ⟨vin, fun _ => j 1, fun _ => ⟨vin, vk, fun _ => j 0, fun _ => j 1⟩⟩⟩
  have k1 : ∀ d i, i + d = 24 → ∀ x3 x4, wY_isCorner_17 post (nI k) (sp (nI k).toNatClampNeg - 1) fm sp lf li (d + 1) x3 x4 (nI i) := by
    intro d
    induction d with
    | zero =>
      intro i hi x3 x4
      exact br_t (nI_le (a := 24) (by omega) (by omega)) ⟨_, k2 k 0 (by omega) x3 x4⟩
    | succ d ih =>
      intro i hi x3 x4
      have vin : vp_in (nI i) 24 := vp_in_nI (by omega) (by omega)
      have nx : ∀ a b, ∀ y : Int32, y = nI i + 1 → wY_isCorner_17 post (nI k) (sp (nI k).toNatClampNeg - 1) fm sp lf li (d + 1) a b y := fun a b => nm_r (nI_1 i) (ih (i + 1) (by omega) a b)
      have j71 : ∀ x6 z, wY_isCorner_71 post (wY_isCorner_17 post (nI k) (sp (nI k).toNatClampNeg - 1) fm sp lf li (d + 1)) (nI k) (sp (nI k).toNatClampNeg - 1) x4 (nI i) x6 z fm sp lf li := by
        intro x6 z
        exact ⟨fun _ => ⟨fun _ => nx _ _, fun _ => ⟨vin, wy_freeA (br_t rfl (nx _ _)) (br_f (by decide) (nx _ _))⟩⟩, fun _ => nx _ _⟩
      have j55 : ∀ z, wY_isCorner_55 post (wY_isCorner_17 post (nI k) (sp (nI k).toNatClampNeg - 1) fm sp lf li (d + 1)) (nI k) (sp (nI k).toNatClampNeg - 1) x3 x4 (nI i) z fm sp lf li := by
        intro z
        exact ⟨fun _ => j71 z 0, fun _ => ⟨fun _ => j71 z 1, fun _ => j71 z 0⟩⟩
      exact br_f (nI_ge (b := 24) (by omega) (by omega)) ⟨vin, fun _ => j55 0, fun _ => ⟨vin, vk, fun _ => j55 0, fun _ => j55 1⟩⟩
  exact ⟨vk, nm_e ⟨_, k1 24 0 (by omega) 1 0⟩⟩
/-- isCorner of a point that is left -/
theorem wy_corn {post : Int32 → Prop} {fm : Int32} {sp lf li : Nat → Int32} {x : Int32} {a0 : Nat → Int32} {k : Nat} (h : yc_R x a0 sp lf) (hk : k < 24) (hb : bt x k = true)
    (h1 : (gm_E (pl_S x a0 24) (a0 k) ∧ ∀ j, j < k → bt x j = true → a0 j ≠ a0 k) → post 1) (h0 : (¬ (gm_E (pl_S x a0 24) (a0 k) ∧ ∀ j, j < k → bt x j = true → a0 j ≠ a0 k)) → post 0) : wpY_isCorner post (fm, sp, lf, li) (nI k) := by
  have vk : vp_in (nI k) 24 := vp_in_nI hk (by omega)
  have hS := yc_S h
  have hkS : pl_S x a0 24 (a0 k) := ⟨k, hk, hb, rfl⟩
  have lk : ¬ lf k = 0 := by rw [yc_0 h hk, hb]; decide
  have bz : ∀ {j}, j < 24 → ¬ lf j = 0 → bt x j = true := by
    intro j hj c
    have := mt (yc_0 h hj).mpr c
    simpa using this
  have seq : ∀ {j}, j < 24 → bt x j = true → (sp j = sp k ↔ a0 j = a0 k) := by
    intro j hj hbj
    constructor
    · intro e
      rw [← yc_1 h hj hbj, ← yc_1 h hk hb, e]
    · intro e
      rw [h.2.2 j hj hbj, h.2.2 k hk hb, e]
  have k2 : ∀ d i, i + d = k → ∀ x3 x4 : Int32,
      ((x3 = 1 ∧ (∀ j, j < 24 → bt x j = true → a0 j = a0 k) ∧ ∀ j, j < i → bt x j = false) ∨ (x3 = 0 ∧ ((∃ j, j < 24 ∧ bt x j = true ∧ a0 j ≠ a0 k) ∨ ∃ j, j < k ∧ bt x j = true))) →
      ((x4 = 1 ∧ gm_E (pl_S x a0 24) (a0 k) ∧ ∀ j, j < i → bt x j = true → a0 j ≠ a0 k) ∨ (x4 = 0 ∧ ((∀ j, j < 24 → bt x j = true → a0 j ≠ a0 k → ∃ r, pl_S x a0 24 r ∧ ¬ gm_F (a0 k) (a0 j) r) ∨ ∃ j, j < k ∧ bt x j = true ∧ a0 j = a0 k))) →
      wY_isCorner_115 post (nI k) fm sp lf li (d + 1) x3 x4 (nI i) := by
    intro d
    induction d with
    | zero =>
      intro i hi x3 x4 A F
      rw [show i = k by omega] at A F ⊢
      refine br_t (nI_le (Nat.le_refl k) (by omega)) ⟨vk, ?_⟩
      rw [nI_clamp (by omega)]
      refine br_f lk ?_
      rcases A with ⟨rfl, A1, A2⟩ | ⟨rfl, A⟩
      · refine br_f (by decide) (h1 ⟨⟨0, 0, fun r hr hn => ?_⟩, fun j hj hbj => ?_⟩)
        · obtain ⟨j, hj, hbj, rfl⟩ := hr
          exact absurd (A1 j hj hbj) hn
        · rw [A2 j hj] at hbj; exact absurd hbj (by decide)
      · refine br_t rfl ?_
        rcases F with ⟨rfl, F1, F2⟩ | ⟨rfl, F⟩
        · exact br_f (by decide) (h1 ⟨F1, F2⟩)
        · refine br_t rfl (h0 fun ⟨hE, hf⟩ => ?_)
          rcases F with F | ⟨j, hj, hbj, e⟩
          · rcases pl_EF h.1 hkS hE with q | ⟨q, ⟨j, hj, hbj, rfl⟩, hn, hF⟩
            · rcases A with ⟨j, hj, hbj, hn⟩ | ⟨j, hj, hbj⟩
              · exact hn (q _ ⟨j, hj, hbj, rfl⟩)
              · exact hf j hj hbj (q _ ⟨j, by omega, hbj, rfl⟩)
            · obtain ⟨r, hr, nF⟩ := F j hj hbj hn
              exact nF (hF r hr)
          · exact hf j hj hbj e
    | succ d ih =>
      intro i hi x3 x4 A F
      have vin : vp_in (nI i) 24 := vp_in_nI (by omega) (by omega)
      have j57 : ∀ z : Int32, ((z = 1 ∧ gm_E (pl_S x a0 24) (a0 k) ∧ ∀ j, j < i + 1 → bt x j = true → a0 j ≠ a0 k) ∨ (z = 0 ∧ ((∀ j, j < 24 → bt x j = true → a0 j ≠ a0 k → ∃ r, pl_S x a0 24 r ∧ ¬ gm_F (a0 k) (a0 j) r) ∨ ∃ j, j < k ∧ bt x j = true ∧ a0 j = a0 k))) →
          wY_isCorner_157 post (wY_isCorner_115 post (nI k) fm sp lf li (d + 1)) (nI k) x3 (nI i) z fm sp lf li := by
        intro z Z
        refine ⟨fun e => nm_r (nI_1 i) (ih (i + 1) (by omega) 0 z ?_ Z), fun e => ⟨vin, ?_⟩⟩
        · rcases A with ⟨e', _⟩ | A
          · rw [e'] at e; exact absurd e (by decide)
          · exact Or.inr ⟨rfl, A.2⟩
        · rw [nI_clamp (by omega)]
          refine ⟨fun c => nm_r (nI_1 i) (ih (i + 1) (by omega) 1 z ?_ Z), fun c => nm_r (nI_1 i) (ih (i + 1) (by omega) 0 z (Or.inr ⟨rfl, Or.inr ⟨i, by omega, bz (by omega) c⟩⟩) Z)⟩
          rcases A with ⟨_, A1, A2⟩ | A
          · refine Or.inl ⟨rfl, A1, fun j hj => ?_⟩
            by_cases ej : j = i
            · rw [ej]; exact (yc_0 h (by omega)).mp c
            · exact A2 j (by omega)
          · exact absurd A.1 e
      refine br_f (nI_ge (by omega) (by omega)) ⟨fun e => j57 0 ?_, fun e => ⟨vin, ?_⟩⟩
      · rcases F with ⟨e', _⟩ | F
        · rw [e'] at e; exact absurd e (by decide)
        · exact Or.inr ⟨rfl, F.2⟩
      · rcases F with ⟨_, F1, F2⟩ | F
        · rw [nI_clamp (by omega)]
          refine ⟨fun c => j57 1 (Or.inl ⟨rfl, F1, fun j hj hbj => ?_⟩), fun c => ⟨vin, vk, ?_⟩⟩
          · by_cases ej : j = i
            · rw [ej, (yc_0 h (by omega)).mp c] at hbj; exact absurd hbj (by decide)
            · exact F2 j (by omega) hbj
          · rw [nI_clamp (n := k) (by omega)]
            refine ⟨fun s => j57 0 (Or.inr ⟨rfl, Or.inr ⟨i, by omega, bz (by omega) c, (seq (by omega) (bz (by omega) c)).mp s⟩⟩), fun s => j57 1 (Or.inl ⟨rfl, F1, fun j hj hbj => ?_⟩)⟩
            by_cases ej : j = i
            · rw [ej]; exact fun z => s ((seq (by omega) (bz (by omega) c)).mpr z)
            · exact F2 j (by omega) hbj
        · exact absurd F.1 e
  have k1 : ∀ d i, i + d = 24 → ∀ x3 x4 : Int32,
      ((x3 = 1 ∧ ∀ j, j < i → bt x j = true → a0 j = a0 k) ∨ (x3 = 0 ∧ ∃ j, j < 24 ∧ bt x j = true ∧ a0 j ≠ a0 k)) →
      ((x4 = 1 ∧ gm_E (pl_S x a0 24) (a0 k)) ∨ (x4 = 0 ∧ ∀ j, j < i → bt x j = true → a0 j ≠ a0 k → ∃ r, pl_S x a0 24 r ∧ ¬ gm_F (a0 k) (a0 j) r)) →
      wY_isCorner_17 post (nI k) (a0 k) fm sp lf li (d + 1) x3 x4 (nI i) := by
    intro d
    induction d with
    | zero =>
      intro i hi x3 x4 A F
      rw [show i = 24 by omega] at A F ⊢
      refine br_t (nI_le (a := 24) (by omega) (by omega)) ⟨_, k2 k 0 (by omega) x3 x4 ?_ ?_⟩
      · rcases A with ⟨e, A⟩ | ⟨e, A⟩
        · exact Or.inl ⟨e, A, fun j hj => by omega⟩
        · exact Or.inr ⟨e, Or.inl A⟩
      · rcases F with ⟨e, F⟩ | ⟨e, F⟩
        · exact Or.inl ⟨e, F, fun j hj => by omega⟩
        · exact Or.inr ⟨e, Or.inl F⟩
    | succ d ih =>
      intro i hi x3 x4 A F
      have vin : vp_in (nI i) 24 := vp_in_nI (by omega) (by omega)
      -- the new 'alone' is z, 'other' is x6
      have j71 : ∀ x6 z : Int32, ((z = 1 ∧ ∀ j, j < i + 1 → bt x j = true → a0 j = a0 k) ∨ (z = 0 ∧ ∃ j, j < 24 ∧ bt x j = true ∧ a0 j ≠ a0 k)) →
          ((x6 = 1 ∧ bt x i = true ∧ a0 i ≠ a0 k) ∨ (x6 = 0 ∧ (bt x i = true → a0 i = a0 k))) →
          wY_isCorner_71 post (wY_isCorner_17 post (nI k) (a0 k) fm sp lf li (d + 1)) (nI k) (a0 k) x4 (nI i) x6 z fm sp lf li := by
        intro x6 z Z O
        refine ⟨fun e => ⟨fun e6 => nm_r (nI_1 i) (ih (i + 1) (by omega) z 0 Z (Or.inr ⟨rfl, fun j hj hbj hn => ?_⟩)), fun e6 => ⟨vin, ?_⟩⟩, fun e => nm_r (nI_1 i) (ih (i + 1) (by omega) z 1 Z ?_)⟩
        · rcases F with ⟨e', _⟩ | ⟨_, F⟩
          · rw [e'] at e; exact absurd e (by decide)
          · by_cases ej : j = i
            · rcases O with ⟨e', _⟩ | ⟨_, O⟩
              · rw [e'] at e6; exact absurd e6 (by decide)
              · rw [ej] at hbj hn; exact absurd (O hbj) hn
            · exact F j (by omega) hbj hn
        · rcases O with ⟨_, hbi, hni⟩ | O
          · rw [nI_clamp (by omega), yc_1 h (by omega) hbi]
            refine wy_free h (h.1 k hk) (h.1 i (by omega)) (fun hall => br_f (by decide) (nm_r (nI_1 i) (ih (i + 1) (by omega) z 1 Z (Or.inl ⟨rfl, gm_FE hS (h.1 k hk) (h.1 i (by omega)) hni hall⟩)))) (fun hno => br_t rfl (nm_r (nI_1 i) (ih (i + 1) (by omega) z 0 Z (Or.inr ⟨rfl, fun j hj hbj hn => ?_⟩))))
            rcases F with ⟨e', _⟩ | ⟨_, F⟩
            · rw [e'] at e; exact absurd e (by decide)
            · by_cases ej : j = i
              · rw [ej]; exact hno
              · exact F j (by omega) hbj hn
          · exact absurd O.1 e6
        · rcases F with ⟨_, F⟩ | ⟨e', _⟩
          · exact Or.inl ⟨rfl, F⟩
          · exact absurd e' e
      have j55 : ∀ z : Int32, ((z = 1 ∧ bt x i = true ∧ a0 i ≠ a0 k) ∨ (z = 0 ∧ (bt x i = true → a0 i = a0 k))) →
          wY_isCorner_55 post (wY_isCorner_17 post (nI k) (a0 k) fm sp lf li (d + 1)) (nI k) (a0 k) x3 x4 (nI i) z fm sp lf li := by
        intro z O
        refine ⟨fun e => j71 z 0 ?_ O, fun e => ⟨fun ez => j71 z 1 ?_ O, fun ez => j71 z 0 ?_ O⟩⟩
        · rcases A with ⟨e', _⟩ | A
          · rw [e'] at e; exact absurd e (by decide)
          · exact Or.inr ⟨rfl, A.2⟩
        · rcases A with ⟨_, A⟩ | ⟨e', _⟩
          · refine Or.inl ⟨rfl, fun j hj hbj => ?_⟩
            by_cases ej : j = i
            · rcases O with ⟨e', _⟩ | ⟨_, O⟩
              · rw [e'] at ez; exact absurd ez (by decide)
              · rw [ej] at hbj ⊢; exact O hbj
            · exact A j (by omega) hbj
          · exact absurd e' e
        · rcases O with ⟨_, hbi, hni⟩ | ⟨e', _⟩
          · exact Or.inr ⟨rfl, i, by omega, hbi, hni⟩
          · exact absurd e' ez
      refine br_f (nI_ge (b := 24) (by omega) (by omega)) ⟨vin, ?_⟩
      rw [nI_clamp (n := i) (by omega)]
      refine ⟨fun c => j55 0 (Or.inr ⟨rfl, fun hbi => ?_⟩), fun c => ⟨vin, vk, ?_⟩⟩
      · rw [(yc_0 h (by omega)).mp c] at hbi; exact absurd hbi (by decide)
      · rw [nI_clamp (n := k) (by omega)]
        have hbi := bz (j := i) (by omega) c
        exact ⟨fun s => j55 0 (Or.inr ⟨rfl, fun _ => (seq (by omega) hbi).mp s⟩), fun s => j55 1 (Or.inl ⟨rfl, hbi, fun z => s ((seq (by omega) hbi).mpr z)⟩)⟩
  refine ⟨vk, nm_e ?_⟩
  rw [nI_clamp (by omega), yc_1 h hk hb]
  exact ⟨_, k1 24 0 (by omega) 1 0 (Or.inl ⟨rfl, fun j hj => by omega⟩) (Or.inr ⟨rfl, fun j hj => by omega⟩)⟩
end
section
/-- the order that the reference sorts by -/
def ag_R (o a b : Int32) : Prop := (a = o ∧ b ≠ o) ∨ (a ≠ o ∧ b ≠ o ∧ 0 < gm_tr o a b)
theorem ag_nz {S : Int32 → Prop} (hS : ∀ r, S r → gm_P r) {o a b : Int32} (hm : gm_mn S o) (ha : S a) (hb : S b) (ea : gm_E S a) (eb : gm_E S b) (na : a ≠ o) (nb : b ≠ o) (ne : a ≠ b) : gm_tr o a b ≠ 0 := by
  have key : ∀ {a b : Int32}, S a → S b → gm_E S a → a ≠ o → b ≠ o → gm_la a < gm_la b → gm_tr o a b ≠ 0 := by
    intro a b ha hb ea na nb l z
    have la := hm.2 a ha na
    have lb := hm.2 b hb nb
    have a1 := gm_Eseg ea hm.1 hb na.symm (fun e => by rw [e] at l; omega) (by rw [gm_swq]; omega)
    have a2 := (gm_seg (a := 64) (b := 1) (c := o) (u := b) (r := a) (by rw [gm_phl]; omega) (by rw [gm_phl]; omega) (by rw [gm_swp]; omega)).mpr (by rw [gm_phl, gm_phl]; omega)
    omega
  rcases Int.lt_trichotomy (gm_la a) (gm_la b) with l | l | l
  · exact key ha hb ea na nb l
  · exact absurd (gm_laext (hS a ha) (hS b hb) l) ne
  · intro z
    exact key hb ha eb nb na l (by rw [gm_swp]; omega)
theorem ag_tr {S : Int32 → Prop} {o a b c : Int32} (hm : gm_mn S o) (ha : S a) (hb : S b) (hc : S c) (h1 : ag_R o a b) (h2 : ag_R o b c) : ag_R o a c := by
  rcases h2 with ⟨e, _⟩ | ⟨nb, nc, t2⟩
  · rcases h1 with ⟨_, n⟩ | ⟨_, n, _⟩
    · exact absurd e n
    · exact absurd e n
  · rcases h1 with ⟨e, _⟩ | ⟨na, _, t1⟩
    · exact Or.inl ⟨e, nc⟩
    · exact Or.inr ⟨na, nc, gm_srt (hm.2 a ha na) (hm.2 b hb nb) (hm.2 c hc nc) t1 t2⟩
def ag_I (S : Int32 → Prop) (L : Nat → Int32) (m : Nat) : Prop := (∀ p, (S p ∧ gm_E S p) ↔ ∃ i, i < m ∧ L i = p) ∧ (∀ i j, i < j → j < m → L i ≠ L j)
theorem ag_swap {S : Int32 → Prop} {L : Nat → Int32} {m j : Nat} (h : ag_I S L m) (hj : j + 1 < m) : ag_I S (upd (upd L j (L (j + 1))) (j + 1) (L j)) m := by
  have e0 : upd (upd L j (L (j + 1))) (j + 1) (L j) j = L (j + 1) := by rw [pk_un (by omega), pk_us]
  have e1 : upd (upd L j (L (j + 1))) (j + 1) (L j) (j + 1) = L j := pk_us
  have e2 : ∀ k, k ≠ j → k ≠ j + 1 → upd (upd L j (L (j + 1))) (j + 1) (L j) k = L k := fun k h1 h2 => by rw [pk_un h2, pk_un h1]
  refine ⟨fun p => ?_, fun a b hab hb => ?_⟩
  · rw [h.1 p]
    constructor
    · rintro ⟨i, hi, e⟩
      by_cases c : i = j
      · exact ⟨j + 1, hj, by rw [e1, ← c, e]⟩
      by_cases d : i = j + 1
      · exact ⟨j, by omega, by rw [e0, ← d, e]⟩
      · exact ⟨i, hi, by rw [e2 i c d, e]⟩
    · rintro ⟨i, hi, e⟩
      by_cases c : i = j
      · rw [c, e0] at e; exact ⟨j + 1, hj, e⟩
      by_cases d : i = j + 1
      · rw [d, e1] at e; exact ⟨j, by omega, e⟩
      · rw [e2 i c d] at e; exact ⟨i, hi, e⟩
  · by_cases a1 : a = j
    · by_cases b1 : b = j + 1
      · rw [a1, b1, e0, e1]; exact (h.2 j (j + 1) (by omega) hj).symm
      · rw [a1, e0, e2 b (by omega) b1]; exact h.2 (j + 1) b (by omega) hb
    by_cases a2 : a = j + 1
    · rw [a2, e1, e2 b (by omega) (by omega)]; exact h.2 j b (by omega) hb
    rw [e2 a a1 a2]
    by_cases b1 : b = j
    · rw [b1, e0]; exact h.2 a (j + 1) (by omega) hj
    by_cases b2 : b = j + 1
    · rw [b2, e1]; exact h.2 a j (by omega) (by omega)
    rw [e2 b b1 b2]; exact h.2 a b hab hb
theorem ag_ref {S : Int32 → Prop} {L : Nat → Int32} {m : Nat} {o : Int32} (hm : gm_mn S o) (h : ag_I S L m) (hs : ∀ a b, a < b → b < m → ag_R o (L a) (L b)) : gm_ref S L m := by
  obtain ⟨k, hk, ek⟩ := (h.1 o).mp ⟨hm.1, gm_mnE hm⟩
  have l0 : L 0 = o := by
    by_cases c : k = 0
    · rw [← c]; exact ek
    · rcases hs 0 k (by omega) hk with q | q
      · exact q.1
      · exact absurd ek q.2.1
  refine ⟨h.1, fun _ => l0 ▸ hm, fun i h0 hi => (h.2 0 i h0 hi).symm, fun i j h0 hij hj => ?_⟩
  rcases hs i j hij hj with q | q
  · exact absurd (q.1.trans l0.symm) (h.2 0 i h0 (by omega)).symm
  · rw [l0]; exact q.2.2
theorem wy_arrange {post : SY → Prop} {sp lf li : Nat → Int32} {S : Int32 → Prop} (hS : ∀ r, S r → gm_P r) {m : Nat} {o : Int32} (hm24 : m ≤ 24) (hm : 0 < m → gm_mn S o) (h : ag_I S li m)
    (hp : ∀ L, gm_ref S L m → post (nI m, sp, lf, L)) : wpY_arrange post (nI m, sp, lf, li) o := by
  by_cases m0 : m = 0
  · subst m0
    exact ⟨1, br_t (by decide) (hp li ⟨h.1, fun q => by omega, fun i _ q => by omega, fun i j _ _ q => by omega⟩)⟩
  have hm := hm (by omega)
  have mem : ∀ {L : Nat → Int32}, ag_I S L m → ∀ i, i < m → S (L i) ∧ gm_E S (L i) := fun hL i hi => (hL.1 _).mpr ⟨i, hi, rfl⟩
  have key : ∀ d i, i + d = m → ∀ L, ag_I S L m → (∀ a b, a < i → a < b → b < m → ag_R o (L a) (L b)) → wY_arrange_2 post o (nI m) (d + 1) (nI i) sp lf L := by
    intro d
    induction d with
    | zero =>
      intro i hi L hL hR
      exact br_t (nI_le (by omega) (by omega)) (hp L (ag_ref hm hL (fun a b hab hb => hR a b (by omega) hab hb)))
    | succ d ih =>
      intro i hi L hL hR
      refine br_f (nI_ge (by omega) (by omega)) (nm_r (show nI m - 1 = nI (m - 1) from pk_sub (b := 1) (by omega)) ?_)
      have inner : ∀ t, i + t + 1 ≤ m → ∀ L, ag_I S L m → (∀ a b, a < i → a < b → b < m → ag_R o (L a) (L b)) → (∀ b, i + t < b → b < m → ag_R o (L (i + t)) (L b)) →
          wY_arrange_17 post (wY_arrange_2 post o (nI m) (d + 1)) o (nI i) (nI m) (t + 1) (nI (i + t)) sp lf L := by
        intro t
        induction t with
        | zero =>
          intro ht L hL hR hT
          refine br_t (nI_le (by omega) (by omega)) (nm_r (nI_1 i) (ih (i + 1) (by omega) L hL fun a b ha hab hb => ?_))
          by_cases ea : a = i
          · rw [ea]; exact hT b (by omega) hb
          · exact hR a b (by omega) hab hb
        | succ t iht =>
          intro ht L hL hR hT
          have ma := mem hL (i + t) (by omega)
          have mb := mem hL (i + t + 1) (by omega)
          have ne := hL.2 (i + t) (i + t + 1) (by omega) (by omega)
          have Bd := gm_trB (hS _ hm.1) (hS _ ma.1) (hS _ mb.1)
          have e1 := i3_ge0 (i := gm_tr o (L (i + t)) (L (i + t + 1))) (by omega)
          have v0 : vp_in (nI (i + t)) 24 := vp_in_nI (by omega) (by omega)
          have v1 : vp_in (nI (i + t + 1)) 24 := vp_in_nI (by omega) (by omega)
          have keep : ag_R o (L (i + t)) (L (i + t + 1)) → wY_arrange_68 post (wY_arrange_2 post o (nI m) (d + 1)) (wY_arrange_17 post (wY_arrange_2 post o (nI m) (d + 1)) o (nI i) (nI m) (t + 1)) o (nI i) (nI (i + t + 1)) (L (i + t)) (L (i + t + 1)) (nI m) sp lf L := by
            intro hk
            refine br_t rfl ?_
            unfold wY_arrange_90
            rw [nI_pred]
            refine ⟨v0, nm_e (br_t rfl ⟨v1, nm_e (nm_r (pk_m1 (i + t)) ?_)⟩)⟩
            rw [nI_clamp (n := i + t) (by omega), nI_clamp (n := i + t + 1) (by omega)]
            have eL : upd (upd L (i + t) (L (i + t))) (i + t + 1) (L (i + t + 1)) = L := by
              funext z
              unfold upd
              by_cases c : z = i + t + 1
              · rw [if_pos c, c]
              · rw [if_neg c]
                by_cases c' : z = i + t
                · rw [if_pos c', c']
                · rw [if_neg c']
            rw [eL]
            refine iht (by omega) L hL hR fun b hb hbm => ?_
            by_cases eb : b = i + t + 1
            · rw [eb]; exact hk
            · exact ag_tr hm ma.1 mb.1 (mem hL b hbm).1 hk (hT b (by omega) hbm)
          have swap : ag_R o (L (i + t + 1)) (L (i + t)) → wY_arrange_64 post (wY_arrange_2 post o (nI m) (d + 1)) (wY_arrange_17 post (wY_arrange_2 post o (nI m) (d + 1)) o (nI i) (nI m) (t + 1)) o (nI i) (nI (i + t + 1)) (L (i + t)) (L (i + t + 1)) (nI m) sp lf L := by
            intro hk
            refine br_f (by decide) ?_
            unfold wY_arrange_90
            rw [nI_pred]
            refine ⟨v0, nm_e (br_f (by decide) ⟨v1, nm_e (nm_r (pk_m1 (i + t)) ?_)⟩)⟩
            rw [nI_clamp (n := i + t) (by omega), nI_clamp (n := i + t + 1) (by omega)]
            have e0 : upd (upd L (i + t) (L (i + t + 1))) (i + t + 1) (L (i + t)) (i + t) = L (i + t + 1) := by rw [pk_un (by omega), pk_us]
            have e1 : upd (upd L (i + t) (L (i + t + 1))) (i + t + 1) (L (i + t)) (i + t + 1) = L (i + t) := pk_us
            have e2 : ∀ k, k ≠ i + t → k ≠ i + t + 1 → upd (upd L (i + t) (L (i + t + 1))) (i + t + 1) (L (i + t)) k = L k := fun k h1 h2 => by rw [pk_un h2, pk_un h1]
            refine iht (by omega) _ (ag_swap hL (by omega)) (fun a b ha hab hbm => ?_) (fun b hb hbm => ?_)
            · rw [e2 a (by omega) (by omega)]
              by_cases b1 : b = i + t
              · rw [b1, e0]; exact hR a _ ha (by omega) (by omega)
              by_cases b2 : b = i + t + 1
              · rw [b2, e1]; exact hR a _ ha (by omega) (by omega)
              rw [e2 b b1 b2]; exact hR a b ha hab hbm
            · rw [e0]
              by_cases b2 : b = i + t + 1
              · rw [b2, e1]; exact hk
              · rw [e2 b (by omega) b2]; exact hT b (by omega) hbm
          refine br_f (nI_ge (by omega) (by omega)) ?_
          rw [show i + (t + 1) = i + t + 1 by omega, nI_pred]
          refine ⟨v0, nm_e ⟨v1, nm_e ?_⟩⟩
          rw [nI_clamp (n := i + t) (by omega), nI_clamp (n := i + t + 1) (by omega)]
          refine ⟨fun eb => swap (Or.inl ⟨eb, fun ea => ne (ea.trans eb.symm)⟩), fun eb => ⟨fun ea => keep (Or.inl ⟨ea, eb⟩), fun ea => wy_turn (hS _ hm.1) (hS _ ma.1) (hS _ mb.1) ⟨fun hg => keep ?_, fun hg => swap ?_⟩⟩⟩
          · have nz := ag_nz hS hm ma.1 mb.1 ma.2 mb.2 ea eb ne
            have := e1.mp hg
            exact Or.inr ⟨ea, eb, by omega⟩
          · have := mt e1.mpr hg
            refine Or.inr ⟨eb, ea, ?_⟩
            rw [gm_swp]
            omega
      have q := inner (m - 1 - i) (by omega) L hL hR (fun b h1 h2 => by omega)
      rw [show i + (m - 1 - i) = m - 1 by omega] at q
      exact ⟨_, q⟩
  exact ⟨_, key m 0 (by omega) li h (fun a b ha _ _ => by omega)⟩
theorem wy_lt {a b : Int32} (ha : gm_P a) (hb : gm_P b) : (a - a / 64 * 64 < b - b / 64 * 64 ↔ gm_x a < gm_x b) ∧ (a - a / 64 * 64 = b - b / 64 * 64 ↔ gm_x a = gm_x b) ∧ (b ≤ a ↔ b.toInt ≤ a.toInt) := by
  rw [wy_rem ha, wy_rem hb]
  exact ⟨Int32.lt_iff_toInt_lt, Int32.toInt_inj.symm, Int32.le_iff_toInt_le⟩
theorem wy_find {post : SY → Prop} {fm : Int32} {sp lf li : Nat → Int32} {x : Int32} {a0 : Nat → Int32} (h : yc_R x a0 sp lf)
    (hp : ∀ m L, m ≤ 24 → gm_ref (pl_S x a0 24) L m → post (nI m, sp, lf, L)) : wpY_findCorners post (fm, sp, lf, li) := by
  have hS := yc_S h
  have bz : ∀ {j}, j < 24 → ¬ lf j = 0 → bt x j = true := by
    intro j hj c
    have := mt (yc_0 h hj).mpr c
    simpa using this
  have k2 : ∀ o, ((∀ j, j < 24 → bt x j = false) ∨ gm_mn (pl_S x a0 24) o) → ∀ d i, i + d = 24 → ∀ L m, m ≤ i → (∀ k, k < m → ∃ j, j < i ∧ bt x j = true ∧ L k = a0 j ∧ gm_E (pl_S x a0 24) (a0 j)) →
      (∀ j, j < i → bt x j = true → gm_E (pl_S x a0 24) (a0 j) → ∃ k, k < m ∧ L k = a0 j) → (∀ a b, a < b → b < m → L a ≠ L b) →
      wY_findCorners_90 post o (d + 1) (nI i) (nI m) sp lf L := by
    intro o ho d
    induction d with
    | zero =>
      intro i hi L m hm c1 c2 c3
      have e24 : i = 24 := by omega
      subst e24
      refine br_t (nI_le (a := 24) (by omega) (by omega)) (wy_arrange hS (S := pl_S x a0 24) hm (fun m0 => ?_) ⟨fun p => ?_, c3⟩ (fun M hM => hp m M hm hM))
      · rcases ho with ho | ho
        · obtain ⟨j, hj, hb, _⟩ := c1 0 m0
          rw [ho j hj] at hb
          exact absurd hb (by decide)
        · exact ho
      · constructor
        · rintro ⟨⟨j, hj, hb, rfl⟩, hE⟩
          exact c2 j hj hb hE
        · rintro ⟨k, hk, e⟩
          obtain ⟨j, hj, hb, e', hE⟩ := c1 k hk
          have q : a0 j = p := e'.symm.trans e
          exact ⟨⟨j, hj, hb, q⟩, q ▸ hE⟩
    | succ d ih =>
      intro i hi L m hm c1 c2 c3
      have vin : vp_in (nI i) 24 := vp_in_nI (by omega) (by omega)
      refine br_f (nI_ge (b := 24) (by omega) (by omega)) ?_
      have no : (bt x i = true → gm_E (pl_S x a0 24) (a0 i) → ∃ k, k < m ∧ L k = a0 i) → ∀ y : Int32, y = nI i + 1 → wY_findCorners_90 post o (d + 1) y (nI m) sp lf L := by
        intro hno
        refine nm_r (nI_1 i) (ih (i + 1) (by omega) L m (by omega) (fun k hk => ?_) (fun j hj hb hE => ?_) c3)
        · obtain ⟨j, hj, q⟩ := c1 k hk
          exact ⟨j, by omega, q⟩
        · by_cases ej : j = i
          · rw [ej] at hb hE ⊢; exact hno hb hE
          · exact c2 j (by omega) hb hE
      by_cases hb : bt x i = true
      · refine wy_corn h (by omega) hb (fun hq => br_f (by decide) ⟨vin, vp_in_nI (by omega) (by omega), nm_e (nm_r (nI_1 m) (nm_r (nI_1 i) ?_))⟩) (fun hq => br_t rfl (no fun _ hE => ?_))
        · rw [nI_clamp (n := i) (by omega), nI_clamp (n := m) (by omega), yc_1 h (by omega) hb]
          refine ih (i + 1) (by omega) _ (m + 1) (by omega) (fun k hk => ?_) (fun j hj hbj hEj => ?_) (fun a b hab hbm => ?_)
          · by_cases ek : k = m
            · exact ⟨i, by omega, hb, by rw [ek, pk_us], hq.1⟩
            · obtain ⟨j, hj, q1, q2, q3⟩ := c1 k (by omega)
              exact ⟨j, by omega, q1, by rw [pk_un ek, q2], q3⟩
          · by_cases ej : j = i
            · exact ⟨m, by omega, by rw [pk_us, ej]⟩
            · obtain ⟨k, hk, e⟩ := c2 j (by omega) hbj hEj
              exact ⟨k, by omega, by rw [pk_un (by omega), e]⟩
          · by_cases eb : b = m
            · rw [eb, pk_us, pk_un (by omega)]
              obtain ⟨j, hj, q1, q2, q3⟩ := c1 a (by omega)
              rw [q2]; exact hq.2 j hj q1
            · rw [pk_un eb, pk_un (by omega)]; exact c3 a b hab (by omega)
        · have : ∃ j, j < i ∧ bt x j = true ∧ a0 j = a0 i := by
            apply Classical.byContradiction
            intro hn
            exact hq ⟨hE, fun j hj hbj e => hn ⟨j, hj, hbj, e⟩⟩
          obtain ⟨j, hj, hbj, e⟩ := this
          obtain ⟨k, hk, e'⟩ := c2 j hj hbj (e ▸ hE)
          exact ⟨k, hk, e'.trans e⟩
      · have hb' : bt x i = false := by simpa using hb
        exact wy_cornA (by omega) ((yc_0 h (by omega)).mpr hb') (br_t rfl (no fun q => absurd q hb))
  have k1 : ∀ d i, i + d = 24 → ∀ o : Int32, ((o = -1 ∧ ∀ j, j < i → bt x j = false) ∨ (∃ j, j < i ∧ bt x j = true ∧ o = a0 j ∧ ∀ j', j' < i → bt x j' = true → gm_la o ≤ gm_la (a0 j'))) → wY_findCorners_9 post 0 sp lf li (d + 1) o (nI i) := by
    intro d
    induction d with
    | zero =>
      intro i hi o ho
      have e24 : i = 24 := by omega
      subst e24
      refine br_t (nI_le (a := 24) (by omega) (by omega)) ⟨_, k2 o ?_ 24 0 (by omega) li 0 (by omega) (fun k hk => by omega) (fun j hj => by omega) (fun a b _ hb => by omega)⟩
      rcases ho with ⟨_, ho⟩ | ⟨j, hj, hb, e, hl⟩
      · exact Or.inl ho
      · refine Or.inr ⟨⟨j, hj, hb, e.symm⟩, ?_⟩
        rintro r ⟨j', hj', hb', rfl⟩ hn
        have q := hl j' hj' hb'
        have q' : gm_la o ≠ gm_la (a0 j') := fun z => hn (gm_laext (h.1 j' hj') (e ▸ h.1 j hj) z.symm)
        omega
    | succ d ih =>
      intro i hi o ho
      have vin : vp_in (nI i) 24 := vp_in_nI (by omega) (by omega)
      refine br_f (nI_ge (b := 24) (by omega) (by omega)) ⟨vin, nm_e ⟨vin, ?_⟩⟩
      rw [nI_clamp (by omega)]
      refine ⟨fun c => br_t rfl (nm_r (nI_1 i) (ih (i + 1) (by omega) o ?_)), fun c => ?_⟩
      · have hb := (yc_0 h (by omega)).mp c
        rcases ho with ⟨e, ho⟩ | ⟨j, hj, hbj, e, hl⟩
        · refine Or.inl ⟨e, fun j hj => ?_⟩
          by_cases ej : j = i
          · rw [ej]; exact hb
          · exact ho j (by omega)
        · refine Or.inr ⟨j, by omega, hbj, e, fun j' hj' hb' => ?_⟩
          by_cases ej : j' = i
          · rw [ej, hb] at hb'; exact absurd hb' (by decide)
          · exact hl j' (by omega) hb'
      have hb := bz (j := i) (by omega) c
      have hPi := h.1 i (by omega)
      rw [yc_1 h (by omega) hb]
      have take : (∀ j', j' < i → bt x j' = true → gm_la (a0 i) ≤ gm_la (a0 j')) → wY_findCorners_64 post (wY_findCorners_9 post 0 sp lf li (d + 1)) o (nI i) (a0 i) 0 sp lf li := by
        intro hl
        refine br_f (by decide) (nm_r (nI_1 i) (ih (i + 1) (by omega) (a0 i) (Or.inr ⟨i, by omega, hb, rfl, fun j' hj' hb' => ?_⟩)))
        by_cases ej : j' = i
        · rw [ej]; exact Int.le_refl _
        · exact hl j' (by omega) hb'
      rcases ho with ⟨e, ho⟩ | ⟨j, hj, hbj, e, hl⟩
      · rw [e]
        rw [e] at take
        refine br_t (by decide) (take fun j' hj' hb' => ?_)
        rw [ho j' hj'] at hb'; exact absurd hb' (by decide)
      · have hPo : gm_P o := e ▸ h.1 j (by omega)
        have keep : gm_la o ≤ gm_la (a0 i) → wY_findCorners_68 post (wY_findCorners_9 post 0 sp lf li (d + 1)) o (nI i) (a0 i) 0 sp lf li := by
          intro hle
          refine br_t rfl (nm_r (nI_1 i) (ih (i + 1) (by omega) o (Or.inr ⟨j, by omega, hbj, e, fun j' hj' hb' => ?_⟩)))
          by_cases ej : j' = i
          · rw [ej]; exact hle
          · exact hl j' (by omega) hb'
        have take' : gm_la (a0 i) ≤ gm_la o → wY_findCorners_64 post (wY_findCorners_9 post 0 sp lf li (d + 1)) o (nI i) (a0 i) 0 sp lf li := by
          intro hle
          exact take fun j' hj' hb' => Int.le_trans hle (hl j' hj' hb')
        obtain ⟨q1, q2, q3⟩ := wy_lt hPi hPo
        have ci := gm_co hPi
        have co := gm_co hPo
        unfold gm_la at keep take'
        have o0 : ¬ o < 0 := fun z => by
          have := Int32.lt_iff_toInt_lt.mp z
          have z0 : (0 : Int32).toInt = 0 := rfl
          have := hPo.1
          omega
        refine br_f o0 ⟨wy_64, wy_64, fun l => take' ?_, fun l => ⟨wy_64, wy_64, fun l2 => ⟨fun l3 => keep ?_, fun l3 => take' ?_⟩, fun l2 => keep ?_⟩⟩
        · have := q1.mp l; omega
        · have := q2.mp l2; have := q3.mp l3; omega
        · have := q2.mp l2; have := mt q3.mpr l3; omega
        · have := mt q1.mpr l; have := mt q2.mpr l2; omega
  exact ⟨_, k1 24 0 (by omega) (-1) (Or.inl ⟨rfl, fun j hj => by omega⟩)⟩
/-- the relation of the two states: X's bits and places against Y's spots -/
def rl_R (fp : Int32) (a0 sp : Nat → Int32) : Prop := (∀ k, k < 24 → gm_P (a0 k)) ∧ (∀ i, 24 ≤ i → i < 32 → bt fp i = false) ∧ (∀ k, k < 24 → sp k = if bt fp k = true then a0 k + 1 else 0)
theorem rl_n0 {p : Int32} (h : gm_P p) : p + 1 ≠ 0 := by
  obtain ⟨j, hj, rfl⟩ := gm_Pn h
  rw [nI_1]
  exact nI_ne0 (by omega) (by omega)
theorem rl_0 {fp : Int32} {a0 sp : Nat → Int32} (h : rl_R fp a0 sp) {k : Nat} (hk : k < 24) : sp k = 0 ↔ bt fp k = false := by
  rw [h.2.2 k hk]
  by_cases c : bt fp k = true
  · rw [if_pos c, c]
    exact ⟨fun z => absurd z (rl_n0 (h.1 k hk)), fun z => absurd z (by decide)⟩
  · rw [if_neg c]; simp [c]
theorem wy_is {post : Int32 → Prop} {fm fp : Int32} {a0 sp lf li : Nat → Int32} (h : rl_R fp a0 sp) {k : Nat} (hk : k < 24) (h1 : bt fp k = true → post 1) (h0 : bt fp k = false → post 0) : wpY_is post (fm, sp, lf, li) (nI k) := by
  refine br_f (nI_pos (by omega)) (br_f (nI_ge (b := 24) hk (by omega)) ⟨vp_in_nI hk (by omega), ?_⟩)
  rw [nI_clamp (by omega)]
  have e := rl_0 h hk
  exact ⟨fun z => h0 (e.mp z), fun z => h1 (by have := mt e.mpr z; simpa using this)⟩
theorem wy_look {post : SY → Prop} {fm fp : Int32} {a0 sp lf li : Nat → Int32} (h : rl_R fp a0 sp)
    (hp : ∀ m L lf', m ≤ 24 → yc_R fp a0 sp lf' → gm_ref (pl_S fp a0 24) L m → post (nI m, sp, lf', L)) : wpY_look post (fm, sp, lf, li) := by
  have key : ∀ d i, i + d = 24 → ∀ lf', (∀ k, k < i → lf' k = if bt fp k = true then 1 else 0) → wY_look_2 post fm (d + 1) (nI i) sp lf' li := by
    intro d
    induction d with
    | zero =>
      intro i hi lf' hl
      have e24 : i = 24 := by omega
      subst e24
      have hc : yc_R fp a0 sp lf' := ⟨h.1, hl, fun k hk hb => by rw [h.2.2 k hk, if_pos hb]⟩
      exact br_t (nI_le (a := 24) (by omega) (by omega)) (wy_find hc fun m L hm hr => hp m L lf' hm hc hr)
    | succ d ih =>
      intro i hi lf' hl
      have vin : vp_in (nI i) 24 := vp_in_nI (by omega) (by omega)
      refine br_f (nI_ge (b := 24) (by omega) (by omega)) (wy_is h (by omega) (fun hb => ⟨vin, nm_e (nm_r (nI_1 i) (ih (i + 1) (by omega) _ fun k hk => ?_))⟩) (fun hb => ⟨vin, nm_e (nm_r (nI_1 i) (ih (i + 1) (by omega) _ fun k hk => ?_))⟩))
      · rw [nI_clamp (by omega), yc_vn.2]
        by_cases ek : k = i
        · rw [ek, pk_us, if_pos hb]
        · rw [pk_un ek]; exact hl k (by omega)
      · rw [nI_clamp (by omega), yc_vn.1]
        by_cases ek : k = i
        · rw [ek, pk_us, if_neg (by rw [hb]; decide)]
        · rw [pk_un ek]; exact hl k (by omega)
  exact ⟨_, key 24 0 (by omega) lf (fun k hk => by omega)⟩
end
section
/-- where p stands to the ring L of m corners -/
def st_R (L : Nat → Int32) (m : Nat) (p v : Int32) : Prop :=
  (v = 2 ∧ 0 < m ∧ ∀ i, i < m → 0 < gm_tr (L i) (L (sl_f i m)) p) ∨
  (v = 1 ∧ ∃ i, i < m ∧ gm_tr (L i) (L (sl_f i m)) p = 0 ∧ gm_dt p (L i) (L (sl_f i m)) ≤ 0) ∨
  (v = 0 ∧ (m = 0 ∨ ∃ i, i < m ∧ (gm_tr (L i) (L (sl_f i m)) p < 0 ∨ (gm_tr (L i) (L (sl_f i m)) p = 0 ∧ 0 < gm_dt p (L i) (L (sl_f i m))))))
theorem sl_lt {i m : Nat} (h : i < m) : sl_f i m < m := by unfold sl_f; split <;> omega
theorem st_cg {L L' : Nat → Int32} {m : Nat} (e : ∀ i, i < m → L i = L' i) {p v : Int32} (h : st_R L m p v) : st_R L' m p v := by
  have key : ∀ i, i < m → L' i = L i ∧ L' (sl_f i m) = L (sl_f i m) := fun i hi => ⟨(e i hi).symm, (e _ (sl_lt hi)).symm⟩
  rcases h with ⟨a, b, c⟩ | ⟨a, i, hi, c⟩ | ⟨a, b⟩
  · exact Or.inl ⟨a, b, fun i hi => by rw [(key i hi).1, (key i hi).2]; exact c i hi⟩
  · exact Or.inr (Or.inl ⟨a, i, hi, by rw [(key i hi).1, (key i hi).2]; exact c⟩)
  · refine Or.inr (Or.inr ⟨a, ?_⟩)
    rcases b with b | ⟨i, hi, c⟩
    · exact Or.inl b
    · exact Or.inr ⟨i, hi, by rw [(key i hi).1, (key i hi).2]; exact c⟩
theorem gm_cycg {S : Int32 → Prop} {L L' : Nat → Int32} {m : Nat} (e : ∀ i, i < m → L i = L' i) (h : gm_cyc S L m) : gm_cyc S L' m := by
  obtain ⟨a, b, c, d⟩ := h
  refine ⟨a, e 0 a ▸ b, fun i hi => ?_, ?_⟩
  · rw [← e i (by omega), ← e (i + 1) hi, ← e 0 a]; exact c i hi
  · rw [← e (m - 1) (by omega), ← e 0 a]; exact d
theorem gm_sqnn (u v : Int32) : 0 ≤ gm_sq u v := by
  rcases Int.lt_or_le (gm_sq u v) 0 with h | h
  · have := gm_sqz (a := gm_x u - gm_x v) (b := gm_y u - gm_y v) (by unfold gm_sq at h; omega)
    unfold gm_sq at h
    rw [this.1, this.2] at h
    omega
  · exact h
theorem gm_dti (a p b : Int32) : gm_dt a p b = gm_sq p a - gm_dt p a b := by unfold gm_dt gm_sq; grind
theorem st_w1 (u v p a b : Int32) (h : gm_tr u v p = 0) : gm_sq u v * gm_tr a b p = gm_dt v p u * gm_tr a b u + gm_dt u p v * gm_tr a b v := by
  unfold gm_tr at h; unfold gm_sq gm_tr gm_dt; grind
theorem st_w2 (u v p a b : Int32) (h : gm_tr u v p = 0) : gm_sq u v * gm_dt a p b = gm_dt v p u * gm_dt a u b + gm_dt u p v * gm_dt a v b := by
  unfold gm_tr at h; unfold gm_sq gm_dt; grind
/-- what lies on a side lies on no side's wrong hand -/
theorem st_on {S : Int32 → Prop} (hS : ∀ r, S r → gm_P r) {L : Nat → Int32} {m : Nat} (hc : gm_cyc S L m) {p : Int32} (hp : gm_P p) {i : Nat} (hi : i < m) (t : gm_tr (L i) (L (sl_f i m)) p = 0) (d : gm_dt p (L i) (L (sl_f i m)) ≤ 0) {j : Nat} (hj : j < m) :
    gm_N (L j) (L (sl_f j m)) p := by
  have su := gm_cS hc hi
  have sv := gm_cS hc (sl_lt hi)
  have nj := gr_nx hc hj
  generalize L i = u at *
  generalize L (sl_f i m) = v at *
  have pa := hS _ (gm_cS hc hj)
  have pb := hS _ nj.1
  generalize L j = a at *
  generalize L (sl_f j m) = b at *
  by_cases euv : u = v
  · have z : gm_dt p u u = gm_sq p u := by unfold gm_dt gm_sq; grind
    rw [← euv, z] at d
    rw [gm_sq0 hp (hS u su) d]
    exact nj.2 u su
  have Nu := nj.2 u su
  have Nv := nj.2 v sv
  have al : 0 ≤ gm_dt v p u := by
    have e : gm_dt v p u = gm_sq p v - gm_dt p u v := by unfold gm_dt gm_sq; grind
    have := gm_sqnn p v
    omega
  have be : 0 ≤ gm_dt u p v := by
    have e := gm_dti u p v
    have := gm_sqnn p u
    omega
  have sq : 0 < gm_sq u v := by
    apply Classical.byContradiction
    intro c
    exact euv (gm_sq0 (hS u su) (hS v sv) (by omega))
  have w1 := st_w1 u v p a b t
  have m1 := Int.mul_nonneg al Nu.1
  have m2 := Int.mul_nonneg be Nv.1
  rw [Int.mul_comm (gm_sq u v)] at w1
  refine ⟨gm_nn sq (by omega), fun z => ?_⟩
  rw [z, Int.zero_mul] at w1
  have part : ∀ (g w : Int32), gm_dt g p w * gm_tr a b w = 0 → 0 ≤ gm_dt g p w → gm_N a b w → 0 ≤ gm_dt g p w * gm_dt a w b ∧ 0 ≤ gm_dt g p w * gm_dt b w a := by
    intro g w z0 g0 Nw
    rcases Int.mul_eq_zero.mp z0 with z1 | z1
    · rw [z1, Int.zero_mul, Int.zero_mul]; exact ⟨Int.le_refl 0, Int.le_refl 0⟩
    · have q := Nw.2 z1
      have e1 := gm_dti a w b
      have e2 : gm_dt b w a = gm_sq w b - gm_dt w a b := by unfold gm_dt gm_sq; grind
      have := gm_sqnn w a
      have := gm_sqnn w b
      exact ⟨Int.mul_nonneg g0 (by omega), Int.mul_nonneg g0 (by omega)⟩
  have P1 := part v u (by omega) al Nu
  have P2 := part u v (by omega) be Nv
  have w2 := st_w2 u v p a b t
  have w3 := st_w2 u v p b a t
  rw [Int.mul_comm (gm_sq u v)] at w2 w3
  have d1 : 0 ≤ gm_dt a p b := gm_nn sq (by omega)
  have d2 : 0 ≤ gm_dt b p a := gm_nn sq (by omega)
  have bt := gm_betw a b p z
  have e3 : gm_dt b a p = gm_dt b p a := gm_dts b p a
  rw [e3] at bt
  have m3 := Int.mul_nonneg d1 d2
  have sab : 0 < gm_sq a b := by
    apply Classical.byContradiction
    intro c
    have eab := gm_sq0 pa pb (by omega)
    rw [← eab] at Nu Nv
    have q1 := gm_uc pa (hS u su) (gm_N1.mp Nu)
    have q2 := gm_uc pa (hS v sv) (gm_N1.mp Nv)
    exact euv (q1.trans q2.symm)
  exact gm_np sab (by omega)
theorem st_un {S : Int32 → Prop} (hS : ∀ r, S r → gm_P r) {L : Nat → Int32} {m : Nat} (hc : m = 0 ∨ gm_cyc S L m) {p v v' : Int32} (hp : gm_P p) (h : st_R L m p v) (h' : st_R L m p v') : v = v' := by
  have key : ∀ {i j : Nat}, i < m → j < m → gm_tr (L i) (L (sl_f i m)) p = 0 → gm_dt p (L i) (L (sl_f i m)) ≤ 0 → (gm_tr (L j) (L (sl_f j m)) p < 0 ∨ (gm_tr (L j) (L (sl_f j m)) p = 0 ∧ 0 < gm_dt p (L j) (L (sl_f j m)))) → False := by
    intro i j hi hj t d w
    rcases hc with hc | hc
    · omega
    have N := st_on hS hc hp hi t d hj
    have n1 := N.1
    rcases w with w | ⟨w, w2⟩
    · omega
    · have := N.2 w
      omega
  rcases h with ⟨a, b, c⟩ | ⟨a, i, hi, c⟩ | ⟨a, b⟩ <;> rcases h' with ⟨a', b', c'⟩ | ⟨a', i', hi', c'⟩ | ⟨a', b'⟩
  · rw [a, a']
  · have := c i' hi'; omega
  · rcases b' with b' | ⟨i', hi', c'⟩
    · omega
    · have := c i' hi'; omega
  · have := c' i hi; omega
  · rw [a, a']
  · rcases b' with b' | ⟨i', hi', c'⟩
    · omega
    · exact absurd (key hi hi' c.1 c.2 c') id
  · rcases b with b | ⟨i, hi, c⟩
    · omega
    · have := c' i hi; omega
  · rcases b with b | ⟨i, hi, c⟩
    · omega
    · exact absurd (key hi' hi c'.1 c'.2 c) id
  · rw [a, a']
theorem wx_standing {post : Int32 → Prop} {fp fs : Int32} {a0 a1 a2 a3 : Nat → Int32} {m : Nat} {p : Int32} (hm : m ≤ 24) (hP : ∀ i, i < m → gm_P (a2 i)) (hp : gm_P p) (h : ∀ v, st_R a2 m p v → post v) : wpX_standing post (fp, fs, a0, a1, a2, a3) (nI m) p := by
  refine pk_eq m 0 (fun e => h 0 (Or.inr (Or.inr ⟨rfl, Or.inl e⟩))) (fun e => ?_)
  have key : ∀ d i, i + d = m → (∀ j, j < i → 0 < gm_tr (a2 j) (a2 (sl_f j m)) p) → wX_standing_8 post (nI m) p fp fs a0 a1 a2 a3 (d + 1) (nI i) := by
    intro d
    induction d with
    | zero =>
      intro i hi hF
      exact br_t (nI_le (by omega) (by omega)) (h 2 (Or.inl ⟨rfl, by omega, fun j hj => hF j (by omega)⟩))
    | succ d ih =>
      intro i hi hF
      have fl := sl_lt (i := i) (m := m) (by omega)
      have Bd := gm_trB (hP i (by omega)) (hP _ fl) hp
      have e1 := i3_ge0 (i := gm_tr (a2 i) (a2 (sl_f i m)) p) (by omega)
      have e2 := i3_eq0 (i := gm_tr (a2 i) (a2 (sl_f i m)) p) (by omega)
      have vin : vp_in (nI i) 25 := vp_in_nI (by omega) (by omega)
      refine br_f (nI_ge (by omega) (by omega)) (wx_following (by omega) (by omega) ?_)
      rw [show (if i + 1 < m then i + 1 else 0) = sl_f i m from rfl]
      refine ⟨vp_in_nI (by omega) (by omega), nm_e ⟨vin, ?_⟩⟩
      rw [nI_clamp (n := i) (by omega), nI_clamp (n := sl_f i m) (by omega)]
      refine wx_turn ⟨fun hg => ⟨fun hz => ⟨vin, wx_between (hP i (by omega)) (hP _ fl) hp (fun hd => br_f (by decide) (h 1 (Or.inr (Or.inl ⟨rfl, i, by omega, e2.mp hz, hd⟩)))) (fun hd => br_t rfl (h 0 (Or.inr (Or.inr ⟨rfl, Or.inr ⟨i, by omega, Or.inr ⟨e2.mp hz, hd⟩⟩⟩))))⟩, fun hz => nm_r (nI_1 i) (ih (i + 1) (by omega) fun j hj => ?_)⟩, fun hg => h 0 (Or.inr (Or.inr ⟨rfl, Or.inr ⟨i, by omega, Or.inl ?_⟩⟩))⟩
      · by_cases ej : j = i
        · have := e1.mp hg
          have := mt e2.mpr hz
          rw [ej]; omega
        · exact hF j (by omega)
      · have := mt e1.mpr hg
        omega
  exact ⟨_, key m 0 (by omega) (fun j hj => by omega)⟩
theorem st_inj {S : Int32 → Prop} (hS : ∀ r, S r → gm_P r) {L : Nat → Int32} {m : Nat} (hc : gm_cyc S L m) {a b : Nat} (ha : a < m) (hb : b < m) (ne : a ≠ b) : L a ≠ L b := by
  rcases Nat.lt_or_gt_of_ne ne with c | c
  · exact gm_rinj (gm_cr hS hc) c hb
  · exact (gm_rinj (gm_cr hS hc) c ha).symm
theorem st_str {S : Int32 → Prop} (hS : ∀ r, S r → gm_P r) {L : Nat → Int32} {m : Nat} (hc : gm_cyc S L m) (h3 : 3 ≤ m) {i k : Nat} (hi : i < m) (hk : k < m) (n1 : k ≠ i) (n2 : k ≠ sl_f i m) : 0 < gm_tr (L i) (L (sl_f i m)) (L k) := by
  have N := (gr_nx hc hi).2 (L k) (gm_cS hc hk)
  have n := N.1
  apply Classical.byContradiction
  intro c
  have z : gm_tr (L i) (L (sl_f i m)) (L k) = 0 := by omega
  have d := N.2 z
  have := gm_Eseg (gm_cE hS hc hk) (gm_cS hc hi) (gm_cS hc (sl_lt hi)) (st_inj hS hc hi hk n1.symm) (st_inj hS hc (sl_lt hi) hk n2.symm) (by rw [← gm_rot]; exact z)
  omega
theorem st_g1 (a b c p : Int32) (h : gm_tr a b p = 0) : gm_tr b c p * gm_sq a b = gm_tr a b c * gm_dt b a p := by unfold gm_tr at h; unfold gm_tr gm_sq gm_dt; grind
theorem st_g2 (a b z p : Int32) (h : gm_tr a b p = 0) : gm_tr z a p * gm_sq a b = gm_tr z a b * gm_dt a b p := by unfold gm_tr at h; unfold gm_tr gm_sq gm_dt; grind
/-- on a side's line and on no side's wrong hand: on the side -/
theorem st_geo {S : Int32 → Prop} (hS : ∀ r, S r → gm_P r) {L : Nat → Int32} {m : Nat} (hc : gm_cyc S L m) (h3 : 3 ≤ m) {p : Int32} {i : Nat} (hi : i < m) (t : gm_tr (L i) (L (sl_f i m)) p = 0) (ha : ∀ j, j < m → 0 ≤ gm_tr (L j) (L (sl_f j m)) p) : gm_dt p (L i) (L (sl_f i m)) ≤ 0 := by
  have fl := sl_lt hi
  have ffl := sl_lt fl
  obtain ⟨g, hg, eg⟩ : ∃ g, g < m ∧ sl_f g m = i := by
    by_cases c : i = 0
    · exact ⟨m - 1, by omega, by unfold sl_f; rw [if_neg (by omega), c]⟩
    · exact ⟨i - 1, by omega, by unfold sl_f; rw [if_pos (by omega)]; omega⟩
  have g1 : g ≠ sl_f i m := by
    intro e
    unfold sl_f at e eg
    split at e <;> split at eg <;> omega
  have f1 : sl_f (sl_f i m) m ≠ i := by
    unfold sl_f
    split <;> split <;> omega
  have f2 : sl_f (sl_f i m) m ≠ sl_f i m := by
    unfold sl_f
    split <;> split <;> omega
  have f3 : sl_f i m ≠ i := by
    unfold sl_f
    split <;> omega
  have s1 := st_str hS hc h3 hi ffl f1 f2
  have s2 := st_str hS hc h3 hg fl g1.symm (by rw [eg]; exact f3)
  have a1 := ha _ fl
  have a2 := ha g hg
  rw [eg] at s2 a2
  have q1 := st_g1 (L i) (L (sl_f i m)) (L (sl_f (sl_f i m) m)) p t
  have q2 := st_g2 (L i) (L (sl_f i m)) (L g) p t
  have sq : 0 < gm_sq (L i) (L (sl_f i m)) := by
    apply Classical.byContradiction
    intro c
    exact st_inj hS hc hi fl f3.symm (gm_sq0 (hS _ (gm_cS hc hi)) (hS _ (gm_cS hc fl)) (by have := gm_sqnn (L i) (L (sl_f i m)); omega))
  have m1 := Int.mul_nonneg a1 (Int.le_of_lt sq)
  have m2 := Int.mul_nonneg a2 (Int.le_of_lt sq)
  rw [q1, Int.mul_comm] at m1
  rw [q2, Int.mul_comm] at m2
  have d1 := gm_nn s1 m1
  have d2 := gm_nn s2 m2
  have b := gm_betw _ _ _ t
  rw [gm_dts (L i) (L (sl_f i m)) p] at b
  have m3 := Int.mul_nonneg d2 d1
  exact gm_np sq (by omega)
theorem wy_where {post : Int32 → Prop} {sp lf li : Nat → Int32} {S : Int32 → Prop} (hS : ∀ r, S r → gm_P r) {m : Nat} {p : Int32} (hm : m ≤ 24) (hc : m = 0 ∨ gm_cyc S li m) (hp : gm_P p) (h : ∀ v, st_R li m p v → post v) : wpY_where post (nI m, sp, lf, li) p := by
  have hP : ∀ i, i < m → gm_P (li i) := fun i hi => hc.elim (fun e => by omega) (fun c => hS _ (gm_cS c hi))
  refine pk_le 3 m (fun c => ?_) (fun c => ?_)
  · have hc := hc.resolve_left (by omega)
    have key : ∀ d i, i + d = m → ∀ y : Int, y ≤ 1 → (y = 1 ∨ ∃ j, j < i ∧ y = gm_tr (li j) (li (sl_f j m)) p) → (∀ j, j < i → y ≤ gm_tr (li j) (li (sl_f j m)) p) → wY_where_114 post p (nI m) sp lf li (d + 1) (Int32.ofInt y) (nI i) := by
      intro d
      induction d with
      | zero =>
        intro i hi y y1 ye yl
        have By : -7938 ≤ y := by
          rcases ye with e | ⟨j, hj, e⟩
          · omega
          · have := gm_trB (hP j (by omega)) (hP _ (sl_lt (by omega : j < m))) hp
            omega
        have e1 := i3_le0 (i := y) (by omega)
        have e2 := i3_eq0 (i := y) (by omega)
        refine br_t (nI_le (by omega) (by omega)) ⟨fun hl => ⟨fun hz => h 1 (Or.inr (Or.inl ⟨rfl, ?_⟩)), fun hz => h 0 (Or.inr (Or.inr ⟨rfl, Or.inr ?_⟩))⟩, fun hl => h 2 (Or.inl ⟨rfl, by omega, fun j hj => ?_⟩)⟩
        · have z := e2.mp hz
          rcases ye with e | ⟨j, hj, e⟩
          · omega
          · exact ⟨j, by omega, by omega, st_geo hS hc c (by omega) (by omega) (fun k hk => by have := yl k (by omega); omega)⟩
        · have z := mt e2.mpr hz
          have l := e1.mp hl
          rcases ye with e | ⟨j, hj, e⟩
          · omega
          · exact ⟨j, by omega, Or.inl (by omega)⟩
        · have l := mt e1.mpr hl
          have := yl j (by omega)
          omega
      | succ d ih =>
        intro i hi y y1 ye yl
        have fl := sl_lt (i := i) (m := m) (by omega)
        have Bd := gm_trB (hP i (by omega)) (hP _ fl) hp
        have By : -7938 ≤ y := by
          rcases ye with e | ⟨j, hj, e⟩
          · omega
          · have := gm_trB (hP j (by omega)) (hP _ (sl_lt (by omega : j < m))) hp
            omega
        have e1 := i3_le (i := y) (j := gm_tr (li i) (li (sl_f i m)) p) (by omega) (by omega)
        have md : (nI i + 1) - (nI i + 1) / nI m * nI m = nI (sl_f i m) := by
          rw [nI_1, pk_rem (by omega) (by omega) (by omega)]
          congr 1
          unfold sl_f
          split
          · exact Nat.mod_eq_of_lt (by omega)
          · rw [show i + 1 = m by omega]; exact Nat.mod_self m
        refine br_f (nI_ge (by omega) (by omega)) ⟨vp_in_nI (by omega) (by omega), nI_ne0 (by omega) (by omega), ?_⟩
        rw [md]
        refine ⟨vp_in_nI (by omega) (by omega), ?_⟩
        rw [nI_clamp (n := i) (by omega), nI_clamp (n := sl_f i m) (by omega)]
        refine wy_turn (hP i (by omega)) (hP _ fl) hp ⟨fun hl => nm_r (nI_1 i) (ih (i + 1) (by omega) y y1 ?_ fun j hj => ?_), fun hl => nm_r (nI_1 i) (ih (i + 1) (by omega) _ ?_ (Or.inr ⟨i, by omega, rfl⟩) fun j hj => ?_)⟩
        · rcases ye with e | ⟨j, hj, e⟩
          · exact Or.inl e
          · exact Or.inr ⟨j, by omega, e⟩
        · by_cases ej : j = i
          · rw [ej]; exact e1.mp hl
          · exact yl j (by omega)
        · have := mt e1.mpr hl
          omega
        · have l := mt e1.mpr hl
          by_cases ej : j = i
          · rw [ej]; exact Int.le_refl _
          · have := yl j (by omega)
            omega
    exact ⟨_, key m 0 (by omega) 1 (by omega) (Or.inl rfl) (fun j hj => by omega)⟩
  have h94 : post 1 → wY_where_94 post (nI m) sp lf li := fun q => br_f (by decide) q
  have h98 : post 0 → wY_where_98 post (nI m) sp lf li := fun q => br_t rfl q
  have z11 : sl_f 0 1 = 0 := by unfold sl_f; rfl
  have h26 : m ≠ 1 → wY_where_26 post p (nI m) sp lf li := by
    intro m1
    refine pk_eq m 2 (fun e => ?_) (fun e => h98 (h 0 (Or.inr (Or.inr ⟨rfl, Or.inl (by omega)⟩))))
    subst e
    have hc := hc.resolve_left (by omega)
    have f0 : sl_f 0 2 = 1 := by unfold sl_f; rfl
    have f1 : sl_f 1 2 = 0 := by unfold sl_f; rfl
    have p0 := hP 0 (by omega)
    have p1 := hP 1 (by omega)
    have Bd := gm_trB p0 p1 hp
    have e2 := i3_eq0 (i := gm_tr (li 0) (li 1) p) (by omega)
    have sq : 0 < gm_sq (li 0) (li 1) := by
      apply Classical.byContradiction
      intro c
      exact st_inj hS hc (a := 0) (b := 1) (by omega) (by omega) (by omega) (gm_sq0 p0 p1 (by omega))
    have out : gm_tr (li 0) (li 1) p = 0 → 0 < gm_dt p (li 0) (li 1) → post 0 := fun t d => h 0 (Or.inr (Or.inr ⟨rfl, Or.inr ⟨0, by omega, Or.inr (by rw [f0]; exact ⟨t, d⟩)⟩⟩))
    refine wy_turn p0 p1 hp ⟨fun hz => wy_behind p0 p1 hp (fun b0 => br_t rfl (wy_behind p1 p0 hp (fun b1 => br_t rfl (h94 (h 1 (Or.inr (Or.inl ⟨rfl, 0, by omega, ?_⟩))))) (fun b1 => br_f (by decide) (h98 (out (e2.mp hz) ?_))))) (fun b0 => br_f (by decide) (h98 (out (e2.mp hz) ?_))), fun hz => h98 (h 0 (Or.inr (Or.inr ⟨rfl, Or.inr ?_⟩)))⟩
    · have z := e2.mp hz
      rw [f0]
      have b := gm_betw _ _ _ z
      rw [gm_dts (li 0) (li 1) p] at b
      have m3 := Int.mul_nonneg b0 b1
      exact ⟨z, gm_np sq (by omega)⟩
    · have e := gm_dti (li 1) (li 0) p
      have e' : gm_dt p (li 0) (li 1) = gm_sq p (li 1) - gm_dt (li 1) (li 0) p := by unfold gm_dt gm_sq; grind
      have := gm_sqnn p (li 1)
      omega
    · have e' : gm_dt p (li 0) (li 1) = gm_sq p (li 0) - gm_dt (li 0) (li 1) p := by unfold gm_dt gm_sq; grind
      have := gm_sqnn p (li 0)
      omega
    · have z := mt e2.mpr hz
      rcases Int.lt_or_le (gm_tr (li 0) (li 1) p) 0 with l | l
      · exact ⟨0, by omega, Or.inl (by rw [f0]; exact l)⟩
      · exact ⟨1, by omega, Or.inl (by rw [f1, gm_swq]; omega)⟩
  refine pk_eq m 1 (fun e => ?_) (fun e => h26 e)
  subst e
  have p0 := hP 0 (by omega)
  refine ⟨fun e => h94 (h 1 (Or.inr (Or.inl ⟨rfl, 0, by omega, ?_⟩))), fun e => ?_⟩
  · rw [z11, e, gm_ppr]
    exact ⟨rfl, by unfold gm_dt; grind⟩
  · refine br_f (by decide) (h98 (h 0 (Or.inr (Or.inr ⟨rfl, Or.inr ⟨0, by omega, Or.inr ?_⟩⟩))))
    rw [z11, gm_ppr]
    refine ⟨rfl, ?_⟩
    have z : gm_dt p (li 0) (li 0) = gm_sq p (li 0) := by unfold gm_dt gm_sq; grind
    rw [z]
    apply Classical.byContradiction
    intro c
    exact e (gm_sq0 hp p0 (by omega))
end
section
/-- the first of the points -/
theorem pl_mn {x : Int32} {a0 : Nat → Int32} (hP : ∀ k, k < 24 → gm_P (a0 k)) : ∀ n, n ≤ 24 → (∀ k, k < n → bt x k = false) ∨ ∃ o, gm_mn (pl_S x a0 n) o := by
  intro n
  induction n with
  | zero => exact fun _ => Or.inl (fun k hk => by omega)
  | succ n ih =>
    intro hn
    by_cases hb : bt x n = true
    · rcases ih (by omega) with h | ⟨o, ho⟩
      · refine Or.inr ⟨a0 n, ⟨n, by omega, hb, rfl⟩, ?_⟩
        rintro r ⟨k, hk, hbk, rfl⟩ hne
        by_cases ek : k = n
        · rw [ek] at hne; exact absurd rfl hne
        · rw [h k (by omega)] at hbk; exact absurd hbk (by decide)
      · obtain ⟨j, hj, hbj, ej⟩ := ho.1
        rcases Int.lt_or_le (gm_la (a0 n)) (gm_la o) with l | l
        · refine Or.inr ⟨a0 n, ⟨n, by omega, hb, rfl⟩, ?_⟩
          rintro r ⟨k, hk, hbk, rfl⟩ hne
          by_cases ek : k = n
          · rw [ek] at hne; exact absurd rfl hne
          · by_cases eo : a0 k = o
            · rw [eo]; exact l
            · have := ho.2 _ ⟨k, by omega, hbk, rfl⟩ eo
              omega
        · refine Or.inr ⟨o, ⟨j, by omega, hbj, ej⟩, ?_⟩
          rintro r ⟨k, hk, hbk, rfl⟩ hne
          by_cases ek : k = n
          · have q : gm_la o ≠ gm_la (a0 k) := fun z => hne (gm_laext (hP k (by omega)) (ej ▸ hP j (by omega)) z.symm)
            rw [ek] at q ⊢
            omega
          · exact ho.2 _ ⟨k, by omega, hbk, rfl⟩ hne
    · have hb' : bt x n = false := by simpa using hb
      rcases ih (by omega) with h | ⟨o, ho⟩
      · refine Or.inl fun k hk => ?_
        by_cases ek : k = n
        · rw [ek]; exact hb'
        · exact h k (by omega)
      · obtain ⟨j, hj, hbj, ej⟩ := ho.1
        refine Or.inr ⟨o, ⟨j, by omega, hbj, ej⟩, ?_⟩
        rintro r ⟨k, hk, hbk, rfl⟩ hne
        by_cases ek : k = n
        · rw [ek, hb'] at hbk; exact absurd hbk (by decide)
        · exact ho.2 _ ⟨k, by omega, hbk, rfl⟩ hne
theorem pl_nx {x : Int32} {a0 : Nat → Int32} (hP : ∀ k, k < 24 → gm_P (a0 k)) {c : Int32} (hc : pl_S x a0 24 c) (hE : gm_E (pl_S x a0 24) c) : ∃ q, gm_nx (pl_S x a0 24) c q := by
  have hS : ∀ r, pl_S x a0 24 r → gm_P r := by rintro r ⟨k, hk, _, rfl⟩; exact hP k hk
  have e : ∀ r, pl_S x a0 24 r ↔ ∃ i, i < 24 ∧ (fun k => if bt x k = true then a0 k else c) i = r := by
    intro r
    constructor
    · rintro ⟨k, hk, hb, rfl⟩
      exact ⟨k, hk, by dsimp only; rw [if_pos hb]⟩
    · rintro ⟨k, hk, rfl⟩
      dsimp only
      by_cases hb : bt x k = true
      · rw [if_pos hb]; exact ⟨k, hk, hb, rfl⟩
      · rw [if_neg hb]; exact hc
  have e' : pl_S x a0 24 = fun r => ∃ i, i < 24 ∧ (fun k => if bt x k = true then a0 k else c) i = r := funext fun r => propext (e r)
  obtain ⟨q, hq, h⟩ := gm_nxX (s := 1) (Or.inl rfl) (hS c hc) (fun k => if bt x k = true then a0 k else c) 24 (fun i hi => hS _ ((e _).mpr ⟨i, hi, rfl⟩)) (e' ▸ hE)
  exact ⟨q, hq.elim (fun z => z ▸ hc) (fun z => (e q).mpr z), fun r hr => gm_N1.mpr (h r ((e r).mp hr))⟩
/-- every set of points that isn't empty has a ring -/
theorem pl_ex {x : Int32} {a0 : Nat → Int32} (hP : ∀ k, k < 24 → gm_P (a0 k)) {o : Int32} (ho : gm_mn (pl_S x a0 24) o) : ∃ L m, gm_cyc (pl_S x a0 24) L m := by
  have hS : ∀ r, pl_S x a0 24 r → gm_P r := by rintro r ⟨k, hk, _, rfl⟩; exact hP k hk
  apply Classical.byContradiction
  intro hno
  have key : ∀ n, ∃ L, wr_P (pl_S x a0 24) o L n := by
    intro n
    induction n with
    | zero => exact ⟨fun _ => o, rfl, fun j hj => by omega⟩
    | succ n ih =>
      obtain ⟨L, hL⟩ := ih
      have hs : ∀ j, j ≤ n → pl_S x a0 24 (L j) := by
        intro j hj
        cases j with
        | zero => rw [hL.1]; exact ho.1
        | succ j => exact (hL.2 j hj).1.1
      have hE : gm_E (pl_S x a0 24) (L n) := by
        cases n with
        | zero => rw [hL.1]; exact gm_mnE ho
        | succ n => exact gm_nxE hS (hS _ (hs n (by omega))) (hL.2 n (by omega)).1
      obtain ⟨q, hq⟩ := pl_nx hP (hs n (Nat.le_refl n)) hE
      by_cases e : q = o
      · exact absurd ⟨L, n + 1, by omega, hL.1 ▸ ho, fun i hi => hL.2 i (by omega), by rw [hL.1, ← e]; exact hq⟩ hno
      · have z : upd L (n + 1) q 0 = o := (pk_un (by omega)).trans hL.1
        refine ⟨upd L (n + 1) q, z, fun j hj => ?_⟩
        rw [z]
        have q1 : upd L (n + 1) q j = L j := pk_un (by omega)
        by_cases ej : j = n
        · rw [q1, ej, pk_us]; exact ⟨hq, e⟩
        · have q2 : upd L (n + 1) q (j + 1) = L (j + 1) := pk_un (by omega)
          rw [q1, q2, ← hL.1]; exact hL.2 j (by omega)
  obtain ⟨L, hL⟩ := key 24
  have hs : ∀ j, j ≤ 24 → pl_S x a0 24 (L j) := by
    intro j hj
    cases j with
    | zero => rw [hL.1]; exact ho.1
    | succ j => exact (hL.2 j hj).1.1
  have hf : ∀ j, ∃ i, j < 25 → (i < 24 ∧ a0 i = L j) := by
    intro j
    by_cases c : j < 25
    · obtain ⟨i, hi, _, e⟩ := hs j (by omega)
      exact ⟨i, fun _ => ⟨hi, e⟩⟩
    · exact ⟨0, fun c' => absurd c' c⟩
  have := ph_pig 24 25 (fun j => (hf j).choose) (fun j hj => ((hf j).choose_spec hj).1) (fun i j hij hj e => by
    have e1 := ((hf i).choose_spec (by omega)).2
    have e2 := ((hf j).choose_spec hj).2
    have e : (hf i).choose = (hf j).choose := e
    exact wr_inj hS ho.1 hL i j hij (by omega) (by rw [← e1, ← e2, e]))
  omega
/-- L lists the m corners of x -/
def hl_C (x : Int32) (a0 L : Nat → Int32) (m : Nat) : Prop := m = 0 ∧ (∀ r, ¬ pl_S x a0 24 r) ∨ gm_cyc (pl_S x a0 24) L m
theorem pl_P {x : Int32} {a0 : Nat → Int32} (hP : ∀ k, k < 24 → gm_P (a0 k)) : ∀ r, pl_S x a0 24 r → gm_P r := by rintro r ⟨k, hk, _, rfl⟩; exact hP k hk
theorem hl_ref {x : Int32} {a0 L : Nat → Int32} {m : Nat} (hP : ∀ k, k < 24 → gm_P (a0 k)) (h : hl_C x a0 L m) : gm_ref (pl_S x a0 24) L m := by
  rcases h with ⟨rfl, hn⟩ | h
  · exact ⟨fun p => ⟨fun q => absurd q.1 (hn p), fun ⟨i, hi, _⟩ => by omega⟩, fun q => by omega, fun i _ q => by omega, fun i j _ _ q => by omega⟩
  · exact gm_cr (pl_P hP) h
theorem hl_of {x : Int32} {a0 L : Nat → Int32} {m : Nat} (hP : ∀ k, k < 24 → gm_P (a0 k)) (h : gm_ref (pl_S x a0 24) L m) : hl_C x a0 L m := by
  rcases pl_mn (x := x) hP 24 (Nat.le_refl 24) with hn | ⟨o, ho⟩
  · refine Or.inl ⟨?_, ?_⟩
    · apply Classical.byContradiction
      intro c
      obtain ⟨k, hk, hb, _⟩ := (h.2.1 (by omega)).1
      rw [hn k hk] at hb
      exact absurd hb (by decide)
    · rintro r ⟨k, hk, hb, _⟩
      rw [hn k hk] at hb
      exact absurd hb (by decide)
  · obtain ⟨M, n, hM⟩ := pl_ex hP ho
    obtain ⟨e, eL⟩ := gm_run (pl_P hP) (gm_cr (pl_P hP) hM) h
    subst e
    exact Or.inr (gm_cycg eL hM)
theorem hl_ex {x : Int32} {a0 : Nat → Int32} (hP : ∀ k, k < 24 → gm_P (a0 k)) : ∃ L m, hl_C x a0 L m := by
  rcases pl_mn (x := x) hP 24 (Nat.le_refl 24) with hn | ⟨o, ho⟩
  · refine ⟨fun _ => 0, 0, Or.inl ⟨rfl, ?_⟩⟩
    rintro r ⟨k, hk, hb, _⟩
    rw [hn k hk] at hb
    exact absurd hb (by decide)
  · obtain ⟨M, n, hM⟩ := pl_ex hP ho
    exact ⟨M, n, Or.inr hM⟩
theorem hl_un {x : Int32} {a0 L L' : Nat → Int32} {m m' : Nat} (hP : ∀ k, k < 24 → gm_P (a0 k)) (h : hl_C x a0 L m) (h' : hl_C x a0 L' m') : m = m' ∧ ∀ i, i < m → L i = L' i := gm_run (pl_P hP) (hl_ref hP h) (hl_ref hP h')
theorem hl_c {x : Int32} {a0 L : Nat → Int32} {m : Nat} (h : hl_C x a0 L m) : m = 0 ∨ gm_cyc (pl_S x a0 24) L m := h.elim (fun q => Or.inl q.1) Or.inr
theorem hl_P {x : Int32} {a0 L : Nat → Int32} {m : Nat} (hP : ∀ k, k < 24 → gm_P (a0 k)) (h : hl_C x a0 L m) {i : Nat} (hi : i < m) : gm_P (L i) := by
  rcases h with ⟨e, _⟩ | h
  · omega
  · exact pl_P hP _ (gm_cS h hi)
/-- where p stands to the hull of x -/
def hl_st (x : Int32) (a0 : Nat → Int32) (p v : Int32) : Prop := ∃ L m, hl_C x a0 L m ∧ st_R L m p v
theorem hl_stu {x : Int32} {a0 : Nat → Int32} (hP : ∀ k, k < 24 → gm_P (a0 k)) {p v v' : Int32} (hp : gm_P p) (h : hl_st x a0 p v) (h' : hl_st x a0 p v') : v = v' := by
  obtain ⟨L, m, hc, hs⟩ := h
  obtain ⟨L', m', hc', hs'⟩ := h'
  obtain ⟨e, eL⟩ := hl_un hP hc hc'
  subst e
  exact st_un (pl_P hP) (hl_c hc') hp (st_cg eL hs) hs'
theorem hl_st3 {x : Int32} {a0 : Nat → Int32} {p v : Int32} (h : hl_st x a0 p v) : v = 0 ∨ v = 1 ∨ v = 2 := by
  obtain ⟨L, m, _, hs⟩ := h
  rcases hs with ⟨a, _⟩ | ⟨a, _⟩ | ⟨a, _⟩
  · exact Or.inr (Or.inr a)
  · exact Or.inr (Or.inl a)
  · exact Or.inl a
theorem wx_hull {post : Int32 → SX → Prop} {fp fs x : Int32} {a0 a1 a2 a3 : Nat → Int32} (hP : ∀ k, k < 24 → gm_P (a0 k))
    (h : ∀ m L b f, m ≤ 24 → hl_C x a0 L m → post (nI m) (fp, f, a0, b, L, a3)) : wpX_hullOf post (fp, fs, a0, a1, a2, a3) x := wx_hullOf hP h
theorem wx_stand {post : Int32 → Prop} {fp fs x : Int32} {a0 a1 a2 a3 : Nat → Int32} {m : Nat} {p : Int32} (hP : ∀ k, k < 24 → gm_P (a0 k)) (hm : m ≤ 24) (hc : hl_C x a0 a2 m) (hp : gm_P p) (h : ∀ v, hl_st x a0 p v → post v) : wpX_standing post (fp, fs, a0, a1, a2, a3) (nI m) p :=
  wx_standing hm (fun i hi => hl_P hP hc hi) hp (fun v hv => h v ⟨a2, m, hc, hv⟩)
theorem wy_wher {post : Int32 → Prop} {sp lf li : Nat → Int32} {x : Int32} {a0 : Nat → Int32} (hP : ∀ k, k < 24 → gm_P (a0 k)) {m : Nat} {p : Int32} (hm : m ≤ 24) (hc : hl_C x a0 li m) (hp : gm_P p) (h : ∀ v, hl_st x a0 p v → post v) : wpY_where post (nI m, sp, lf, li) p :=
  wy_where (pl_P hP) hm (hl_c hc) hp (fun v hv => h v ⟨li, m, hc, hv⟩)
/-- borderOf: the points of x that stand on the border -/
theorem wx_bord {post : Int32 → SX → Prop} {fp fs x : Int32} {a0 a1 a2 a3 : Nat → Int32} (hP : ∀ k, k < 24 → gm_P (a0 k))
    (h : ∀ L b f r, (∀ i, i < 32 → (bt r i = true ↔ (i < 24 ∧ bt x i = true ∧ hl_st x a0 (a0 i) 1))) → post r (fp, f, a0, b, L, a3)) : wpX_borderOf post (fp, fs, a0, a1, a2, a3) x := by
  unfold wpX_borderOf
  refine wx_hull hP (fun m L b f hm hc => ?_)
  have key : ∀ d i, i + d = 24 → ∀ r, (∀ j, j < 32 → (bt r j = true ↔ (j < i ∧ bt x j = true ∧ hl_st x a0 (a0 j) 1))) → wX_borderOf_11 post x (nI m) fp f a0 b L a3 (d + 1) r (nI i) := by
    intro d
    induction d with
    | zero =>
      intro i hi r hr
      have e24 : i = 24 := by omega
      subst e24
      exact br_t (nI_le (a := 24) (by omega) (by omega)) (h L b f r hr)
    | succ d ih =>
      intro i hi r hr
      have no : (bt x i = true → ¬ hl_st x a0 (a0 i) 1) → ∀ y : Int32, y = nI i + 1 → wX_borderOf_11 post x (nI m) fp f a0 b L a3 (d + 1) r y := by
        intro hn
        refine nm_r (nI_1 i) (ih (i + 1) (by omega) r fun j hj => ?_)
        rw [hr j hj]
        by_cases ej : j = i
        · rw [ej]
          exact ⟨fun q => by omega, fun q => absurd q.2.2 (hn q.2.1)⟩
        · exact ⟨fun q => ⟨by omega, q.2⟩, fun q => ⟨by omega, q.2⟩⟩
      refine br_f (nI_ge (b := 24) (by omega) (by omega)) (wx_hasBit (by omega) (fun hb => br_f (by decide) ⟨vp_in_nI (by omega) (by omega), ?_⟩) (fun hb => br_t rfl (no fun q => absurd q (by rw [hb]; decide))))
      rw [nI_clamp (by omega)]
      refine wx_stand hP hm hc (hP i (by omega)) (fun v hv => ⟨fun e => nm_e (nm_r (nI_1 i) (ih (i + 1) (by omega) _ fun j hj => ?_)), fun e => no fun _ q => e (hl_stu hP (hP i (by omega)) hv q)⟩)
      rw [b_or, b_one (by omega) hj, Bool.or_eq_true, hr j hj, decide_eq_true_eq]
      by_cases ej : j = i
      · rw [ej]
        exact ⟨fun _ => ⟨by omega, hb, e ▸ hv⟩, fun _ => Or.inr rfl⟩
      · exact ⟨fun q => q.elim (fun q => ⟨by omega, q.2⟩) (fun q => absurd q ej), fun q => Or.inl ⟨by omega, q.2⟩⟩
  exact ⟨_, key 24 0 (by omega) 0 (fun j hj => by rw [b_0]; exact ⟨fun q => absurd q (by decide), fun q => by omega⟩)⟩
theorem b_iff {x y : Int32} (h : ∀ i, i < 32 → (bt x i = true ↔ bt y i = true)) : x = y := by
  apply b_ext
  intro i hi
  have := h i hi
  cases hx : bt x i <;> cases hy : bt y i <;> simp_all
end
section
def i_Rel (_ : Nat) (u : SX) (v : SY) : Prop := rl_R u.1 u.2.2.1 v.2.1
theorem i_up {k : Nat} {u : SX} {v : SY} (h : i_Rel k u v) : i_Rel (k + 3) u v := h
theorem rl_1 {fp : Int32} {a0 sp : Nat → Int32} (h : rl_R fp a0 sp) {k : Nat} (hk : k < 24) (hb : bt fp k = true) : sp k - 1 = a0 k := by
  rw [h.2.2 k hk, if_pos hb, Int32.add_sub_cancel]
theorem i_vc0 : wpX_init (fun u => wpY_init (fun v => i_Rel 0 u v)) := by
  show rl_R 0 (fun _ => 0) (fun _ => 0)
  refine ⟨fun k hk => (show gm_P 0 from ⟨by decide, by decide⟩), fun i _ _ => b_0 i, fun k hk => ?_⟩
  rw [b_0, if_neg (by decide)]
theorem rl_add {fp p : Int32} {a0 sp : Nat → Int32} (h : rl_R fp a0 sp) (hp : gm_P p) {j : Nat} (hj : j < 24) : rl_R (fp ||| ((1 : Int32) <<< (nI j &&& 31))) (upd a0 j p) (upd sp j (p + 1)) := by
  have hb : ∀ i, i < 32 → bt (fp ||| ((1 : Int32) <<< (nI j &&& 31))) i = (bt fp i || decide (i = j)) := fun i hi => by rw [b_or, b_one (by omega) hi]
  refine ⟨fun k hk => ?_, fun i h1 h2 => ?_, fun k hk => ?_⟩
  · by_cases e : k = j
    · rw [e, pk_us]; exact hp
    · rw [pk_un e]; exact h.1 k hk
  · rw [hb i h2, h.2.1 i h1 h2, decide_eq_false (by omega)]; rfl
  · rw [hb k (by omega)]
    by_cases e : k = j
    · rw [e, pk_us, pk_us, decide_eq_true rfl, Bool.or_true, if_pos rfl]
    · rw [pk_un e, pk_un e, decide_eq_false e, Bool.or_false]; exact h.2.2 k hk
theorem i_vc_add {k : Nat} {u : SX} {v : SY} (I : i_Rel k u v) (hk : k + 3 ≤ 1536) (v1 : Int32) : wpX_add (fun r u' => wpY_add (fun r' v' => r' = r ∧ i_Rel (k + 3) u' v') v v1) u v1 := by
  obtain ⟨fp, fs, a0, a1, a2, a3⟩ := u
  obtain ⟨fm, sp, lf, li⟩ := v
  have I : rl_R fp a0 sp := I
  unfold wpX_add
  refine wx_isPlace (fun hp => br_f (by decide) ?_) (fun hp => br_t rfl ?_)
  rotate_left
  · unfold wpY_add
    exact wy_isPlace (fun q => absurd q hp) (fun _ => br_t rfl ⟨rfl, I⟩)
  by_cases hx : ∃ j, j < 24 ∧ bt fp j = false
  · obtain ⟨j, ⟨hj, hb⟩, hl⟩ := pk_least (fun j => j < 24 ∧ bt fp j = false) hx
    have ht : ∀ i, i < j → bt fp i = true := by
      intro i hi
      have := hl i hi
      cases c : bt fp i
      · exact absurd ⟨by omega, c⟩ this
      · rfl
    have X : ∀ post : Int32 → SX → Prop, post (nI j) (fp ||| ((1 : Int32) <<< (nI j &&& 31)), fs, upd a0 j v1, a1, a2, a3) → ∀ d i, i + d = j → wX_add_13 post v1 fp fs a0 a1 a2 a3 (d + 1) (nI i) := by
      intro post hpost d
      induction d with
      | zero =>
        intro i hi
        rw [show i = j by omega]
        refine br_f (nI_ge (b := 24) hj (by omega)) (wx_hasBit (by omega) (fun q => absurd q (by rw [hb]; decide)) (fun _ => br_t rfl ⟨vp_in_nI hj (by omega), nm_e (nm_e ?_)⟩))
        rw [nI_clamp (by omega)]
        exact hpost
      | succ d ih =>
        intro i hi
        exact br_f (nI_ge (b := 24) (by omega) (by omega)) (wx_hasBit (by omega) (fun _ => br_f (by decide) (nm_r (nI_1 i) (ih (i + 1) (by omega)))) (fun q => absurd q (by rw [ht i (by omega)]; decide)))
    have Y : ∀ post : Int32 → SY → Prop, post (nI j) (fm, upd sp j (v1 + 1), lf, li) → ∀ d i, i + d = j → wY_add_14 post v1 fm sp lf li (d + 1) (nI i) := by
      intro post hpost d
      induction d with
      | zero =>
        intro i hi
        rw [show i = j by omega]
        refine br_f (nI_ge (b := 24) hj (by omega)) ⟨vp_in_nI hj (by omega), ?_⟩
        rw [nI_clamp (by omega)]
        exact br_t ((rl_0 I hj).mpr hb) ⟨vp_in_nI hj (by omega), nm_e hpost⟩
      | succ d ih =>
        intro i hi
        refine br_f (nI_ge (b := 24) (by omega) (by omega)) ⟨vp_in_nI (by omega) (by omega), ?_⟩
        rw [nI_clamp (by omega)]
        refine br_f (fun q => ?_) (nm_r (nI_1 i) (ih (i + 1) (by omega)))
        have := (rl_0 I (by omega)).mp q
        rw [ht i (by omega)] at this
        exact absurd this (by decide)
    refine ⟨_, X _ ?_ j 0 (by omega)⟩
    unfold wpY_add
    refine wy_isPlace (fun _ => br_f (by decide) ⟨_, Y _ ⟨rfl, ?_⟩ j 0 (by omega)⟩) (fun q => absurd hp q)
    exact rl_add I hp hj
  · have ht : ∀ i, i < 24 → bt fp i = true := by
      intro i hi
      cases c : bt fp i
      · exact absurd ⟨i, hi, c⟩ hx
      · rfl
    have X : ∀ post : Int32 → SX → Prop, post (-20000) (fp, fs, a0, a1, a2, a3) → ∀ d i, i + d = 24 → wX_add_13 post v1 fp fs a0 a1 a2 a3 (d + 1) (nI i) := by
      intro post hpost d
      induction d with
      | zero =>
        intro i hi
        exact br_t (nI_le (a := 24) (by omega) (by omega)) hpost
      | succ d ih =>
        intro i hi
        exact br_f (nI_ge (b := 24) (by omega) (by omega)) (wx_hasBit (by omega) (fun _ => br_f (by decide) (nm_r (nI_1 i) (ih (i + 1) (by omega)))) (fun q => absurd q (by rw [ht i (by omega)]; decide)))
    have Y : ∀ post : Int32 → SY → Prop, post (-20000) (fm, sp, lf, li) → ∀ d i, i + d = 24 → wY_add_14 post v1 fm sp lf li (d + 1) (nI i) := by
      intro post hpost d
      induction d with
      | zero =>
        intro i hi
        exact br_t (nI_le (a := 24) (by omega) (by omega)) hpost
      | succ d ih =>
        intro i hi
        refine br_f (nI_ge (b := 24) (by omega) (by omega)) ⟨vp_in_nI (by omega) (by omega), ?_⟩
        rw [nI_clamp (by omega)]
        refine br_f (fun q => ?_) (nm_r (nI_1 i) (ih (i + 1) (by omega)))
        have := (rl_0 I (by omega)).mp q
        rw [ht i (by omega)] at this
        exact absurd this (by decide)
    refine ⟨_, X _ ?_ 24 0 (by omega)⟩
    unfold wpY_add
    exact wy_isPlace (fun _ => br_f (by decide) ⟨_, Y _ ⟨rfl, I⟩ 24 0 (by omega)⟩) (fun q => absurd hp q)
theorem wx_isPoint {post : Int32 → Prop} {fp fs : Int32} {a0 a1 a2 a3 : Nat → Int32} {x : Int32} (h1 : ∀ j, j < 24 → x = nI j → bt fp j = true → post 1) (h0 : (∀ j, j < 24 → x = nI j → bt fp j = false) → post 0) : wpX_isPoint post (fp, fs, a0, a1, a2, a3) x := by
  have nn : ∀ j, j < 24 → ¬ nI j < 0 := fun j hj => nI_pos (by omega)
  refine ⟨fun c => h0 fun j hj e => absurd (e ▸ c) (nn j hj), fun c => ⟨fun c2 => h0 fun j hj e => ?_, fun c2 => ?_⟩⟩
  · rw [e] at c2
    exact absurd c2 (nI_ge (b := 24) hj (by omega))
  · rcases pk_ix x (n := 24) (by omega) with q | q | ⟨j, hj, e⟩
    · exact absurd q c
    · exact absurd q c2
    · subst e
      refine wx_hasBit (by omega) (fun hb => br_f (by decide) (h1 j hj rfl hb)) (fun hb => br_t rfl (h0 fun i hi e => ?_))
      rw [(nI_eq (by omega) (by omega)).mp e] at hb
      exact hb
theorem wy_isP {post : Int32 → Prop} {fm fp : Int32} {a0 sp lf li : Nat → Int32} (h : rl_R fp a0 sp) {x : Int32} (h1 : ∀ j, j < 24 → x = nI j → bt fp j = true → post 1) (h0 : (∀ j, j < 24 → x = nI j → bt fp j = false) → post 0) : wpY_is post (fm, sp, lf, li) x := by
  rcases pk_ix x (n := 24) (by omega) with q | q | ⟨j, hj, e⟩
  · exact br_t q (h0 fun j hj e => absurd (e ▸ q) (nI_pos (by omega)))
  · by_cases c : x < 0
    · exact br_t c (h0 fun j hj e => absurd (e ▸ c) (nI_pos (by omega)))
    · refine br_f c (br_t q (h0 fun j hj e => ?_))
      rw [e] at q
      exact absurd q (nI_ge (b := 24) hj (by omega))
  · subst e
    refine wy_is h hj (fun hb => h1 j hj rfl hb) (fun hb => h0 fun i hi e => ?_)
    rw [(nI_eq (by omega) (by omega)).mp e] at hb
    exact hb
theorem rl_rem {fp : Int32} {a0 sp : Nat → Int32} (h : rl_R fp a0 sp) {j : Nat} (hj : j < 24) : rl_R (fp &&& (((1 : Int32) <<< (nI j &&& 31)) ^^^ (-1))) a0 (upd sp j 0) := by
  have hb : ∀ i, i < 32 → bt (fp &&& (((1 : Int32) <<< (nI j &&& 31)) ^^^ (-1))) i = (bt fp i && !decide (i = j)) := fun i hi => by
    rw [b_and, b_xor, b_one (by omega) hi, b_m1 i hi, Bool.xor_true]
  refine ⟨h.1, fun i h1 h2 => ?_, fun k hk => ?_⟩
  · rw [hb i h2, h.2.1 i h1 h2]; rfl
  · rw [hb k (by omega)]
    by_cases e : k = j
    · rw [e, pk_us, decide_eq_true rfl]; simp
    · rw [pk_un e, decide_eq_false e]; simp only [Bool.not_false, Bool.and_true]; exact h.2.2 k hk
theorem i_vc_remove {k : Nat} {u : SX} {v : SY} (I : i_Rel k u v) (hk : k + 3 ≤ 1536) (v1 : Int32) : wpX_remove (fun r u' => wpY_remove (fun r' v' => r' = r ∧ i_Rel (k + 3) u' v') v v1) u v1 := by
  obtain ⟨fp, fs, a0, a1, a2, a3⟩ := u
  obtain ⟨fm, sp, lf, li⟩ := v
  have I : rl_R fp a0 sp := I
  unfold wpX_remove
  refine wx_isPoint (fun j hj e hb => br_f (by decide) (nm_e ?_)) (fun hn => br_t rfl ?_)
  · subst e
    refine ⟨vp_in_nI hj (by omega), ?_⟩
    unfold wpY_remove
    refine wy_is I hj (fun _ => br_f (by decide) ⟨vp_in_nI hj (by omega), nm_e ⟨vp_in_nI hj (by omega), nm_e ⟨?_, ?_⟩⟩⟩) (fun q => absurd hb (by rw [q]; decide))
    · rw [nI_clamp (by omega), rl_1 I hj hb]
    · rw [nI_clamp (by omega)]
      exact rl_rem I hj
  · unfold wpY_remove
    exact wy_isP I (fun j hj e hb => absurd hb (by rw [hn j hj e]; decide)) (fun _ => br_t rfl ⟨rfl, I⟩)
theorem wy_points {post : Int32 → Prop} {fm fp : Int32} {a0 sp lf li : Nat → Int32} (h : rl_R fp a0 sp) (hp : post fp) : wpY_points post (fm, sp, lf, li) := by
  have key : ∀ d i, i + d = 24 → ∀ x, (∀ j, j < 32 → (bt x j = true ↔ (j < i ∧ bt fp j = true))) → wY_points_4 post fm sp lf li (d + 1) x (nI i) := by
    intro d
    induction d with
    | zero =>
      intro i hi x hx
      have e24 : i = 24 := by omega
      subst e24
      have e : x = fp := b_iff fun j hj => by
        rw [hx j hj]
        refine ⟨fun q => q.2, fun q => ⟨?_, q⟩⟩
        apply Classical.byContradiction
        intro c
        rw [h.2.1 j (by omega) hj] at q
        exact absurd q (by decide)
      rw [e]
      exact br_t (nI_le (a := 24) (by omega) (by omega)) hp
    | succ d ih =>
      intro i hi x hx
      refine br_f (nI_ge (b := 24) (by omega) (by omega)) (wy_is h (by omega) (fun hb => br_f (by decide) (nm_e (nm_r (nI_1 i) (ih (i + 1) (by omega) _ fun j hj => ?_)))) (fun hb => br_t rfl (nm_r (nI_1 i) (ih (i + 1) (by omega) x fun j hj => ?_))))
      · rw [b_or, b_one (by omega) hj, Bool.or_eq_true, hx j hj, decide_eq_true_eq]
        by_cases ej : j = i
        · rw [ej]; exact ⟨fun _ => ⟨by omega, hb⟩, fun _ => Or.inr rfl⟩
        · exact ⟨fun q => q.elim (fun q => ⟨by omega, q.2⟩) (fun q => absurd q ej), fun q => Or.inl ⟨by omega, q.2⟩⟩
      · rw [hx j hj]
        by_cases ej : j = i
        · rw [ej, hb]; exact ⟨fun q => absurd q.2 (by decide), fun q => absurd q.2 (by decide)⟩
        · exact ⟨fun q => ⟨by omega, q.2⟩, fun q => ⟨by omega, q.2⟩⟩
  exact ⟨_, key 24 0 (by omega) 0 (fun j hj => by rw [b_0]; exact ⟨fun q => absurd q (by decide), fun q => by omega⟩)⟩
theorem i_vc_points {k : Nat} {u : SX} {v : SY} (I : i_Rel k u v) (hk : k + 3 ≤ 1536) : wpX_points (fun r => wpY_points (fun r' => r' = r ∧ i_Rel (k + 3) u v) v) u := by
  obtain ⟨fp, fs, a0, a1, a2, a3⟩ := u
  obtain ⟨fm, sp, lf, li⟩ := v
  have I : rl_R fp a0 sp := I
  exact wy_points I ⟨rfl, I⟩
theorem i_vc_corners {k : Nat} {u : SX} {v : SY} (I : i_Rel k u v) (hk : k + 3 ≤ 1536) (v1 : Int32) : wpX_corners (fun r u' => wpY_corners (fun r' v' => r' = r ∧ i_Rel (k + 3) u' v') v v1) u v1 := by
  obtain ⟨fp, fs, a0, a1, a2, a3⟩ := u
  obtain ⟨fm, sp, lf, li⟩ := v
  have I : rl_R fp a0 sp := I
  unfold wpX_corners wpY_corners
  refine wx_isEngine (fun he => br_f (by decide) (wx_find_ring I.1 he fun m L b f hm hr => wy_look I fun m' L' lf' hm' hc hr' => wy_engine (fun _ => br_f (by decide) ⟨?_, I⟩) (fun q => absurd he q))) (fun he => br_t rfl (wy_look I fun m' L' lf' hm' hc hr' => wy_engine (fun q => absurd q he) (fun _ => br_t rfl ⟨rfl, I⟩)))
  rw [(gm_run (pl_P I.1) hr hr').1]
theorem i_vc_corner {k : Nat} {u : SX} {v : SY} (I : i_Rel k u v) (hk : k + 3 ≤ 1536) (v1 : Int32) (v2 : Int32) : wpX_corner (fun r u' => wpY_corner (fun r' v' => r' = r ∧ i_Rel (k + 3) u' v') v v1 v2) u v1 v2 := by
  obtain ⟨fp, fs, a0, a1, a2, a3⟩ := u
  obtain ⟨fm, sp, lf, li⟩ := v
  have I : rl_R fp a0 sp := I
  unfold wpX_corner wpY_corner
  refine wx_isEngine (fun he => br_f (by decide) (wx_find_ring I.1 he fun m L b f hm hr => ?_)) (fun he => br_t rfl (wy_look I fun m' L' lf' hm' hc hr' => wy_engine (fun q => absurd q he) (fun _ => br_t rfl ⟨rfl, I⟩)))
  refine ⟨fun c => wy_look I fun m' L' lf' hm' hc hr' => wy_engine (fun _ => br_f (by decide) (br_t c ⟨rfl, I⟩)) (fun q => absurd he q), fun c => ?_⟩
  rcases pk_ix v2 (n := m) (by omega) with q | q | ⟨j, hj, e⟩
  · exact absurd q c
  · refine br_f (Int32.not_lt.mpr q) (wy_look I fun m' L' lf' hm' hc hr' => wy_engine (fun _ => br_f (by decide) (br_f c (br_t ?_ ⟨rfl, I⟩))) (fun q => absurd he q))
    rw [← (gm_run (pl_P I.1) hr hr').1]
    exact q
  · subst e
    refine br_t (nI_lt hj (by omega)) ⟨vp_in_nI (by omega) (by omega), wy_look I fun m' L' lf' hm' hc hr' => wy_engine (fun _ => br_f (by decide) (br_f c ?_)) (fun q => absurd he q)⟩
    obtain ⟨em, eL⟩ := gm_run (pl_P I.1) hr hr'
    subst em
    refine br_f (nI_ge hj (by omega)) ⟨vp_in_nI (by omega) (by omega), ?_, I⟩
    rw [nI_clamp (by omega), eL j hj]
theorem i_vc_agree {k : Nat} {u : SX} {v : SY} (I : i_Rel k u v) (hk : k + 3 ≤ 1536) (v1 : Int32) (v2 : Int32) : wpX_agree (fun r u' => wpY_agree (fun r' => r' = r ∧ i_Rel (k + 3) u' v) v v1 v2) u v1 v2 := by
  obtain ⟨fp, fs, a0, a1, a2, a3⟩ := u
  obtain ⟨fm, sp, lf, li⟩ := v
  have I : rl_R fp a0 sp := I
  unfold wpX_agree
  refine wx_isEngine (fun he => br_f (by decide) (wx_isEngine (fun he2 => br_f (by decide) (wx_find_ring I.1 he fun m L b f hm hr => wx_find_otherRing I.1 he2 fun m' L' b' f' hm' hr' => ?_)) (fun he2 => br_t rfl ?_))) (fun he => br_t rfl ?_)
  · obtain ⟨em, eL⟩ := gm_run (pl_P I.1) hr hr'
    subst em
    refine br_t rfl ?_
    have key : ∀ d i, i + d = m → ∀ post : Int32 → SX → Prop, post 1 (fp, f', a0, b', L, L') → wX_agree_48 post (nI m) fp f' a0 b' L L' (d + 1) (nI i) := by
      intro d
      induction d with
      | zero => exact fun i hi post hp => br_t (nI_le (by omega) (by omega)) hp
      | succ d ih =>
        intro i hi post hp
        refine br_f (nI_ge (by omega) (by omega)) ⟨vp_in_nI (by omega) (by omega), vp_in_nI (by omega) (by omega), ?_⟩
        rw [nI_clamp (by omega)]
        exact br_t (eL i (by omega)) (nm_r (nI_1 i) (ih (i + 1) (by omega) post hp))
    refine ⟨_, key m 0 (by omega) _ ?_⟩
    unfold wpY_agree
    exact wy_engine (fun _ => br_f (by decide) (wy_engine (fun _ => br_f (by decide) ⟨rfl, I⟩) (fun q => absurd he2 q))) (fun q => absurd he q)
  · unfold wpY_agree
    exact wy_engine (fun _ => br_f (by decide) (wy_engine (fun q => absurd q he2) (fun _ => br_t rfl ⟨rfl, I⟩))) (fun q => absurd he q)
  · unfold wpY_agree
    exact wy_engine (fun q => absurd q he) (fun _ => br_t rfl ⟨rfl, I⟩)
/-- the fan's sum -/
def ar_sm (L : Nat → Int32) : Nat → Int32
  | 0 => 0
  | t + 1 => ar_sm L t + Int32.ofInt (gm_tr (L 0) (L (t + 1)) (L (t + 2)))
theorem ar_smc {L L' : Nat → Int32} {m : Nat} (e : ∀ i, i < m → L i = L' i) : ∀ t, t + 2 ≤ m ∨ t = 0 → ar_sm L t = ar_sm L' t := by
  intro t
  induction t with
  | zero => exact fun _ => rfl
  | succ t ih =>
    intro h
    unfold ar_sm
    rw [ih (by omega), e 0 (by omega), e (t + 1) (by omega), e (t + 2) (by omega)]
theorem i_vc_area {k : Nat} {u : SX} {v : SY} (I : i_Rel k u v) (hk : k + 3 ≤ 1536) (v1 : Int32) : wpX_area (fun r u' => wpY_area (fun r' v' => r' = r ∧ i_Rel (k + 3) u' v') v v1) u v1 := by
  obtain ⟨fp, fs, a0, a1, a2, a3⟩ := u
  obtain ⟨fm, sp, lf, li⟩ := v
  have I : rl_R fp a0 sp := I
  have hP := pl_P (x := fp) I.1
  have X : ∀ (m : Nat) (L b : Nat → Int32) (f : Int32) (post : Int32 → SX → Prop), m ≤ 24 → post (ar_sm L (m - 2)) (fp, f, a0, b, L, a3) → ∀ d t, (t + d + 2 = m ∨ m < 2 ∧ t = 0) → wX_area_26 post (nI m) fp f a0 b L a3 (d + 1) (ar_sm L t) (nI (t + 2)) := by
    intro m L b f post hm hp d
    induction d with
    | zero =>
      intro t ht
      have e : m - 2 = t := by omega
      rw [e] at hp
      exact br_t (nI_le (by omega) (by omega)) hp
    | succ d ih =>
      intro t ht
      by_cases c : m < 2
      · have e : m - 2 = t := by omega
        rw [e] at hp
        exact br_t (nI_le (by omega) (by omega)) hp
      · refine br_f (nI_ge (by omega) (by omega)) ?_
        rw [show t + 2 = (t + 1) + 1 by omega, nI_pred]
        refine ⟨vp_in_nI (by omega) (by omega), vp_in_nI (by omega) (by omega), wx_turn (nm_e (nm_r (nI_1 _) ?_))⟩
        rw [nI_clamp (by omega), nI_clamp (by omega)]
        exact ih (t + 1) (by omega)
  have Y : ∀ (m : Nat) (lf' L : Nat → Int32) (post : Int32 → SY → Prop), m ≤ 24 → (∀ i, i < m → gm_P (L i)) → wpY_engine (fun r_7 => (((r_7 = 0 → (post (-10000) (nI m, sp, lf', L))) ∧ (¬ r_7 = 0 → (post (ar_sm L (m - 2)) (nI m, sp, lf', L)))))) (nI m, sp, lf', L) v1 → ∀ d t, (t + d + 2 = m ∨ m < 2 ∧ t = 0) → wY_area_8 post v1 (nI m) sp lf' L (d + 1) (ar_sm L t) (nI (t + 2)) := by
    intro m lf' L post hm hPL hp d
    induction d with
    | zero =>
      intro t ht
      have e : m - 2 = t := by omega
      rw [e] at hp
      exact br_t (nI_le (by omega) (by omega)) hp
    | succ d ih =>
      intro t ht
      by_cases c : m < 2
      · have e : m - 2 = t := by omega
        rw [e] at hp
        exact br_t (nI_le (by omega) (by omega)) hp
      · refine br_f (nI_ge (by omega) (by omega)) ?_
        rw [show t + 2 = (t + 1) + 1 by omega, nI_pred]
        refine ⟨vp_in_nI (by omega) (by omega), vp_in_nI (by omega) (by omega), ?_⟩
        rw [nI_clamp (by omega), nI_clamp (by omega)]
        refine wy_turn (hPL 0 (by omega)) (hPL _ (by omega)) (hPL _ (by omega)) (nm_e (nm_r (nI_1 _) ?_))
        exact ih (t + 1) (by omega)
  have pos : ∀ {m : Nat} {L : Nat → Int32}, gm_ref (pl_S fp a0 24) L m → ∀ i, i < m → gm_P (L i) := fun hr i hi => hP _ ((hr.1 _).mpr ⟨i, hi, rfl⟩).1
  unfold wpX_area
  refine wx_isEngine (fun he => br_f (by decide) (wx_find_ring I.1 he fun m L b f hm hr => ⟨_, X m L b f _ hm ?_ (m - 2) 0 (by omega)⟩)) (fun he => br_t rfl ?_)
  · unfold wpY_area
    refine wy_look I fun m' L' lf' hm' hc hr' => ⟨_, Y m' lf' L' _ hm' (pos hr') (wy_engine (fun _ => br_f (by decide) ⟨?_, I⟩) (fun q => absurd he q)) (m' - 2) 0 (by omega)⟩
    obtain ⟨em, eL⟩ := gm_run (pl_P I.1) hr hr'
    subst em
    exact (ar_smc eL (m - 2) (by omega)).symm
  · unfold wpY_area
    exact wy_look I fun m' L' lf' hm' hc hr' => ⟨_, Y m' lf' L' _ hm' (pos hr') (wy_engine (fun q => absurd q he) (fun _ => br_t rfl ⟨rfl, I⟩)) (m' - 2) 0 (by omega)⟩
theorem i_vc_border {k : Nat} {u : SX} {v : SY} (I : i_Rel k u v) (hk : k + 3 ≤ 1536) : wpX_border (fun r u' => wpY_border (fun r' v' => r' = r ∧ i_Rel (k + 3) u' v') v) u := by
  obtain ⟨fp, fs, a0, a1, a2, a3⟩ := u
  obtain ⟨fm, sp, lf, li⟩ := v
  have I : rl_R fp a0 sp := I
  unfold wpX_border
  refine wx_bord I.1 (fun L b f r hr => ?_)
  unfold wpY_border
  refine wy_look I fun m L' lf' hm hc hr' => ?_
  have hC := hl_of I.1 hr'
  have key : ∀ post : Int32 → SY → Prop, (∀ r', (∀ j, j < 32 → (bt r' j = true ↔ (j < 24 ∧ bt fp j = true ∧ hl_st fp a0 (a0 j) 1))) → post r' (nI m, sp, lf', L')) → ∀ d i, i + d = 24 → ∀ x, (∀ j, j < 32 → (bt x j = true ↔ (j < i ∧ bt fp j = true ∧ hl_st fp a0 (a0 j) 1))) → wY_border_8 post (nI m) sp lf' L' (d + 1) x (nI i) := by
    intro post hpost d
    induction d with
    | zero =>
      intro i hi x hx
      have e24 : i = 24 := by omega
      subst e24
      exact br_t (nI_le (a := 24) (by omega) (by omega)) (hpost x hx)
    | succ d ih =>
      intro i hi x hx
      have no : (bt fp i = true → ¬ hl_st fp a0 (a0 i) 1) → ∀ y : Int32, y = nI i + 1 → wY_border_8 post (nI m) sp lf' L' (d + 1) x y := by
        intro hn
        refine nm_r (nI_1 i) (ih (i + 1) (by omega) x fun j hj => ?_)
        rw [hx j hj]
        by_cases ej : j = i
        · rw [ej]
          exact ⟨fun q => by omega, fun q => absurd q.2.2 (hn q.2.1)⟩
        · exact ⟨fun q => ⟨by omega, q.2⟩, fun q => ⟨by omega, q.2⟩⟩
      refine br_f (nI_ge (b := 24) (by omega) (by omega)) (wy_is I (by omega) (fun hb => br_f (by decide) ⟨vp_in_nI (by omega) (by omega), ?_⟩) (fun hb => br_t rfl (no fun q => absurd q (by rw [hb]; decide))))
      rw [nI_clamp (by omega), rl_1 I (by omega) hb]
      refine wy_wher I.1 hm hC (I.1 i (by omega)) (fun v hv => ⟨fun e => nm_e (nm_r (nI_1 i) (ih (i + 1) (by omega) _ fun j hj => ?_)), fun e => no fun _ q => e (hl_stu I.1 (I.1 i (by omega)) hv q)⟩)
      rw [b_or, b_one (by omega) hj, Bool.or_eq_true, hx j hj, decide_eq_true_eq]
      by_cases ej : j = i
      · rw [ej]
        exact ⟨fun _ => ⟨by omega, hb, e ▸ hv⟩, fun _ => Or.inr rfl⟩
      · exact ⟨fun q => q.elim (fun q => ⟨by omega, q.2⟩) (fun q => absurd q ej), fun q => Or.inl ⟨by omega, q.2⟩⟩
  refine ⟨_, key _ (fun r' hr' => ⟨?_, I⟩) 24 0 (by omega) 0 (fun j hj => by rw [b_0]; exact ⟨fun q => absurd q (by decide), fun q => by omega⟩)⟩
  exact b_iff fun j hj => by rw [hr j hj, hr' j hj]
theorem i_vc_holds {k : Nat} {u : SX} {v : SY} (I : i_Rel k u v) (hk : k + 3 ≤ 1536) (v1 : Int32) : wpX_holds (fun r u' => wpY_holds (fun r' v' => r' = r ∧ i_Rel (k + 3) u' v') v v1) u v1 := by
  obtain ⟨fp, fs, a0, a1, a2, a3⟩ := u
  obtain ⟨fm, sp, lf, li⟩ := v
  have I : rl_R fp a0 sp := I
  unfold wpX_holds
  refine wx_isPlace (fun hp => br_f (by decide) (wx_hull I.1 fun m L b f hm hc => wx_stand I.1 hm hc hp fun v hv => ?_)) (fun hp => br_t rfl ?_)
  · unfold wpY_holds
    exact wy_look I fun m' L' lf' hm' hc' hr' => wy_isPlace (fun _ => br_f (by decide) (wy_wher I.1 hm' (hl_of I.1 hr') hp fun v' hv' => ⟨hl_stu I.1 hp hv' hv, I⟩)) (fun q => absurd hp q)
  · unfold wpY_holds
    exact wy_look I fun m' L' lf' hm' hc' hr' => wy_isPlace (fun q => absurd q hp) (fun _ => br_t rfl ⟨rfl, I⟩)
end
section
theorem mx_nz {fp : Int32} {a0 sp : Nat → Int32} (I : rl_R fp a0 sp) (h : fp ≠ 0) : ∃ k, k < 24 ∧ bt fp k = true := by
  apply Classical.byContradiction
  intro hn
  apply h
  apply b_ext
  intro i hi
  rw [b_0]
  by_cases c : i < 24
  · cases e : bt fp i
    · rfl
    · exact absurd ⟨i, c, e⟩ hn
  · exact I.2.1 i (by omega) hi
theorem mx_z {fp : Int32} (h : fp = 0) (k : Nat) : bt fp k = false := by rw [h, b_0]
theorem gm_sqs (p q : Int32) : gm_sq p q = gm_sq q p := by unfold gm_sq; grind
theorem gm_sqpp (p : Int32) : gm_sq p p = 0 := by unfold gm_sq; grind
/-- y is the greatest square -/
def fr_M (S : Int32 → Prop) (y : Int) : Prop := (∃ p q, S p ∧ S q ∧ y = gm_sq p q) ∧ ∀ p q, S p → S q → gm_sq p q ≤ y
theorem fr_u {S : Int32 → Prop} {y y' : Int} (h : fr_M S y) (h' : fr_M S y') : y = y' := by
  obtain ⟨⟨p, q, hp, hq, e⟩, hl⟩ := h
  obtain ⟨⟨p', q', hp', hq', e'⟩, hl'⟩ := h'
  have a := hl p' q' hp' hq'
  have b := hl' p q hp hq
  omega
theorem wx_farthest {post : Int32 → SX → Prop} {fp fs : Int32} {a0 a1 a2 a3 : Nat → Int32} {sp : Nat → Int32} (I : rl_R fp a0 sp) (h0 : fp = 0 → post (-10000) (fp, fs, a0, a1, a2, a3)) (h1 : fp ≠ 0 → ∀ b f y, fr_M (pl_S fp a0 24) y → post (Int32.ofInt y) (fp, f, a0, b, a2, a3)) : wpX_farthest post (fp, fs, a0, a1, a2, a3) := by
  unfold wpX_farthest
  refine ⟨h0, fun nz => wx_gather I.1 fun b N hN hI => ?_⟩
  have hS : ∀ i, i < N → pl_S fp a0 24 (b i) := fun i hi => (hI.2.2 _).mpr ⟨i, hi, rfl⟩
  have outer : ∀ d i, i + d = N → ∀ y : Int, 0 ≤ y → y ≤ 7938 → (y = 0 ∨ ∃ p q, pl_S fp a0 24 p ∧ pl_S fp a0 24 q ∧ y = gm_sq p q) → (∀ u v, v < u → u < i → gm_sq (b u) (b v) ≤ y) → wX_farthest_23 post fp (nI N) a0 b a2 a3 (d + 1) (Int32.ofInt y) (nI i) := by
    intro d
    induction d with
    | zero =>
      intro i hi y y0 yB ye yl
      refine br_t (nI_le (by omega) (by omega)) (h1 nz b _ y ⟨?_, fun p q hp hq => ?_⟩)
      · rcases ye with e | e
        · obtain ⟨k, hk, hb⟩ := mx_nz I nz
          exact ⟨a0 k, a0 k, ⟨k, hk, hb, rfl⟩, ⟨k, hk, hb, rfl⟩, by rw [gm_sqpp]; exact e⟩
        · exact e
      · obtain ⟨u, hu, rfl⟩ := (hI.2.2 p).mp hp
        obtain ⟨v, hv, rfl⟩ := (hI.2.2 q).mp hq
        rcases Nat.lt_trichotomy u v with c | c | c
        · rw [gm_sqs]; exact yl v u c (by omega)
        · rw [c, gm_sqpp]; exact y0
        · exact yl u v c (by omega)
    | succ d ih =>
      intro i hi y y0 yB ye yl
      refine br_f (nI_ge (by omega) (by omega)) ?_
      have inner : ∀ t j, j + t = i → ∀ y : Int, 0 ≤ y → y ≤ 7938 → (y = 0 ∨ ∃ p q, pl_S fp a0 24 p ∧ pl_S fp a0 24 q ∧ y = gm_sq p q) → (∀ u v, v < u → u < i → gm_sq (b u) (b v) ≤ y) → (∀ v, v < j → gm_sq (b i) (b v) ≤ y) →
          wX_farthest_33 post (wX_farthest_23 post fp (nI N) a0 b a2 a3 (d + 1)) (nI i) fp (nI N) a0 b a2 a3 (t + 1) (Int32.ofInt y) (nI j) := by
        intro t
        induction t with
        | zero =>
          intro j hj y y0 yB ye yl yj
          refine br_t (nI_le (by omega) (by omega)) (nm_r (nI_1 i) (ih (i + 1) (by omega) y y0 yB ye fun u v huv hu => ?_))
          by_cases eu : u = i
          · rw [eu]; exact yj v (by omega)
          · exact yl u v huv (by omega)
        | succ t iht =>
          intro j hj y y0 yB ye yl yj
          have B := gm_sqB (hI.1 i (by omega)) (hI.1 j (by omega))
          have e1 := i3_le (i := gm_sq (b i) (b j)) (j := y) (by omega) (by omega)
          refine br_f (nI_ge (by omega) (by omega)) ⟨vp_in_nI (by omega) (by omega), vp_in_nI (by omega) (by omega), ?_⟩
          rw [nI_clamp (n := i) (by omega), nI_clamp (n := j) (by omega)]
          refine wx_square ⟨fun hl => nm_r (nI_1 j) (iht (j + 1) (by omega) y y0 yB ye yl fun v hv => ?_), fun hl => nm_r (nI_1 j) (iht (j + 1) (by omega) _ B.1 B.2 (Or.inr ⟨_, _, hS i (by omega), hS j (by omega), rfl⟩) (fun u v huv hu => ?_) fun v hv => ?_)⟩
          · by_cases ev : v = j
            · rw [ev]; exact e1.mp hl
            · exact yj v (by omega)
          · have := mt e1.mpr hl
            have := yl u v huv hu
            omega
          · have := mt e1.mpr hl
            by_cases ev : v = j
            · rw [ev]; exact Int.le_refl _
            · have := yj v (by omega)
              omega
      exact ⟨_, inner i 0 (by omega) y y0 yB ye yl (fun v hv => by omega)⟩
  exact ⟨_, outer N 0 (by omega) 0 (by omega) (by omega) (Or.inl rfl) (fun u v _ hu => by omega)⟩
theorem mx_div {c : Nat} (h : c < 576) : nI c / 24 = nI (c / 24) ∧ nI c - nI c / 24 * 24 = nI (c % 24) := ⟨pk_div (d := 24) (by omega) (by omega) (by omega), pk_rem (d := 24) (by omega) (by omega) (by omega)⟩
theorem mx_bad : Int32.ofInt (-10000) = (-10000 : Int32) := by decide
theorem wy_farthest {post : Int32 → Prop} {fm fp : Int32} {a0 sp lf li : Nat → Int32} (I : rl_R fp a0 sp) (h0 : fp = 0 → post (-10000)) (h1 : fp ≠ 0 → ∀ y, fr_M (pl_S fp a0 24) y → post (Int32.ofInt y)) : wpY_farthest post (fm, sp, lf, li) := by
  have key : ∀ d c, c + d = 576 → ∀ y : Int, (y = -10000 ∨ ∃ p q, pl_S fp a0 24 p ∧ pl_S fp a0 24 q ∧ y = gm_sq p q) → (∀ c', c' < c → bt fp (c' / 24) = true → bt fp (c' % 24) = true → gm_sq (a0 (c' / 24)) (a0 (c' % 24)) ≤ y) → wY_farthest_6 post fm sp lf li (d + 1) (Int32.ofInt y) (nI c) := by
    intro d
    induction d with
    | zero =>
      intro c hc y ye yl
      refine br_t (nI_le (a := 576) (by omega) (by omega)) ?_
      have all : ∀ p q, pl_S fp a0 24 p → pl_S fp a0 24 q → gm_sq p q ≤ y := by
        rintro p q ⟨u, hu, hbu, rfl⟩ ⟨v, hv, hbv, rfl⟩
        have := yl (u * 24 + v) (by omega)
        rw [show (u * 24 + v) / 24 = u by omega, show (u * 24 + v) % 24 = v by omega] at this
        exact this hbu hbv
      by_cases nz : fp = 0
      · rcases ye with e | ⟨p, q, ⟨u, hu, hbu, _⟩, _⟩
        · rw [e, mx_bad]; exact h0 nz
        · rw [mx_z nz] at hbu; exact absurd hbu (by decide)
      · refine h1 nz y ⟨?_, all⟩
        rcases ye with e | e
        · obtain ⟨k, hk, hb⟩ := mx_nz I nz
          have := all _ _ ⟨k, hk, hb, rfl⟩ ⟨k, hk, hb, rfl⟩
          rw [gm_sqpp] at this
          omega
        · exact e
    | succ d ih =>
      intro c hc y ye yl
      have By : -10000 ≤ y ∧ y ≤ 7938 := by
        rcases ye with e | ⟨p, q, hp, hq, e⟩
        · omega
        · have := gm_sqB (pl_P I.1 p hp) (pl_P I.1 q hq)
          omega
      obtain ⟨e1, e2⟩ := mx_div (c := c) (by omega)
      have no : (¬ (bt fp (c / 24) = true ∧ bt fp (c % 24) = true)) → wY_farthest_64 post (wY_farthest_6 post fm sp lf li (d + 1)) (Int32.ofInt y) (nI c) fm sp lf li := by
        intro hn
        refine br_t (by rw [← mx_bad]; exact (i3_le (by omega) (by omega)).mpr By.1) (nm_r (nI_1 c) (ih (c + 1) (by omega) y ye fun c' hc' b1 b2 => ?_))
        by_cases ec : c' = c
        · rw [ec] at b1 b2; exact absurd ⟨b1, b2⟩ hn
        · exact yl c' (by omega) b1 b2
      refine br_f (nI_ge (b := 576) (by omega) (by omega)) ⟨wy_24, ?_⟩
      rw [e2, e1]
      refine wy_is I (by omega) (fun b1 => br_f (by decide) ⟨wy_24, wy_is I (by omega) (fun b2 => br_f (by decide) ⟨wy_24, vp_in_nI (by omega) (by omega), wy_24, vp_in_nI (by omega) (by omega), ?_⟩) (fun b2 => br_t rfl (no fun q => absurd q.2 (by rw [b2]; decide)))⟩) (fun b1 => br_t rfl (no fun q => absurd q.1 (by rw [b1]; decide)))
      rw [nI_clamp (n := c / 24) (by omega), nI_clamp (n := c % 24) (by omega), rl_1 I (by omega) b1, rl_1 I (by omega) b2]
      have P1 := I.1 (c / 24) (by omega)
      have P2 := I.1 (c % 24) (by omega)
      have B := gm_sqB P1 P2
      have e3 := i3_le (i := gm_sq (a0 (c / 24)) (a0 (c % 24))) (j := y) (by omega) (by omega)
      refine wy_square P1 P2 ⟨fun hl => nm_r (nI_1 c) (ih (c + 1) (by omega) y ye fun c' hc' b1' b2' => ?_), fun hl => nm_r (nI_1 c) (ih (c + 1) (by omega) _ (Or.inr ⟨_, _, ⟨_, by omega, b1, rfl⟩, ⟨_, by omega, b2, rfl⟩, rfl⟩) fun c' hc' b1' b2' => ?_)⟩
      · by_cases ec : c' = c
        · rw [ec]; exact e3.mp hl
        · exact yl c' (by omega) b1' b2'
      · have := mt e3.mpr hl
        by_cases ec : c' = c
        · rw [ec]; exact Int.le_refl _
        · have := yl c' (by omega) b1' b2'
          omega
  exact ⟨_, key 576 0 (by omega) (-10000) (Or.inl rfl) (fun c' hc' => by omega)⟩
theorem i_vc_farthest {k : Nat} {u : SX} {v : SY} (I : i_Rel k u v) (hk : k + 3 ≤ 1536) : wpX_farthest (fun r u' => wpY_farthest (fun r' => r' = r ∧ i_Rel (k + 3) u' v) v) u := by
  obtain ⟨fp, fs, a0, a1, a2, a3⟩ := u
  obtain ⟨fm, sp, lf, li⟩ := v
  have I : rl_R fp a0 sp := I
  exact wx_farthest I (fun z => wy_farthest I (fun _ => ⟨rfl, I⟩) (fun nz => absurd z nz)) (fun nz b f y hy => wy_farthest I (fun z => absurd z nz) (fun _ y' hy' => ⟨by rw [fr_u hy' hy], I⟩))
/-- how far p reaches -/
def xt_r (dx dy p : Int32) : Int := dx.toInt * gm_x p + dy.toInt * gm_y p
theorem xt_E (dx dy p : Int32) : (dx * (p &&& 63)) + (dy * (p >>> ((6 : Int32) &&& 31))) = Int32.ofInt (xt_r dx dy p) := by
  unfold xt_r gm_x gm_y
  simp only [Int32.ofInt_mul, Int32.ofInt_add, Int32.ofInt_toInt]
def xt_st (d : Int32) : Prop := -64 ≤ d.toInt ∧ d.toInt ≤ 64
theorem xt_abs {a b : Int} (ha : -64 ≤ a ∧ a ≤ 64) (hb : 0 ≤ b ∧ b ≤ 63) : -4032 ≤ a * b ∧ a * b ≤ 4032 := by
  have h1 : a.natAbs ≤ 64 := by omega
  have h2 : b.natAbs ≤ 63 := by omega
  have h := Nat.mul_le_mul h1 h2
  rw [← Int.natAbs_mul] at h
  omega
theorem xt_B {dx dy p : Int32} (hx : xt_st dx) (hy : xt_st dy) (hp : gm_P p) : -8064 ≤ xt_r dx dy p ∧ xt_r dx dy p ≤ 8064 := by
  have c := gm_co hp
  have a := xt_abs hx (b := gm_x p) (by omega)
  have b := xt_abs hy (b := gm_y p) (by omega)
  unfold xt_r
  omega
theorem xt_c (d : Int32) : (d < -64 ↔ d.toInt < -64) ∧ (64 < d ↔ 64 < d.toInt) ∧ (d ≤ 64 ↔ d.toInt ≤ 64) := ⟨Int32.lt_iff_toInt_lt, Int32.lt_iff_toInt_lt, Int32.le_iff_toInt_le⟩
theorem wx_isStep {post : Int32 → Prop} {d : Int32} (h1 : xt_st d → post 1) (h0 : ¬ xt_st d → post 0) : wpX_isStep post d := by
  obtain ⟨e1, e2, _⟩ := xt_c d
  unfold xt_st at h1 h0
  refine ⟨fun c => h0 ?_, fun c => ⟨fun c2 => h0 ?_, fun c2 => h1 ?_⟩⟩
  · have := e1.mp c; omega
  · have := e2.mp c2; omega
  · have := mt e1.mpr c; have := mt e2.mpr c2; omega
def xt_M (S : Int32 → Prop) (dx dy : Int32) (y : Int) : Prop := (∃ p, S p ∧ y = xt_r dx dy p) ∧ ∀ p, S p → xt_r dx dy p ≤ y
theorem xt_u {S : Int32 → Prop} {dx dy : Int32} {y y' : Int} (h : xt_M S dx dy y) (h' : xt_M S dx dy y') : y = y' := by
  obtain ⟨⟨p, hp, e⟩, hl⟩ := h
  obtain ⟨⟨p', hp', e'⟩, hl'⟩ := h'
  have a := hl p' hp'
  have b := hl' p hp
  omega
theorem wx_extreme {post : Int32 → SX → Prop} {fp fs dx dy : Int32} {a0 a1 a2 a3 : Nat → Int32} {sp : Nat → Int32} (I : rl_R fp a0 sp) (h0 : (fp = 0 ∨ ¬ xt_st dx ∨ ¬ xt_st dy) → post (-10000) (fp, fs, a0, a1, a2, a3)) (h1 : fp ≠ 0 → xt_st dx → xt_st dy → ∀ b f y, xt_M (pl_S fp a0 24) dx dy y → post (Int32.ofInt y) (fp, f, a0, b, a2, a3)) : wpX_extreme post (fp, fs, a0, a1, a2, a3) dx dy := by
  unfold wpX_extreme
  refine ⟨fun z => h0 (Or.inl z), fun nz => wx_isStep (fun hx => br_f (by decide) (wx_isStep (fun hy => br_f (by decide) (wx_gather I.1 fun b N hN hI => ?_)) (fun hy => br_t rfl (h0 (Or.inr (Or.inr hy)))))) (fun hx => br_t rfl (h0 (Or.inr (Or.inl hx))))⟩
  have hS : ∀ i, i < N → pl_S fp a0 24 (b i) := fun i hi => (hI.2.2 _).mpr ⟨i, hi, rfl⟩
  have N0 : 0 < N := by
    obtain ⟨k, hk, hb⟩ := mx_nz I nz
    obtain ⟨i, hi, _⟩ := (hI.2.2 (a0 k)).mp ⟨k, hk, hb, rfl⟩
    omega
  unfold wpX_reach
  dsimp only
  rw [xt_E]
  have key : ∀ d i, i + d = N → ∀ y : Int, (∃ p, pl_S fp a0 24 p ∧ y = xt_r dx dy p) → (∀ u, u < i → xt_r dx dy (b u) ≤ y) → wX_extreme_48 post dx dy fp (nI N) a0 b a2 a3 (d + 1) (Int32.ofInt y) (nI i) := by
    intro d
    induction d with
    | zero =>
      intro i hi y ye yl
      refine br_t (nI_le (by omega) (by omega)) (h1 nz hx hy b _ y ⟨ye, fun p hp => ?_⟩)
      obtain ⟨u, hu, rfl⟩ := (hI.2.2 p).mp hp
      exact yl u (by omega)
    | succ d ih =>
      intro i hi y ye yl
      have By : -8064 ≤ y ∧ y ≤ 8064 := by
        obtain ⟨p, hp, e⟩ := ye
        rw [e]; exact xt_B hx hy (pl_P I.1 p hp)
      have B := xt_B hx hy (hI.1 i (by omega))
      have e1 := i3_le (i := xt_r dx dy (b i)) (j := y) (by omega) (by omega)
      refine br_f (nI_ge (by omega) (by omega)) ⟨vp_in_nI (by omega) (by omega), ?_⟩
      unfold wpX_reach
      rw [nI_clamp (by omega), xt_E]
      refine ⟨fun hl => nm_r (nI_1 i) (ih (i + 1) (by omega) y ye fun u hu => ?_), fun hl => nm_r (nI_1 i) (ih (i + 1) (by omega) _ ⟨_, hS i (by omega), rfl⟩ fun u hu => ?_)⟩
      · by_cases eu : u = i
        · rw [eu]; exact e1.mp hl
        · exact yl u (by omega)
      · have := mt e1.mpr hl
        by_cases eu : u = i
        · rw [eu]; exact Int.le_refl _
        · have := yl u (by omega)
          omega
  exact ⟨_, key (N - 1) 1 (by omega) _ ⟨_, hS 0 N0, rfl⟩ (fun u hu => by rw [show u = 0 by omega]; exact Int.le_refl _)⟩
theorem mx_low : Int32.ofInt (-100000) = (-100000 : Int32) := by decide
theorem wy_extreme {post : Int32 → Prop} {fm fp dx dy : Int32} {a0 sp lf li : Nat → Int32} (I : rl_R fp a0 sp) (h0 : (fp = 0 ∨ ¬ xt_st dx ∨ ¬ xt_st dy) → post (-10000)) (h1 : fp ≠ 0 → xt_st dx → xt_st dy → ∀ y, xt_M (pl_S fp a0 24) dx dy y → post (Int32.ofInt y)) : wpY_extreme post (fm, sp, lf, li) dx dy := by
  obtain ⟨x1, x2, _⟩ := xt_c dx
  obtain ⟨y1, _, y3⟩ := xt_c dy
  unfold wpY_extreme
  refine wy_points I ⟨fun z => h0 (Or.inl z), fun nz => ⟨fun c => h0 (Or.inr (Or.inl ?_)), fun c1 => ⟨fun c => h0 (Or.inr (Or.inl ?_)), fun c2 => ⟨fun c => h0 (Or.inr (Or.inr ?_)), fun c3 => ⟨fun c => ?_, fun c => h0 (Or.inr (Or.inr ?_))⟩⟩⟩⟩⟩
  · have := x1.mp c; unfold xt_st; omega
  · have := x2.mp c; unfold xt_st; omega
  · have := y1.mp c; unfold xt_st; omega
  · have hx : xt_st dx := by have := mt x1.mpr c1; have := mt x2.mpr c2; unfold xt_st; omega
    have hy : xt_st dy := by have := mt y1.mpr c3; have := y3.mp c; unfold xt_st; omega
    have key : ∀ d i, i + d = 24 → ∀ y : Int, (y = -100000 ∨ ∃ p, pl_S fp a0 24 p ∧ y = xt_r dx dy p) → (∀ u, u < i → bt fp u = true → xt_r dx dy (a0 u) ≤ y) → wY_extreme_41 post dx dy fm sp lf li (d + 1) (Int32.ofInt y) (nI i) := by
      intro d
      induction d with
      | zero =>
        intro i hi y ye yl
        have all : ∀ p, pl_S fp a0 24 p → xt_r dx dy p ≤ y := by
          rintro p ⟨u, hu, hb, rfl⟩
          exact yl u (by omega) hb
        refine br_t (nI_le (a := 24) (by omega) (by omega)) (h1 nz hx hy y ⟨?_, all⟩)
        rcases ye with e | e
        · obtain ⟨k, hk, hb⟩ := mx_nz I nz
          have := all _ ⟨k, hk, hb, rfl⟩
          have := xt_B hx hy (I.1 k hk)
          omega
        · exact e
      | succ d ih =>
        intro i hi y ye yl
        have By : -100000 ≤ y ∧ y ≤ 8064 := by
          rcases ye with e | ⟨p, hp, e⟩
          · omega
          · have := xt_B hx hy (pl_P I.1 p hp)
            omega
        have P := I.1 i (by omega)
        have B := xt_B hx hy P
        have e1 := i3_le (i := xt_r dx dy (a0 i)) (j := y) (by omega) (by omega)
        refine br_f (nI_ge (b := 24) (by omega) (by omega)) (wy_is I (by omega) (fun hb => br_f (by decide) ⟨vp_in_nI (by omega) (by omega), wy_64, vp_in_nI (by omega) (by omega), wy_64, ?_⟩) (fun hb => br_t rfl (br_t (Int32.le_refl _) (nm_r (nI_1 i) (ih (i + 1) (by omega) y ye fun u hu hbu => ?_)))))
        · rw [nI_clamp (by omega), rl_1 I (by omega) hb, wy_rem P, wy_div P, xt_E]
          refine ⟨fun hl => nm_r (nI_1 i) (ih (i + 1) (by omega) y ye fun u hu hbu => ?_), fun hl => nm_r (nI_1 i) (ih (i + 1) (by omega) _ (Or.inr ⟨_, ⟨i, by omega, hb, rfl⟩, rfl⟩) fun u hu hbu => ?_)⟩
          · by_cases eu : u = i
            · rw [eu]; exact e1.mp hl
            · exact yl u (by omega) hbu
          · have := mt e1.mpr hl
            by_cases eu : u = i
            · rw [eu]; exact Int.le_refl _
            · have := yl u (by omega) hbu
              omega
        · by_cases eu : u = i
          · rw [eu, hb] at hbu; exact absurd hbu (by decide)
          · exact yl u (by omega) hbu
    exact ⟨_, key 24 0 (by omega) (-100000) (Or.inl rfl) (fun u hu => by omega)⟩
  · have := mt y3.mpr c; unfold xt_st; omega
theorem i_vc_extreme {k : Nat} {u : SX} {v : SY} (I : i_Rel k u v) (hk : k + 3 ≤ 1536) (v1 : Int32) (v2 : Int32) : wpX_extreme (fun r u' => wpY_extreme (fun r' => r' = r ∧ i_Rel (k + 3) u' v) v v1 v2) u v1 v2 := by
  obtain ⟨fp, fs, a0, a1, a2, a3⟩ := u
  obtain ⟨fm, sp, lf, li⟩ := v
  have I : rl_R fp a0 sp := I
  refine wx_extreme I (fun z => wy_extreme I (fun _ => ⟨rfl, I⟩) (fun nz hx hy => ?_)) (fun nz hx hy b f y hM => wy_extreme I (fun z => ?_) (fun _ _ _ y' hM' => ⟨by rw [xt_u hM' hM], I⟩))
  · rcases z with z | z | z
    · exact absurd z nz
    · exact absurd hx z
    · exact absurd hy z
  · rcases z with z | z | z
    · exact absurd z nz
    · exact absurd hx z
    · exact absurd hy z
end
section
/-- y is the greatest doubled area -/
def tg_M (S : Int32 → Prop) (y : Int) : Prop := 0 ≤ y ∧ (y = 0 ∨ ∃ p q r, S p ∧ S q ∧ S r ∧ y = gm_tr p q r) ∧ ∀ p q r, S p → S q → S r → gm_tr p q r ≤ y
theorem tg_u {S : Int32 → Prop} {y y' : Int} (h : tg_M S y) (h' : tg_M S y') : y = y' := by
  have key : ∀ {y y' : Int}, tg_M S y → tg_M S y' → y ≤ y' := by
    intro y y' h h'
    rcases h.2.1 with e | ⟨p, q, r, hp, hq, hr, e⟩
    · have := h'.1; omega
    · have := h'.2.2 p q r hp hq hr; omega
  have a := key h h'
  have b := key h' h
  omega
theorem wx_great {post : Int32 → Prop} {fp : Int32} {a0 b a2 a3 : Nat → Int32} {S : Int32 → Prop} {N i j : Nat} (hN : N ≤ 24) (hI : sp_I S b N) (hi : i < N) (hj : j < i)
    (h : ∀ y : Int, 0 ≤ y → y ≤ 7938 → (y = 0 ∨ ∃ p q r, S p ∧ S q ∧ S r ∧ y = gm_tr p q r) → (∀ t, t < j → gm_tr (b i) (b j) (b t) ≤ y ∧ - gm_tr (b i) (b j) (b t) ≤ y) → post (Int32.ofInt y)) : wpX_greatestOn post (fp, nI N, a0, b, a2, a3) (nI i) (nI j) := by
  have hS : ∀ i, i < N → S (b i) := fun i hi => (hI.2.2 _).mpr ⟨i, hi, rfl⟩
  have key : ∀ d t, t + d = j → ∀ y : Int, 0 ≤ y → y ≤ 7938 → (y = 0 ∨ ∃ p q r, S p ∧ S q ∧ S r ∧ y = gm_tr p q r) → (∀ t', t' < t → gm_tr (b i) (b j) (b t') ≤ y ∧ - gm_tr (b i) (b j) (b t') ≤ y) → wX_greatestOn_5 post (nI i) (nI j) fp (nI N) a0 b a2 a3 (d + 1) (Int32.ofInt y) (nI t) := by
    intro d
    induction d with
    | zero =>
      intro t ht y y0 yB ye yl
      rw [show t = j by omega] at yl ⊢
      exact br_t (nI_le (Nat.le_refl j) (by omega)) (h y y0 yB ye yl)
    | succ d ih =>
      intro t ht y y0 yB ye yl
      have B := gm_trB (hI.1 i hi) (hI.1 j (by omega)) (hI.1 t (by omega))
      have e1 := i3_ge0 (i := gm_tr (b i) (b j) (b t)) (by omega)
      have st : ∀ z : Int, 0 ≤ z → z ≤ 7938 → (∃ p q r, S p ∧ S q ∧ S r ∧ z = gm_tr p q r) → gm_tr (b i) (b j) (b t) ≤ z → - gm_tr (b i) (b j) (b t) ≤ z →
          wX_greatestOn_45 post (wX_greatestOn_5 post (nI i) (nI j) fp (nI N) a0 b a2 a3 (d + 1)) (nI i) (nI j) (Int32.ofInt y) (nI t) (Int32.ofInt z) fp (nI N) a0 b a2 a3 := by
        intro z z0 zB ze z1 z2
        have e2 := i3_le (i := z) (j := y) (by omega) (by omega)
        refine ⟨fun hl => nm_r (nI_1 t) (ih (t + 1) (by omega) y y0 yB ye fun t' ht' => ?_), fun hl => nm_r (nI_1 t) (ih (t + 1) (by omega) z z0 zB (Or.inr ze) fun t' ht' => ?_)⟩
        · have := e2.mp hl
          by_cases et : t' = t
          · rw [et]; omega
          · exact yl t' (by omega)
        · have := mt e2.mpr hl
          by_cases et : t' = t
          · rw [et]; exact ⟨z1, z2⟩
          · have := yl t' (by omega)
            omega
      refine br_f (nI_ge (by omega) (by omega)) ⟨vp_in_nI (by omega) (by omega), vp_in_nI (by omega) (by omega), vp_in_nI (by omega) (by omega), ?_⟩
      rw [nI_clamp (n := i) (by omega), nI_clamp (n := j) (by omega), nI_clamp (n := t) (by omega)]
      refine wx_turn ⟨fun hg => st _ (e1.mp hg) (by omega) ⟨_, _, _, hS i hi, hS j (by omega), hS t (by omega), rfl⟩ (Int.le_refl _) (by have := e1.mp hg; omega), fun hg => ?_⟩
      have ng := mt e1.mpr hg
      refine nm_r (show -(Int32.ofInt (gm_tr (b i) (b j) (b t))) = Int32.ofInt (-gm_tr (b i) (b j) (b t)) from (Int32.ofInt_neg _).symm) ?_
      exact st _ (by omega) (by omega) ⟨_, _, _, hS i hi, hS t (by omega), hS j (by omega), (gm_swp _ _ _).symm⟩ (by omega) (Int.le_refl _)
  exact ⟨_, key j 0 (by omega) 0 (by omega) (by omega) (Or.inl rfl) (fun t ht => by omega)⟩
theorem tg_all {S : Int32 → Prop} {b : Nat → Int32} {N : Nat} (hI : sp_I S b N) {y : Int} (y0 : 0 ≤ y) (yl : ∀ u v w, w < v → v < u → u < N → gm_tr (b u) (b v) (b w) ≤ y ∧ - gm_tr (b u) (b v) (b w) ≤ y) : ∀ p q r, S p → S q → S r → gm_tr p q r ≤ y := by
  intro p q r hp hq hr
  obtain ⟨u, hu, rfl⟩ := (hI.2.2 p).mp hp
  obtain ⟨v, hv, rfl⟩ := (hI.2.2 q).mp hq
  obtain ⟨w, hw, rfl⟩ := (hI.2.2 r).mp hr
  have s1 : gm_tr (b u) (b v) (b w) = - gm_tr (b u) (b w) (b v) := by unfold gm_tr; grind
  have s2 : gm_tr (b u) (b v) (b w) = - gm_tr (b v) (b u) (b w) := by unfold gm_tr; grind
  have s3 : gm_tr (b u) (b v) (b w) = gm_tr (b v) (b w) (b u) := by unfold gm_tr; grind
  have s4 : gm_tr (b u) (b v) (b w) = gm_tr (b w) (b u) (b v) := by unfold gm_tr; grind
  have s5 : gm_tr (b u) (b v) (b w) = - gm_tr (b w) (b v) (b u) := by unfold gm_tr; grind
  by_cases c1 : u = v
  · rw [c1, gm_ppr]; exact y0
  by_cases c2 : v = w
  · rw [c2, gm_prr]; exact y0
  by_cases c3 : u = w
  · rw [c3, gm_prp]; exact y0
  by_cases d1 : v < u
  · by_cases d2 : w < v
    · exact (yl u v w d2 d1 hu).1
    · by_cases d3 : w < u
      · have := yl u w v (by omega) d3 hu; omega
      · have := yl w u v d1 (by omega) hw; omega
  · by_cases d2 : w < u
    · have := yl v u w d2 (by omega) hv; omega
    · by_cases d3 : w < v
      · have := yl v w u (by omega) d3 hv; omega
      · have := yl w v u (by omega) (by omega) hw; omega
theorem wx_triangle {post : Int32 → SX → Prop} {fp fs : Int32} {a0 a1 a2 a3 : Nat → Int32} (hP : ∀ k, k < 24 → gm_P (a0 k)) (h1 : ∀ b f y, tg_M (pl_S fp a0 24) y → post (Int32.ofInt y) (fp, f, a0, b, a2, a3)) : wpX_triangle post (fp, fs, a0, a1, a2, a3) := by
  unfold wpX_triangle
  refine wx_gather hP fun b N hN hI => ?_
  have outer : ∀ d i, i + d = N → ∀ y : Int, 0 ≤ y → y ≤ 7938 → (y = 0 ∨ ∃ p q r, pl_S fp a0 24 p ∧ pl_S fp a0 24 q ∧ pl_S fp a0 24 r ∧ y = gm_tr p q r) → (∀ u v w, w < v → v < u → u < i → gm_tr (b u) (b v) (b w) ≤ y ∧ - gm_tr (b u) (b v) (b w) ≤ y) → wX_triangle_12 post fp (nI N) a0 b a2 a3 (d + 1) (Int32.ofInt y) (nI i) := by
    intro d
    induction d with
    | zero =>
      intro i hi y y0 yB ye yl
      have e : i = N := by omega
      subst e
      exact br_t (nI_le (Nat.le_refl i) (by omega)) (h1 b _ y ⟨y0, ye, tg_all hI y0 yl⟩)
    | succ d ih =>
      intro i hi y y0 yB ye yl
      refine br_f (nI_ge (by omega) (by omega)) ?_
      have inner : ∀ t j, j + t = i → ∀ y : Int, 0 ≤ y → y ≤ 7938 → (y = 0 ∨ ∃ p q r, pl_S fp a0 24 p ∧ pl_S fp a0 24 q ∧ pl_S fp a0 24 r ∧ y = gm_tr p q r) → (∀ u v w, w < v → v < u → u < i → gm_tr (b u) (b v) (b w) ≤ y ∧ - gm_tr (b u) (b v) (b w) ≤ y) → (∀ v w, w < v → v < j → gm_tr (b i) (b v) (b w) ≤ y ∧ - gm_tr (b i) (b v) (b w) ≤ y) →
          wX_triangle_22 post (wX_triangle_12 post fp (nI N) a0 b a2 a3 (d + 1)) (nI i) fp (nI N) a0 b a2 a3 (t + 1) (Int32.ofInt y) (nI j) := by
        intro t
        induction t with
        | zero =>
          intro j hj y y0 yB ye yl yj
          refine br_t (nI_le (by omega) (by omega)) (nm_r (nI_1 i) (ih (i + 1) (by omega) y y0 yB ye fun u v w hwv hvu hu => ?_))
          by_cases eu : u = i
          · rw [eu]; exact yj v w hwv (by omega)
          · exact yl u v w hwv hvu (by omega)
        | succ t iht =>
          intro j hj y y0 yB ye yl yj
          refine br_f (nI_ge (by omega) (by omega)) (wx_great hN hI (by omega) (by omega) fun z z0 zB ze zl => ?_)
          have e1 := i3_le (i := z) (j := y) (by omega) (by omega)
          refine ⟨fun hl => nm_r (nI_1 j) (iht (j + 1) (by omega) y y0 yB ye yl fun v w hwv hv => ?_), fun hl => nm_r (nI_1 j) (iht (j + 1) (by omega) z z0 zB ze (fun u v w hwv hvu hu => ?_) fun v w hwv hv => ?_)⟩
          · have := e1.mp hl
            by_cases ev : v = j
            · have := zl w (by omega)
              rw [ev]; omega
            · exact yj v w hwv (by omega)
          · have := mt e1.mpr hl
            have := yl u v w hwv hvu hu
            omega
          · have := mt e1.mpr hl
            by_cases ev : v = j
            · rw [ev]; exact zl w (by omega)
            · have := yj v w hwv (by omega)
              omega
      exact ⟨_, inner i 0 (by omega) y y0 yB ye yl (fun v w _ hv => by omega)⟩
  exact ⟨_, outer N 0 (by omega) 0 (by omega) (by omega) (Or.inl rfl) (fun u v w _ _ hu => by omega)⟩
theorem wy_triangle {post : Int32 → Prop} {fm fp : Int32} {a0 sp lf li : Nat → Int32} (I : rl_R fp a0 sp) (h1 : ∀ y, tg_M (pl_S fp a0 24) y → post (Int32.ofInt y)) : wpY_triangle post (fm, sp, lf, li) := by
  have outer : ∀ d c, c + d = 576 → ∀ y : Int, 0 ≤ y → y ≤ 7938 → (y = 0 ∨ ∃ p q r, pl_S fp a0 24 p ∧ pl_S fp a0 24 q ∧ pl_S fp a0 24 r ∧ y = gm_tr p q r) → (∀ c', c' < c → bt fp (c' / 24) = true → bt fp (c' % 24) = true → ∀ k, k < 24 → bt fp k = true → gm_tr (a0 (c' / 24)) (a0 (c' % 24)) (a0 k) ≤ y) → wY_triangle_4 post fm sp lf li (d + 1) (Int32.ofInt y) (nI c) := by
    intro d
    induction d with
    | zero =>
      intro c hc y y0 yB ye yl
      refine br_t (nI_le (a := 576) (by omega) (by omega)) (h1 y ⟨y0, ye, ?_⟩)
      rintro p q r ⟨u, hu, hbu, rfl⟩ ⟨v, hv, hbv, rfl⟩ ⟨w, hw, hbw, rfl⟩
      have := yl (u * 24 + v) (by omega)
      rw [show (u * 24 + v) / 24 = u by omega, show (u * 24 + v) % 24 = v by omega] at this
      exact this hbu hbv w hw hbw
    | succ d ih =>
      intro c hc y y0 yB ye yl
      obtain ⟨e1, e2⟩ := mx_div (c := c) (by omega)
      refine br_f (nI_ge (b := 576) (by omega) (by omega)) ?_
      have inner : ∀ t k, k + t = 24 → ∀ y : Int, 0 ≤ y → y ≤ 7938 → (y = 0 ∨ ∃ p q r, pl_S fp a0 24 p ∧ pl_S fp a0 24 q ∧ pl_S fp a0 24 r ∧ y = gm_tr p q r) → (∀ c', c' < c → bt fp (c' / 24) = true → bt fp (c' % 24) = true → ∀ k, k < 24 → bt fp k = true → gm_tr (a0 (c' / 24)) (a0 (c' % 24)) (a0 k) ≤ y) →
          (bt fp (c / 24) = true → bt fp (c % 24) = true → ∀ k', k' < k → bt fp k' = true → gm_tr (a0 (c / 24)) (a0 (c % 24)) (a0 k') ≤ y) →
          wY_triangle_13 post (wY_triangle_4 post fm sp lf li (d + 1)) (nI c) fm sp lf li (t + 1) (Int32.ofInt y) (nI k) := by
        intro t
        induction t with
        | zero =>
          intro k hk y y0 yB ye yl yk
          refine br_t (nI_le (a := 24) (by omega) (by omega)) (nm_r (nI_1 c) (ih (c + 1) (by omega) y y0 yB ye fun c' hc' b1 b2 k' hk' b3 => ?_))
          by_cases ec : c' = c
          · rw [ec] at b1 b2 ⊢; exact yk b1 b2 k' (by omega) b3
          · exact yl c' (by omega) b1 b2 k' hk' b3
        | succ t iht =>
          intro k hk y y0 yB ye yl yk
          have no : ¬ (bt fp (c / 24) = true ∧ bt fp (c % 24) = true ∧ bt fp k = true) → wY_triangle_86 post (wY_triangle_4 post fm sp lf li (d + 1)) (wY_triangle_13 post (wY_triangle_4 post fm sp lf li (d + 1)) (nI c) fm sp lf li (t + 1)) (Int32.ofInt y) (nI c) (nI k) fm sp lf li := by
            intro hn
            refine br_t ((i3_ge0 (by omega)).mpr y0) (nm_r (nI_1 k) (iht (k + 1) (by omega) y y0 yB ye yl fun b1 b2 k' hk' b3 => ?_))
            by_cases ek : k' = k
            · rw [ek] at b3; exact absurd ⟨b1, b2, b3⟩ hn
            · exact yk b1 b2 k' (by omega) b3
          refine br_f (nI_ge (b := 24) (by omega) (by omega)) ⟨wy_24, ?_⟩
          rw [e2, e1]
          refine wy_is I (by omega) (fun b1 => br_f (by decide) ⟨wy_24, wy_is I (by omega) (fun b2 => br_f (by decide) (wy_is I (by omega) (fun b3 => br_f (by decide) ⟨wy_24, vp_in_nI (by omega) (by omega), wy_24, vp_in_nI (by omega) (by omega), vp_in_nI (by omega) (by omega), ?_⟩) (fun b3 => br_t rfl (no fun q => absurd q.2.2 (by rw [b3]; decide))))) (fun b2 => br_t rfl (no fun q => absurd q.2.1 (by rw [b2]; decide)))⟩) (fun b1 => br_t rfl (no fun q => absurd q.1 (by rw [b1]; decide)))
          rw [nI_clamp (n := c / 24) (by omega), nI_clamp (n := c % 24) (by omega), nI_clamp (n := k) (by omega), rl_1 I (by omega) b1, rl_1 I (by omega) b2, rl_1 I (by omega) b3]
          have P1 := I.1 (c / 24) (by omega)
          have P2 := I.1 (c % 24) (by omega)
          have P3 := I.1 k (by omega)
          have B := gm_trB P1 P2 P3
          have e3 := i3_le (i := gm_tr (a0 (c / 24)) (a0 (c % 24)) (a0 k)) (j := y) (by omega) (by omega)
          refine wy_turn P1 P2 P3 ⟨fun hl => nm_r (nI_1 k) (iht (k + 1) (by omega) y y0 yB ye yl fun b1' b2' k' hk' b3' => ?_), fun hl => nm_r (nI_1 k) (iht (k + 1) (by omega) _ ?_ B.2 (Or.inr ⟨_, _, _, ⟨_, by omega, b1, rfl⟩, ⟨_, by omega, b2, rfl⟩, ⟨_, by omega, b3, rfl⟩, rfl⟩) (fun c' hc' b1' b2' k' hk' b3' => ?_) fun b1' b2' k' hk' b3' => ?_)⟩
          · by_cases ek : k' = k
            · rw [ek]; exact e3.mp hl
            · exact yk b1' b2' k' (by omega) b3'
          · have := mt e3.mpr hl
            omega
          · have := mt e3.mpr hl
            have := yl c' hc' b1' b2' k' hk' b3'
            omega
          · have := mt e3.mpr hl
            by_cases ek : k' = k
            · rw [ek]; exact Int.le_refl _
            · have := yk b1' b2' k' (by omega) b3'
              omega
      exact ⟨_, inner 24 0 (by omega) y y0 yB ye yl (fun _ _ k' hk' => by omega)⟩
  exact ⟨_, outer 576 0 (by omega) 0 (by omega) (by omega) (Or.inl rfl) (fun c' hc' => by omega)⟩
theorem i_vc_triangle {k : Nat} {u : SX} {v : SY} (I : i_Rel k u v) (hk : k + 3 ≤ 1536) : wpX_triangle (fun r u' => wpY_triangle (fun r' => r' = r ∧ i_Rel (k + 3) u' v) v) u := by
  obtain ⟨fp, fs, a0, a1, a2, a3⟩ := u
  obtain ⟨fm, sp, lf, li⟩ := v
  have I : rl_R fp a0 sp := I
  exact wx_triangle I.1 (fun b f y hy => wy_triangle I (fun y' hy' => ⟨by rw [tg_u hy' hy], I⟩))
end
section
/-- how many of the first n bits are set -/
def ly_c (x : Int32) : Nat → Nat
  | 0 => 0
  | n + 1 => ly_c x n + (if bt x n = true then 1 else 0)
theorem ly_le (x : Int32) : ∀ n, ly_c x n ≤ n := by
  intro n
  induction n with
  | zero => exact Nat.le_refl 0
  | succ n ih => unfold ly_c; split <;> omega
theorem ly_pos {x : Int32} {k : Nat} (hb : bt x k = true) : ∀ n, k < n → 1 ≤ ly_c x n := by
  intro n
  induction n with
  | zero => intro h; omega
  | succ n ih =>
    intro h
    unfold ly_c
    by_cases e : k = n
    · rw [← e, if_pos hb]; omega
    · have := ih (by omega); omega
theorem ly_mono {x y : Int32} (h : ∀ i, i < 24 → bt y i = true → bt x i = true) : ∀ n, n ≤ 24 → ly_c y n ≤ ly_c x n := by
  intro n
  induction n with
  | zero => intro _; exact Nat.le_refl 0
  | succ n ih =>
    intro hn
    have a := ih (by omega)
    have b := h n (by omega)
    unfold ly_c
    by_cases c : bt y n = true
    · rw [if_pos c, if_pos (b c)]; omega
    · rw [if_neg c]; omega
theorem ly_lt {x y : Int32} (h : ∀ i, i < 24 → bt y i = true → bt x i = true) {k : Nat} (hx : bt x k = true) (hy : bt y k = false) : ∀ n, k < n → n ≤ 24 → ly_c y n < ly_c x n := by
  intro n
  induction n with
  | zero => intro h; omega
  | succ n ih =>
    intro hk hn
    have b := h n (by omega)
    unfold ly_c
    by_cases e : k = n
    · have := ly_mono h n (by omega)
      rw [← e, if_pos hx, if_neg (by rw [hy]; decide)]
      rw [e]
      omega
    · have a := ih (by omega) (by omega)
      by_cases c : bt y n = true
      · rw [if_pos c, if_pos (b c)]; omega
      · rw [if_neg c]; omega
theorem ly_mk (P : Nat → Prop) : ∀ n, n ≤ 31 → ∃ r : Int32, ∀ i, i < 32 → (bt r i = true ↔ (i < n ∧ P i)) := by
  intro n
  induction n with
  | zero => exact fun _ => ⟨0, fun i hi => by rw [b_0]; exact ⟨fun q => absurd q (by decide), fun q => by omega⟩⟩
  | succ n ih =>
    intro hn
    obtain ⟨r, hr⟩ := ih (by omega)
    by_cases c : P n
    · refine ⟨r ||| ((1 : Int32) <<< (nI n &&& 31)), fun i hi => ?_⟩
      rw [b_or, b_one (by omega) hi, Bool.or_eq_true, hr i hi, decide_eq_true_eq]
      by_cases e : i = n
      · rw [e]; exact ⟨fun _ => ⟨by omega, c⟩, fun _ => Or.inr rfl⟩
      · exact ⟨fun q => q.elim (fun q => ⟨by omega, q.2⟩) (fun q => absurd q e), fun q => Or.inl ⟨by omega, q.2⟩⟩
    · refine ⟨r, fun i hi => ?_⟩
      rw [hr i hi]
      by_cases e : i = n
      · rw [e]; exact ⟨fun q => by omega, fun q => absurd q.2 c⟩
      · exact ⟨fun q => ⟨by omega, q.2⟩, fun q => ⟨by omega, q.2⟩⟩
/-- peel: what stands on the border goes -/
theorem wy_peel {post : SY → Prop} {sp lf li : Nat → Int32} {x y : Int32} {a0 : Nat → Int32} {m : Nat} (h : yc_R x a0 sp lf) (hm : m ≤ 24) (hc : hl_C x a0 li m)
    (hy : ∀ i, i < 24 → (bt y i = true ↔ (bt x i = true ∧ ¬ hl_st x a0 (a0 i) 1))) (hp : ∀ lf', yc_R y a0 sp lf' → post (nI m, sp, lf', li)) : wpY_peel post (nI m, sp, lf, li) := by
  have key : ∀ d i, i + d = 24 → ∀ lf', (∀ j, j < i → lf' j = if bt y j = true then 1 else 0) → (∀ j, i ≤ j → lf' j = lf j) → wY_peel_2 post (nI m) (d + 1) (nI i) sp lf' li := by
    intro d
    induction d with
    | zero =>
      intro i hi lf' h1 h2
      have e24 : i = 24 := by omega
      subst e24
      exact br_t (nI_le (a := 24) (by omega) (by omega)) (hp lf' ⟨h.1, h1, fun k hk hb => h.2.2 k hk ((hy k hk).mp hb).1⟩)
    | succ d ih =>
      intro i hi lf' h1 h2
      have vin : vp_in (nI i) 24 := vp_in_nI (by omega) (by omega)
      have st : ∀ z : Int32, z = (if bt y i = true then 1 else 0) → ∀ a : Nat → Int32, a = upd lf' i z → ∀ w : Int32, w = nI i + 1 → wY_peel_2 post (nI m) (d + 1) w sp a li := by
        intro z ez
        refine nm_e (nm_r (nI_1 i) (ih (i + 1) (by omega) _ (fun j hj => ?_) (fun j hj => ?_)))
        · by_cases ej : j = i
          · rw [ej, pk_us]; exact ez
          · rw [pk_un ej]; exact h1 j (by omega)
        · rw [pk_un (by omega)]; exact h2 j (by omega)
      refine br_f (nI_ge (b := 24) (by omega) (by omega)) ⟨vin, ?_⟩
      rw [nI_clamp (by omega), h2 i (Nat.le_refl i), yc_vn.1, yc_vn.2]
      refine ⟨fun c => ⟨vin, st 0 ?_⟩, fun c => ⟨vin, ?_⟩⟩
      · have hb := (yc_0 h (by omega)).mp c
        rw [if_neg]
        intro q
        rw [((hy i (by omega)).mp q).1] at hb
        exact absurd hb (by decide)
      · have hb : bt x i = true := by
          have := mt (yc_0 h (k := i) (by omega)).mpr c
          simpa using this
        rw [yc_1 h (by omega) hb]
        refine wy_wher h.1 hm hc (h.1 i (by omega)) (fun v hv => ⟨fun e => ⟨vin, st 0 ?_⟩, fun e => ⟨vin, st 1 ?_⟩⟩)
        · rw [if_neg]
          intro q
          exact ((hy i (by omega)).mp q).2 (e ▸ hv)
        · rw [if_pos ((hy i (by omega)).mpr ⟨hb, fun q => e (hl_stu h.1 (h.1 i (by omega)) hv q)⟩)]
  exact ⟨_, key 24 0 (by omega) lf (fun j hj => by omega) (fun j _ => rfl)⟩
/-- a point of the set stands on its border -/
theorem ly_bd {x : Int32} {a0 : Nat → Int32} (hP : ∀ k, k < 24 → gm_P (a0 k)) {k : Nat} (hk : k < 24) (hb : bt x k = true) : ∃ i, i < 24 ∧ bt x i = true ∧ hl_st x a0 (a0 i) 1 := by
  obtain ⟨L, m, hc⟩ := hl_ex (x := x) hP
  have hc' := hc
  rcases hc with ⟨_, hn⟩ | hc
  · exact absurd ⟨k, hk, hb, rfl⟩ (hn (a0 k))
  · obtain ⟨i, hi, hbi, e⟩ := gm_cS hc hc.1
    refine ⟨i, hi, hbi, L, m, hc', Or.inr (Or.inl ⟨rfl, 0, hc.1, ?_⟩)⟩
    rw [e, gm_prp]
    exact ⟨rfl, by unfold gm_dt; grind⟩
theorem ly_main {fp : Int32} {a0 sp a3 : Nat → Int32} (I : rl_R fp a0 sp) {k : Nat} (hk : k < 24) : ∀ n x t, ly_c x 24 ≤ n → bt x k = true → (∀ i, i < 24 → bt x i = true → bt fp i = true) → t + ly_c x 24 ≤ 24 →
    ∃ d : Nat, (∀ (post : Int32 → SX → Prop) fs a1 a2, (∀ f b L, post (nI d) (fp, f, a0, b, L, a3)) → wX_layer_19 post (nI k) (n + 1) x (nI t) fp fs a0 a1 a2 a3) ∧
      (∀ (post : Int32 → SY → Prop) lf li m, yc_R x a0 sp lf → m ≤ 24 → gm_ref (pl_S x a0 24) li m → (∀ f lf' li', post (nI d) (f, sp, lf', li')) → wY_layer_18 post (nI k) (n + 1) (nI t) (nI m) sp lf li) := by
  intro n
  induction n with
  | zero =>
    intro x t hn hb _ _
    have := ly_pos hb 24 hk
    omega
  | succ n ih =>
    intro x t hn hb hsub ht
    have c1 := ly_pos hb 24 hk
    have vin : vp_in (nI k) 24 := vp_in_nI hk (by omega)
    by_cases Q : hl_st x a0 (a0 k) 1
    · refine ⟨t, fun post fs a1 a2 hp => ?_, fun post lf li m hy hm hr hp => ?_⟩
      · refine br_f (nI_ge (b := 24) (by omega) (by omega)) (wx_bord I.1 fun L b f r hr => ?_)
        exact wx_hasBit (by omega) (fun _ => br_f (by decide) (hp f b L)) (fun q => absurd ((hr k (by omega)).mpr ⟨hk, hb, Q⟩) (by rw [q]; decide))
      · refine ⟨vin, ?_⟩
        rw [nI_clamp (by omega), yc_1 hy hk hb]
        exact wy_wher I.1 hm (hl_of I.1 hr) (I.1 k hk) fun v hv => br_t (hl_stu I.1 (I.1 k hk) hv Q) (hp _ _ _)
    · obtain ⟨r0, hr0⟩ := ly_mk (fun i => bt x i = true ∧ hl_st x a0 (a0 i) 1) 24 (by omega)
      have hx' : ∀ i, i < 32 → bt (x &&& (r0 ^^^ (-1))) i = (bt x i && !bt r0 i) := fun i hi => by rw [b_and, b_xor, b_m1 i hi, Bool.xor_true]
      have hb' : ∀ i, i < 24 → (bt (x &&& (r0 ^^^ (-1))) i = true ↔ (bt x i = true ∧ ¬ hl_st x a0 (a0 i) 1)) := by
        intro i hi
        rw [hx' i (by omega), Bool.and_eq_true, Bool.not_eq_true']
        constructor
        · rintro ⟨q1, q2⟩
          refine ⟨q1, fun q => ?_⟩
          rw [(hr0 i (by omega)).mpr ⟨hi, q1, q⟩] at q2
          exact absurd q2 (by decide)
        · rintro ⟨q1, q2⟩
          refine ⟨q1, ?_⟩
          cases c : bt r0 i
          · rfl
          · exact absurd ((hr0 i (by omega)).mp c).2.2 q2
      have hbk := (hb' k hk).mpr ⟨hb, Q⟩
      have sub : ∀ i, i < 24 → bt (x &&& (r0 ^^^ (-1))) i = true → bt x i = true := fun i hi q => ((hb' i hi).mp q).1
      obtain ⟨j, hj, hbj, hs⟩ := ly_bd I.1 hk hb
      have hj0 : bt (x &&& (r0 ^^^ (-1))) j = false := by
        cases c : bt (x &&& (r0 ^^^ (-1))) j
        · rfl
        · exact absurd hs ((hb' j hj).mp c).2
      have lt := ly_lt sub hbj hj0 24 hj (Nat.le_refl 24)
      obtain ⟨d, hX, hY⟩ := ih (x &&& (r0 ^^^ (-1))) (t + 1) (by omega) hbk (fun i hi q => hsub i hi (sub i hi q)) (by omega)
      refine ⟨d, fun post fs a1 a2 hp => ?_, fun post lf li m hy hm hr hp => ?_⟩
      · refine br_f (nI_ge (b := 24) (by omega) (by omega)) (wx_bord I.1 fun L b f r hr => ?_)
        have er : r = r0 := b_iff fun i hi => by rw [hr i hi, hr0 i hi]
        rw [er]
        refine wx_hasBit (by omega) (fun q => absurd ((hr0 k (by omega)).mp q).2.2 Q) (fun _ => br_t rfl (nm_e (nm_r (nI_1 t) ?_)))
        exact hX post f b L hp
      · refine ⟨vin, ?_⟩
        rw [nI_clamp (by omega), yc_1 hy hk hb]
        have hC := hl_of I.1 hr
        refine wy_wher I.1 hm hC (I.1 k hk) fun v hv => br_f (fun e => Q (e ▸ hv)) (wy_peel hy hm hC hb' fun lf' hy' => wy_find hy' fun m' L' hm' hr' => nm_r (nI_1 t) ?_)
        exact hY post lf' L' m' hy' hm' hr' hp
theorem i_vc_layer {k : Nat} {u : SX} {v : SY} (I : i_Rel k u v) (hk : k + 3 ≤ 1536) (v1 : Int32) : wpX_layer (fun r u' => wpY_layer (fun r' v' => r' = r ∧ i_Rel (k + 3) u' v') v v1) u v1 := by
  obtain ⟨fp, fs, a0, a1, a2, a3⟩ := u
  obtain ⟨fm, sp, lf, li⟩ := v
  have I : rl_R fp a0 sp := I
  unfold wpX_layer
  refine wx_isPoint (fun j hj e hb => br_f (by decide) ?_) (fun hn => br_t rfl ?_)
  · subst e
    have le := ly_le fp 24
    obtain ⟨d, hX, hY⟩ := ly_main (a3 := a3) I hj 24 fp 0 le hb (fun i _ q => q) (by omega)
    refine ⟨_, hX _ fs a1 a2 fun f b L => ?_⟩
    unfold wpY_layer
    exact wy_is I hj (fun _ => br_f (by decide) (wy_look I fun m L' lf' hm hc hr => ⟨_, hY _ lf' L' m hc hm hr fun f lf'' li' => ⟨rfl, I⟩⟩)) (fun q => absurd hb (by rw [q]; decide))
  · unfold wpY_layer
    exact wy_isP I (fun j hj e hb => absurd hb (by rw [hn j hj e]; decide)) (fun _ => br_t rfl ⟨rfl, I⟩)
/-- how many of the first n places have P -/
noncomputable def pc_n (P : Nat → Prop) : Nat → Nat
  | 0 => 0
  | n + 1 => pc_n P n + @ite Nat (P n) (Classical.propDecidable _) 1 0
theorem pc_t {P : Nat → Prop} {n : Nat} (h : P n) : pc_n P (n + 1) = pc_n P n + 1 := by
  show pc_n P n + @ite Nat (P n) (Classical.propDecidable _) 1 0 = pc_n P n + 1
  rw [if_pos h]
theorem pc_f {P : Nat → Prop} {n : Nat} (h : ¬ P n) : pc_n P (n + 1) = pc_n P n := by
  show pc_n P n + @ite Nat (P n) (Classical.propDecidable _) 1 0 = pc_n P n
  rw [if_neg h]; rfl
theorem i_vc_places {k : Nat} {u : SX} {v : SY} (I : i_Rel k u v) (hk : k + 3 ≤ 1536) : wpX_places (fun r u' => wpY_places (fun r' v' => r' = r ∧ i_Rel (k + 3) u' v') v) u := by
  obtain ⟨fp, fs, a0, a1, a2, a3⟩ := u
  obtain ⟨fm, sp, lf, li⟩ := v
  have I : rl_R fp a0 sp := I
  unfold wpX_places
  refine wx_hull I.1 fun m L b f hm hc => ?_
  have X : ∀ post : Int32 → SX → Prop, post (nI (pc_n (fun i => ¬ hl_st fp a0 (nI i) 0) 4096)) (fp, f, a0, b, L, a3) → ∀ d i, i + d = 4096 → wX_places_13 post (nI m) fp f a0 b L a3 (d + 1) (nI (pc_n (fun i => ¬ hl_st fp a0 (nI i) 0) i)) (nI i) := by
    intro post hp d
    induction d with
    | zero =>
      intro i hi
      have e : i = 4096 := by omega
      subst e
      exact br_t (nI_le (a := 4096) (by omega) (by omega)) hp
    | succ d ih =>
      intro i hi
      have P : gm_P (nI i) := gm_nP (by omega)
      refine br_f (nI_ge (b := 4096) (by omega) (by omega)) (wx_stand I.1 hm hc P fun v hv => ⟨fun e => nm_r (nI_1 i) ?_, fun e => nm_r (nI_1 _) (nm_r (nI_1 i) ?_)⟩)
      · have := ih (i + 1) (by omega)
        rw [pc_f (P := fun i => ¬ hl_st fp a0 (nI i) 0) (n := i) (fun q => q (e ▸ hv))] at this
        exact this
      · have := ih (i + 1) (by omega)
        rw [pc_t (P := fun i => ¬ hl_st fp a0 (nI i) 0) (n := i) (fun q => e (hl_stu I.1 P hv q))] at this
        exact this
  have X0 := X (fun r u' => wpY_places (fun r' v' => r' = r ∧ i_Rel (k + 3) u' v') (fm, sp, lf, li))
  refine ⟨_, X0 ?_ 4096 0 (by omega)⟩
  unfold wpY_places
  refine wy_look I fun m' L' lf' hm' hy hr' => ?_
  have hc' := hl_of I.1 hr'
  have Y : ∀ post : Int32 → SY → Prop, post (nI (pc_n (fun i => ¬ hl_st fp a0 (nI i) 0) 4096)) (nI m', sp, lf', L') → ∀ d i, i + d = 4096 → wY_places_8 post (nI m') sp lf' L' (d + 1) (nI (pc_n (fun i => ¬ hl_st fp a0 (nI i) 0) i)) (nI i) := by
    intro post hp d
    induction d with
    | zero =>
      intro i hi
      have e : i = 4096 := by omega
      subst e
      exact br_t (nI_le (a := 4096) (by omega) (by omega)) hp
    | succ d ih =>
      intro i hi
      have P : gm_P (nI i) := gm_nP (by omega)
      refine br_f (nI_ge (b := 4096) (by omega) (by omega)) (wy_wher I.1 hm' hc' P fun v hv => ⟨fun e => nm_r (nI_1 i) ?_, fun e => nm_r (nI_1 _) (nm_r (nI_1 i) ?_)⟩)
      · have ev : v = 0 := by
          rcases hl_st3 hv with q | q | q
          · exact q
          · rw [q] at e; exact absurd e (by decide)
          · rw [q] at e; exact absurd e (by decide)
        have := ih (i + 1) (by omega)
        rw [pc_f (P := fun i => ¬ hl_st fp a0 (nI i) 0) (n := i) (fun q => q (ev ▸ hv))] at this
        exact this
      · have := ih (i + 1) (by omega)
        rw [pc_t (P := fun i => ¬ hl_st fp a0 (nI i) 0) (n := i) (fun q => e (by rw [hl_stu I.1 P hv q]; decide))] at this
        exact this
  exact ⟨_, Y _ ⟨rfl, I⟩ 4096 0 (by omega)⟩
end
section
/-- the tangent's search over the first i corners -/
noncomputable def tn_f (L : Nat → Int32) (m : Nat) (p : Int32) : Nat → Int32
  | 0 => -10000
  | i + 1 => @ite Int32 ((∀ j, j < m → gm_tr p (L i) (L j) ≤ 0) ∧ (tn_f L m p i = -10000 ∨ gm_sq p (L i) < gm_sq p (tn_f L m p i))) (Classical.propDecidable _) (L i) (tn_f L m p i)
theorem tn_t {L : Nat → Int32} {m : Nat} {p : Int32} {i : Nat} (h1 : ∀ j, j < m → gm_tr p (L i) (L j) ≤ 0) (h2 : tn_f L m p i = -10000 ∨ gm_sq p (L i) < gm_sq p (tn_f L m p i)) : tn_f L m p (i + 1) = L i := by
  show @ite Int32 _ (Classical.propDecidable _) (L i) (tn_f L m p i) = L i
  rw [if_pos ⟨h1, h2⟩]
theorem tn_n {L : Nat → Int32} {m : Nat} {p : Int32} {i : Nat} (h : ¬ ((∀ j, j < m → gm_tr p (L i) (L j) ≤ 0) ∧ (tn_f L m p i = -10000 ∨ gm_sq p (L i) < gm_sq p (tn_f L m p i)))) : tn_f L m p (i + 1) = tn_f L m p i := by
  show @ite Int32 _ (Classical.propDecidable _) (L i) (tn_f L m p i) = tn_f L m p i
  rw [if_neg h]
theorem tn_P {L : Nat → Int32} {m : Nat} {p : Int32} (hL : ∀ i, i < m → gm_P (L i)) : ∀ i, i ≤ m → tn_f L m p i = -10000 ∨ gm_P (tn_f L m p i) := by
  intro i
  induction i with
  | zero => exact fun _ => Or.inl rfl
  | succ i ih =>
    intro hi
    by_cases h : (∀ j, j < m → gm_tr p (L i) (L j) ≤ 0) ∧ (tn_f L m p i = -10000 ∨ gm_sq p (L i) < gm_sq p (tn_f L m p i))
    · rw [tn_t h.1 h.2]; exact Or.inr (hL i (by omega))
    · rw [tn_n h]; exact ih (by omega)
theorem tn_c {L L' : Nat → Int32} {m : Nat} {p : Int32} (e : ∀ i, i < m → L i = L' i) : ∀ i, i ≤ m → tn_f L m p i = tn_f L' m p i := by
  intro i
  induction i with
  | zero => exact fun _ => rfl
  | succ i ih =>
    intro hi
    have q := ih (by omega)
    by_cases h : (∀ j, j < m → gm_tr p (L i) (L j) ≤ 0) ∧ (tn_f L m p i = -10000 ∨ gm_sq p (L i) < gm_sq p (tn_f L m p i))
    · have h' : (∀ j, j < m → gm_tr p (L' i) (L' j) ≤ 0) ∧ (tn_f L' m p i = -10000 ∨ gm_sq p (L' i) < gm_sq p (tn_f L' m p i)) := by
        rw [← q, ← e i (by omega)]
        exact ⟨fun j hj => by rw [← e j hj]; exact h.1 j hj, h.2⟩
      rw [tn_t h.1 h.2, tn_t h'.1 h'.2, e i (by omega)]
    · have h' : ¬ ((∀ j, j < m → gm_tr p (L' i) (L' j) ≤ 0) ∧ (tn_f L' m p i = -10000 ∨ gm_sq p (L' i) < gm_sq p (tn_f L' m p i))) := by
        rw [← q, ← e i (by omega)]
        intro g
        exact h ⟨fun j hj => by rw [e j hj]; exact g.1 j hj, g.2⟩
      rw [tn_n h, tn_n h', q]
theorem wx_none {post : Int32 → Prop} {fp fs : Int32} {a0 a1 a2 a3 : Nat → Int32} {m : Nat} {p q : Int32} (hm : m ≤ 24) (hL : ∀ i, i < m → gm_P (a2 i)) (hp : gm_P p) (hq : gm_P q)
    (h1 : (∀ j, j < m → gm_tr p q (a2 j) ≤ 0) → post 1) (h0 : ¬ (∀ j, j < m → gm_tr p q (a2 j) ≤ 0) → post 0) : wpX_noneOnLeft post (fp, fs, a0, a1, a2, a3) (nI m) p q := by
  have key : ∀ d i, i + d = m → (∀ j, j < i → gm_tr p q (a2 j) ≤ 0) → wX_noneOnLeft_3 post (nI m) p q fp fs a0 a1 a2 a3 (d + 1) (nI i) := by
    intro d
    induction d with
    | zero => exact fun i hi h => br_t (nI_le (by omega) (by omega)) (h1 fun j hj => h j (by omega))
    | succ d ih =>
      intro i hi h
      have B := gm_trB hp hq (hL i (by omega))
      have e1 := i3_le0 (i := gm_tr p q (a2 i)) (by omega)
      refine br_f (nI_ge (by omega) (by omega)) ⟨vp_in_nI (by omega) (by omega), ?_⟩
      rw [nI_clamp (by omega)]
      refine wx_turn ⟨fun hl => nm_r (nI_1 i) (ih (i + 1) (by omega) fun j hj => ?_), fun hl => h0 fun g => hl (e1.mpr (g i (by omega)))⟩
      by_cases ej : j = i
      · rw [ej]; exact e1.mp hl
      · exact h j (by omega)
  exact ⟨_, key m 0 (by omega) (fun j hj => by omega)⟩
theorem tn_X {post : Int32 → SX → Prop} {fp fs : Int32} {a0 a1 a2 a3 : Nat → Int32} {m : Nat} {p : Int32} (hm : m ≤ 24) (hL : ∀ i, i < m → gm_P (a2 i)) (hp : gm_P p) (h : post (tn_f a2 m p m) (fp, fs, a0, a1, a2, a3)) :
    ∀ d i, i + d = m → ∀ y : Int32, (tn_f a2 m p i = -10000 ∨ y = Int32.ofInt (gm_sq p (tn_f a2 m p i))) → wX_tangent_50 post p (nI m) fp fs a0 a1 a2 a3 (d + 1) (tn_f a2 m p i) y (nI i) := by
  intro d
  induction d with
  | zero =>
    intro i hi y hy
    have e : i = m := by omega
    subst e
    exact br_t (nI_le (Nat.le_refl i) (by omega)) h
  | succ d ih =>
    intro i hi y hy
    have vin : vp_in (nI i) 25 := vp_in_nI (by omega) (by omega)
    have Pi := hL i (by omega)
    have B1 := gm_sqB hp Pi
    have keep : (¬ ((∀ j, j < m → gm_tr p (a2 i) (a2 j) ≤ 0) ∧ (tn_f a2 m p i = -10000 ∨ gm_sq p (a2 i) < gm_sq p (tn_f a2 m p i)))) → ∀ w : Int32, w = nI i + 1 → wX_tangent_50 post p (nI m) fp fs a0 a1 a2 a3 (d + 1) (tn_f a2 m p i) y w := by
      intro hn
      refine nm_r (nI_1 i) ?_
      have := ih (i + 1) (by omega) y (by rw [tn_n hn]; exact hy)
      rw [tn_n hn] at this
      exact this
    have try1 : (tn_f a2 m p i = -10000 ∨ gm_sq p (a2 i) < gm_sq p (tn_f a2 m p i)) → wX_tangent_83 post (wX_tangent_50 post p (nI m) fp fs a0 a1 a2 a3 (d + 1)) p (nI m) (tn_f a2 m p i) y (nI i) (Int32.ofInt (gm_sq p (a2 i))) fp fs a0 a1 a2 a3 := by
      intro hc
      refine br_f (by decide) ⟨vin, ?_⟩
      rw [nI_clamp (by omega)]
      refine wx_none hm hL hp Pi (fun hall => br_f (by decide) ⟨vin, nm_e (nm_r (nI_1 i) ?_)⟩) (fun hno => br_t rfl (keep fun g => hno g.1))
      have := ih (i + 1) (by omega) (Int32.ofInt (gm_sq p (a2 i))) (by rw [tn_t hall hc]; exact Or.inr rfl)
      rw [tn_t hall hc] at this
      exact this
    refine br_f (nI_ge (by omega) (by omega)) ⟨vin, ?_⟩
    rw [nI_clamp (by omega)]
    refine wx_square ⟨fun e => try1 (Or.inl e), fun e => ?_⟩
    have hy := hy.resolve_left e
    have PT := (tn_P (p := p) hL i (by omega)).resolve_left e
    have B2 := gm_sqB hp PT
    have e1 := i3_le (i := gm_sq p (tn_f a2 m p i)) (j := gm_sq p (a2 i)) (by omega) (by omega)
    rw [← hy] at e1
    refine ⟨fun hl => br_t rfl (keep fun g => ?_), fun hl => try1 (Or.inr ?_)⟩
    · have := e1.mp hl
      rcases g.2 with q | q
      · exact e q
      · omega
    · have := mt e1.mpr hl
      omega
theorem tn_Y {post : Int32 → SY → Prop} {sp lf li : Nat → Int32} {m : Nat} {p : Int32} (hm : m ≤ 24) (hL : ∀ i, i < m → gm_P (li i)) (hp : gm_P p) (h : post (tn_f li m p m) (nI m, sp, lf, li)) :
    ∀ d i, i + d = m → wY_tangent_37 post p (nI m) sp lf li (d + 1) (tn_f li m p i) (nI i) := by
  intro d
  induction d with
  | zero =>
    intro i hi
    have e : i = m := by omega
    subst e
    exact br_t (nI_le (Nat.le_refl i) (by omega)) h
  | succ d ih =>
    intro i hi
    have vin : vp_in (nI i) 24 := vp_in_nI (by omega) (by omega)
    have Pi := hL i (by omega)
    have B1 := gm_sqB hp Pi
    have keep : (¬ ((∀ j, j < m → gm_tr p (li i) (li j) ≤ 0) ∧ (tn_f li m p i = -10000 ∨ gm_sq p (li i) < gm_sq p (tn_f li m p i)))) → ∀ w : Int32, w = nI i + 1 → wY_tangent_37 post p (nI m) sp lf li (d + 1) (tn_f li m p i) w := by
      intro hn
      refine nm_r (nI_1 i) ?_
      have := ih (i + 1) (by omega)
      rw [tn_n hn] at this
      exact this
    have take : (∀ j, j < m → gm_tr p (li i) (li j) ≤ 0) → (tn_f li m p i = -10000 ∨ gm_sq p (li i) < gm_sq p (tn_f li m p i)) → wY_tangent_128 post (wY_tangent_37 post p (nI m) sp lf li (d + 1)) p (nI i) (nI m) sp lf li := by
      intro h1 h2
      refine ⟨vin, ?_⟩
      rw [nI_clamp (by omega)]
      refine nm_e (nm_r (nI_1 i) ?_)
      have := ih (i + 1) (by omega)
      rw [tn_t h1 h2] at this
      exact this
    have inner : ∀ t j, j + t = m → ∀ x4 : Int32, ((x4 = 1 ∧ ∀ j', j' < j → gm_tr p (li i) (li j') ≤ 0) ∨ (x4 = 0 ∧ ¬ (∀ j', j' < m → gm_tr p (li i) (li j') ≤ 0))) →
        wY_tangent_51 post (wY_tangent_37 post p (nI m) sp lf li (d + 1)) p (tn_f li m p i) (nI i) (nI m) sp lf li (t + 1) x4 (nI j) := by
      intro t
      induction t with
      | zero =>
        intro j hj x4 hx
        have e : j = m := by omega
        subst e
        refine br_t (nI_le (Nat.le_refl j) (by omega)) ?_
        rcases hx with ⟨rfl, hall⟩ | ⟨rfl, hno⟩
        · refine br_f (by decide) ?_
          rcases tn_P (p := p) hL i (by omega) with e | PT
          · exact br_t (by rw [e]; decide) (take hall (Or.inl e))
          · have ne : tn_f li j p i ≠ -10000 := fun e => by
              rw [e] at PT
              exact absurd PT.1 (by decide)
            have nlt : ¬ tn_f li j p i < 0 := fun z => by
              have z1 := Int32.lt_iff_toInt_lt.mp z
              have z0 : (0 : Int32).toInt = 0 := rfl
              have := PT.1
              omega
            have B2 := gm_sqB hp PT
            have e1 := i3_le (i := gm_sq p (tn_f li j p i)) (j := gm_sq p (li i)) (by omega) (by omega)
            refine br_f nlt ⟨vin, ?_⟩
            rw [nI_clamp (by omega)]
            refine wy_square hp Pi (wy_square hp PT ⟨fun hl => keep fun g => ?_, fun hl => take hall (Or.inr ?_)⟩)
            · have := e1.mp hl
              rcases g.2 with q | q
              · exact ne q
              · omega
            · have := mt e1.mpr hl
              omega
        · exact br_t rfl (keep fun g => hno g.1)
      | succ t iht =>
        intro j hj x4 hx
        refine br_f (nI_ge (by omega) (by omega)) ?_
        rcases hx with ⟨rfl, hall⟩ | ⟨rfl, hno⟩
        · have B := gm_trB hp Pi (hL j (by omega))
          have e1 := i3_gt0 (i := gm_tr p (li i) (li j)) (by omega)
          refine br_f (by decide) ⟨vin, vp_in_nI (by omega) (by omega), ?_⟩
          rw [nI_clamp (n := i) (by omega), nI_clamp (n := j) (by omega)]
          refine wy_turn hp Pi (hL j (by omega)) ⟨fun hg => nm_r (nI_1 j) (iht (j + 1) (by omega) 0 (Or.inr ⟨rfl, fun g => ?_⟩)), fun hg => nm_r (nI_1 j) (iht (j + 1) (by omega) 1 (Or.inl ⟨rfl, fun j' hj' => ?_⟩))⟩
          · have := e1.mp hg
            have := g j (by omega)
            omega
          · have := mt e1.mpr hg
            by_cases ej : j' = j
            · rw [ej]; omega
            · exact hall j' (by omega)
        · exact br_t rfl (nm_r (nI_1 j) (iht (j + 1) (by omega) 0 (Or.inr ⟨rfl, hno⟩)))
    exact br_f (nI_ge (by omega) (by omega)) ⟨_, inner m 0 (by omega) 1 (Or.inl ⟨rfl, fun j' hj' => by omega⟩)⟩
theorem i_vc_tangent {k : Nat} {u : SX} {v : SY} (I : i_Rel k u v) (hk : k + 3 ≤ 1536) (v1 : Int32) : wpX_tangent (fun r u' => wpY_tangent (fun r' v' => r' = r ∧ i_Rel (k + 3) u' v') v v1) u v1 := by
  obtain ⟨fp, fs, a0, a1, a2, a3⟩ := u
  obtain ⟨fm, sp, lf, li⟩ := v
  have I : rl_R fp a0 sp := I
  unfold wpX_tangent
  refine wx_isPlace (fun hp => br_f (by decide) ⟨fun z => ?_, fun nz => wx_hull I.1 fun m L b f hm hc => wx_stand I.1 hm hc hp fun v hv => ?_⟩) (fun hp => br_t rfl ?_)
  · unfold wpY_tangent
    refine wy_look I fun m' L' lf' hm' hy hr' => wy_isPlace (fun _ => br_f (by decide) (br_t ?_ ⟨rfl, I⟩)) (fun q => absurd hp q)
    rcases hl_of I.1 hr' with ⟨e, _⟩ | q
    · rw [e]; rfl
    · obtain ⟨i, hi, hb, _⟩ := gm_cS q q.1
      rw [mx_z z] at hb
      exact absurd hb (by decide)
  · have m0 : 0 < m := by
      rcases hc with ⟨_, hn⟩ | hc
      · obtain ⟨i, hi, hb⟩ := mx_nz I nz
        exact absurd ⟨i, hi, hb, rfl⟩ (hn (a0 i))
      · exact hc.1
    have Yside : ∀ (r : Int32) (u' : SX), rl_R u'.1 u'.2.2.1 sp → (v = 0 → r = tn_f L m v1 m) → (v ≠ 0 → r = -10000) → wpY_tangent (fun r' v' => r' = r ∧ i_Rel (k + 3) u' v') (fm, sp, lf, li) v1 := by
      intro r u' hrel h0 h1
      unfold wpY_tangent
      refine wy_look I fun m' L' lf' hm' hy hr' => wy_isPlace (fun _ => br_f (by decide) ?_) (fun q => absurd hp q)
      have hc' := hl_of I.1 hr'
      obtain ⟨em, eL⟩ := hl_un I.1 hc hc'
      subst em
      refine br_f (nI_ne0 m0 (by omega)) (wy_wher I.1 hm hc' hp fun v' hv' => ?_)
      have ev := hl_stu I.1 hp hv' hv
      subst ev
      refine ⟨fun e => ?_, fun e => ⟨(h1 fun z => e (by rw [z]; decide)).symm, hrel⟩⟩
      have ev : v' = 0 := by
        rcases hl_st3 hv' with q | q | q
        · exact q
        · rw [q] at e; exact absurd e (by decide)
        · rw [q] at e; exact absurd e (by decide)
      refine ⟨_, tn_Y hm (fun i hi => hl_P I.1 hc' hi) hp ⟨?_, hrel⟩ m 0 (by omega)⟩
      rw [h0 ev, tn_c eL m (Nat.le_refl m)]
    refine ⟨fun e => ?_, fun e => Yside _ _ I (fun z => absurd z e) (fun _ => rfl)⟩
    refine ⟨_, tn_X hm (fun i hi => hl_P I.1 hc hi) hp (Yside _ _ I (fun _ => rfl) (fun z => absurd e z)) m 0 (by omega) 0 (Or.inl rfl)⟩
  · unfold wpY_tangent
    exact wy_look I fun m' L' lf' hm' hy hr' => wy_isPlace (fun q => absurd q hp) (fun _ => br_t rfl ⟨rfl, I⟩)
end
