section
theorem pk_us {f : Nat → Int32} {k : Nat} {x : Int32} : upd f k x k = x := if_pos rfl
theorem pk_un {f : Nat → Int32} {k j : Nat} {x : Int32} (h : j ≠ k) : upd f k x j = f j := if_neg h
theorem pk_sub {a b : Nat} (h : b ≤ a) : nI a - nI b = nI (a - b) := by
  obtain ⟨c, rfl⟩ : ∃ c, a = c + b := ⟨a - b, by omega⟩
  rw [← nI_add, Int32.add_sub_cancel, Nat.add_sub_cancel]
theorem pk_m1 (n : Nat) : nI (n + 1) + (-1) = nI n := by
  rw [← nI_1, Int32.add_assoc, show (1 : Int32) + (-1) = 0 from rfl, Int32.add_zero]
theorem pk_mul (a b : Nat) : nI a * nI b = nI (a * b) := (Int32.ofNat_mul a b).symm
theorem pk_div {a d : Nat} (ha : a < 2 ^ 31) (h0 : 0 < d) (hd : d < 2 ^ 31) : nI a / nI d = nI (a / d) := by
  apply Int32.toInt_inj.mp
  rw [lg_idiv_nonneg (by rw [nI_toInt ha]; omega) (by rw [nI_toInt hd]; omega), nI_toInt ha, nI_toInt hd, nI_toInt (Nat.lt_of_le_of_lt (Nat.div_le_self a d) ha)]
  first | rfl | exact (Int.natCast_ediv _ _).symm
theorem pk_rem {a d : Nat} (ha : a < 2 ^ 31) (h0 : 0 < d) (hd : d < 2 ^ 31) : nI a - nI a / nI d * nI d = nI (a % d) := by
  rw [pk_div ha h0 hd, pk_mul, pk_sub (Nat.div_mul_le_self a d)]
  exact congrArg nI (by have := Nat.div_add_mod' a d; omega)
theorem pk_sub_toInt {a b : Nat} (ha : a < 2 ^ 30) (hb : b < 2 ^ 30) : (nI a - nI b).toInt = (a : Int) - b := by
  rw [Int32.toInt_sub, nI_toInt (by omega), nI_toInt (by omega)]
  exact Int.bmod_eq_of_le (by omega) (by omega)
theorem pk_sneg {a b : Nat} (hb : b < 2 ^ 30) (h : a < b) : nI a - nI b < 0 := by
  rw [Int32.lt_iff_toInt_lt, pk_sub_toInt (by omega) hb, show (0 : Int32).toInt = 0 from by decide]
  omega
theorem pk_ix (x : Int32) {n : Nat} (hn : n < 2 ^ 31) : x < 0 ∨ nI n ≤ x ∨ ∃ j : Nat, j < n ∧ x = nI j := by
  by_cases h : x < 0
  · exact Or.inl h
  · obtain ⟨j, hj, rfl⟩ := nI_of h
    by_cases h2 : j < n
    · exact Or.inr (Or.inr ⟨j, h2, rfl⟩)
    · exact Or.inr (Or.inl (nI_le (by omega) hj))
theorem pk_le {x y : Int32} {A B : Prop} (a b : Nat) (f : a ≤ b → A) (g : b < a → B) (hx : x = nI a := by rfl) (hy : y = nI b := by rfl) (ha : a < 2 ^ 31 := by omega) (hb : b < 2 ^ 31 := by omega) : (x ≤ y → A) ∧ (¬ x ≤ y → B) := by
  subst hx hy
  rw [nI_leI ha hb]
  exact ⟨f, fun z => g (by omega)⟩
theorem pk_lt {x y : Int32} {A B : Prop} (a b : Nat) (f : a < b → A) (g : b ≤ a → B) (hx : x = nI a := by rfl) (hy : y = nI b := by rfl) (ha : a < 2 ^ 31 := by omega) (hb : b < 2 ^ 31 := by omega) : (x < y → A) ∧ (¬ x < y → B) := by
  subst hx hy
  rw [nI_ltI ha hb]
  exact ⟨f, fun z => g (by omega)⟩
theorem pk_eq {x y : Int32} {A B : Prop} (a b : Nat) (f : a = b → A) (g : a ≠ b → B) (hx : x = nI a := by rfl) (hy : y = nI b := by rfl) (ha : a < 2 ^ 31 := by omega) (hb : b < 2 ^ 31 := by omega) : (x = y → A) ∧ (¬ x = y → B) := by
  subst hx hy
  rw [nI_eq ha hb]
  exact ⟨f, g⟩
theorem pk_in {x : Int32} (n N : Nat) (h : n < N) (hx : x = nI n := by rfl) (hN : N < 2 ^ 31 := by omega) : vp_in x N := by
  subst hx
  exact vp_in_nI h hN
theorem pk_cl {x : Int32} (n : Nat) (hx : x = nI n := by rfl) (h : n < 2 ^ 31 := by omega) : x.toNatClampNeg = n := by
  subst hx
  exact nI_clamp h
theorem pk_tn {n : Nat} (h : n < 2 ^ 32) : (nI n).toBitVec.toNat = n := Nat.mod_eq_of_lt h
theorem pk_and (x : Int32) {m : Int32} (k : Nat) (hm : m.toBitVec.toNat = 2 ^ k - 1) : x &&& m = nI (x.toBitVec.toNat % 2 ^ k) := by
  apply Int32.toBitVec_inj.mp
  apply BitVec.eq_of_toNat_eq
  rw [Int32.toBitVec_and, BitVec.toNat_and, hm, Nat.and_two_pow_sub_one_eq_mod]
  show _ = (BitVec.ofNat 32 _).toNat
  rw [BitVec.toNat_ofNat]
  exact (Nat.mod_eq_of_lt (Nat.lt_of_le_of_lt (Nat.mod_le _ _) x.toBitVec.isLt)).symm
theorem pk_andN {n : Nat} (h : n < 2 ^ 32) {m : Int32} (k : Nat) (hm : m.toBitVec.toNat = 2 ^ k - 1) : nI n &&& m = nI (n % 2 ^ k) := by
  rw [pk_and _ k hm, pk_tn h]
theorem pk_andE (x : Int32) {m : Int32} (k : Nat) (hm : m.toBitVec.toNat = 2 ^ k - 1) : ∃ j : Nat, j < 2 ^ k ∧ x &&& m = nI j := ⟨_, Nat.mod_lt _ (Nat.two_pow_pos k), pk_and x k hm⟩
theorem pk_andIn (x : Int32) {m : Int32} (k : Nat) (hm : m.toBitVec.toNat = 2 ^ k - 1) (hk : k ≤ 30) : vp_in (x &&& m) (2 ^ k) := by
  obtain ⟨j, hj, e⟩ := pk_andE x k hm
  rw [e]
  exact vp_in_nI hj (Nat.lt_of_le_of_lt (Nat.pow_le_pow_right (by decide) hk) (by decide))
theorem pk_shl (a s : Int32) (k : Nat) (hs : (s.toBitVec.smod 32).toNat = k) : (a <<< s).toBitVec.toNat = a.toBitVec.toNat * 2 ^ k % 2 ^ 32 := by
  show (a.toBitVec <<< (s.toBitVec.smod 32).toNat).toNat = _
  rw [hs, BitVec.toNat_shiftLeft, Nat.shiftLeft_eq]
theorem pk_shlN {n : Nat} (s : Int32) (k : Nat) (hs : (s.toBitVec.smod 32).toNat = k) (h : n * 2 ^ k < 2 ^ 32) : nI n <<< s = nI (n * 2 ^ k) := by
  apply Int32.toBitVec_inj.mp
  apply BitVec.eq_of_toNat_eq
  have hn : n < 2 ^ 32 := Nat.lt_of_le_of_lt (Nat.le_mul_of_pos_right n (Nat.two_pow_pos k)) h
  rw [pk_shl _ _ k hs, pk_tn hn, pk_tn h, Nat.mod_eq_of_lt h]
theorem pk_shr (a s : Int32) (k : Nat) (hs : (s.toBitVec.smod 32).toNat = k) : (a >>> s).toInt = a.toInt >>> k := by
  show (a.toBitVec.sshiftRight (s.toBitVec.smod 32).toNat).toInt = _
  rw [hs, BitVec.toInt_sshiftRight]
  rfl
theorem pk_shrN {n : Nat} (h : n < 2 ^ 31) (s : Int32) (k : Nat) (hs : (s.toBitVec.smod 32).toNat = k) : nI n >>> s = nI (n / 2 ^ k) := by
  apply Int32.toInt_inj.mp
  have h2 : n / 2 ^ k ≤ n := Nat.div_le_self _ _
  rw [pk_shr _ _ k hs, nI_toInt h, nI_toInt (by omega), Int.shiftRight_eq_div_pow]
  rfl
theorem pk_loop {σ : Type} (W : Nat → Nat → σ → Prop) (I : Nat → σ → Prop) (e i0 : Nat) (s : σ) (hi : i0 ≤ e) (h0 : I i0 s) (hx : ∀ n s, I e s → W (n + 1) e s)
    (hs : ∀ n i s, i < e → I i s → (∀ s', I (i + 1) s' → W n (i + 1) s') → W (n + 1) i s) : ∃ n, W n i0 s :=
  ⟨e + 1, loop_i W I e hx hs (e + 1) i0 s hi (by omega) h0⟩
theorem pk_loopD {σ : Type} (W : Nat → Nat → σ → Prop) (I : Nat → σ → Prop) (hx : ∀ n s, I 0 s → W (n + 1) 0 s)
    (hs : ∀ n i s, I (i + 1) s → (∀ s', I i s' → W n i s') → W (n + 1) (i + 1) s) : ∀ (e : Nat) (s : σ), I e s → W (e + 1) e s := by
  intro e
  induction e with
  | zero => exact fun s h => hx 0 s h
  | succ e ih => exact fun s h => hs (e + 1) e s h (fun s' h' => ih s' h')
theorem pk_least (P : Nat → Prop) (h : ∃ k, P k) : ∃ k, P k ∧ ∀ j, j < k → ¬ P j := by
  obtain ⟨k, hk⟩ := h
  induction k using Nat.strongRecOn with
  | ind k ih =>
    by_cases e : ∃ j, j < k ∧ P j
    · obtain ⟨j, hj, pj⟩ := e
      exact ih j hj pj
    · exact ⟨k, hk, fun j hj pj => e ⟨j, hj, pj⟩⟩
def bt (x : Int32) (i : Nat) : Bool := x.toBitVec.getLsbD i
theorem b_ext {x y : Int32} (h : ∀ i, i < 32 → bt x i = bt y i) : x = y := Int32.toBitVec_inj.mp (BitVec.eq_of_getLsbD_eq (fun i hi => h i hi))
theorem b_or (x y : Int32) (i : Nat) : bt (x ||| y) i = (bt x i || bt y i) := by unfold bt; rw [Int32.toBitVec_or, BitVec.getLsbD_or]
theorem b_and (x y : Int32) (i : Nat) : bt (x &&& y) i = (bt x i && bt y i) := by unfold bt; rw [Int32.toBitVec_and, BitVec.getLsbD_and]
theorem b_xor (x y : Int32) (i : Nat) : bt (x ^^^ y) i = (bt x i ^^ bt y i) := by unfold bt; rw [Int32.toBitVec_xor, BitVec.getLsbD_xor]
theorem b_big {x : Int32} {i : Nat} (h : 32 ≤ i) : bt x i = false := BitVec.getLsbD_of_ge _ _ h
theorem b_m1 : ∀ i, i < 32 → bt (-1) i = true := by decide +kernel
theorem b_0 (i : Nat) : bt 0 i = false := BitVec.getLsbD_zero
theorem s_l : ∀ n, n < 32 → ((nI n &&& 31).toBitVec.smod 32).toNat = n := by decide +kernel
theorem s_u : ∀ n, n < 32 → (((nI n).toUInt32 &&& Int32.toUInt32 31).toBitVec % 32).toNat = n := by decide +kernel
theorem b_shl (n : Nat) (hn : n < 32) (x : Int32) {i : Nat} (hi : i < 32) : bt (x <<< (nI n &&& 31)) i = (decide (n ≤ i) && bt x (i - n)) := by
  unfold bt
  rw [Int32.toBitVec_shiftLeft]
  show (x.toBitVec <<< ((nI n &&& 31).toBitVec.smod 32).toNat).getLsbD i = _
  rw [s_l n hn, BitVec.getLsbD_shiftLeft]
  rcases Nat.lt_or_ge i n with h | h
  · simp [h, Nat.not_le.mpr h]
  · simp [hi, h, Nat.not_lt.mpr h]
theorem b_ushr (n : Nat) (hn : n < 32) (x : Int32) (i : Nat) : bt ((x.toUInt32 >>> ((nI n).toUInt32 &&& Int32.toUInt32 31)).toInt32) i = bt x (n + i) := by
  show (x.toUInt32 >>> ((nI n).toUInt32 &&& Int32.toUInt32 31)).toBitVec.getLsbD i = x.toUInt32.toBitVec.getLsbD (n + i)
  rw [UInt32.toBitVec_shiftRight]
  show (x.toUInt32.toBitVec >>> (((nI n).toUInt32 &&& Int32.toUInt32 31).toBitVec % 32).toNat).getLsbD i = _
  rw [s_u n hn, BitVec.getLsbD_ushiftRight]
theorem b_sshr (n : Nat) (hn : n < 32) (x : Int32) {i : Nat} (hi : i < 32) : bt (x >>> (nI n &&& 31)) i = if n + i < 32 then bt x (n + i) else bt x 31 := by
  unfold bt
  rw [Int32.toBitVec_shiftRight]
  show (x.toBitVec.sshiftRight ((nI n &&& 31).toBitVec.smod 32).toNat).getLsbD i = _
  rw [s_l n hn, BitVec.getLsbD_sshiftRight, BitVec.msb_eq_getLsbD_last]
  simp [hi]
end
section
/-- places as points of the plane -/
def gm_x (p : Int32) : Int := (p &&& 63).toInt
def gm_y (p : Int32) : Int := (p >>> ((6 : Int32) &&& 31)).toInt
def gm_P (p : Int32) : Prop := 0 ≤ p.toInt ∧ p.toInt < 4096
def gm_tr (p q r : Int32) : Int := (gm_x q - gm_x p) * (gm_y r - gm_y p) - (gm_y q - gm_y p) * (gm_x r - gm_x p)
def gm_dt (r p q : Int32) : Int := (gm_x p - gm_x r) * (gm_x q - gm_x r) + (gm_y p - gm_y r) * (gm_y q - gm_y r)
def gm_sq (p q : Int32) : Int := (gm_x p - gm_x q) * (gm_x p - gm_x q) + (gm_y p - gm_y q) * (gm_y p - gm_y q)
def gm_la (p : Int32) : Int := 64 * gm_x p + gm_y p
theorem gm_Pn {p : Int32} (h : gm_P p) : ∃ j : Nat, j < 4096 ∧ p = nI j := vp_in_of (n := 4096) (vp_in_iff.mpr h) (by decide)
theorem gm_nP {j : Nat} (h : j < 4096) : gm_P (nI j) := by
  unfold gm_P
  rw [nI_toInt (by omega)]
  omega
theorem gm_and {j : Nat} (h : j < 4096) : nI j &&& 63 = nI (j % 64) := pk_andN (by omega) 6 (by decide)
theorem gm_shr {j : Nat} (h : j < 4096) : nI j >>> ((6 : Int32) &&& 31) = nI (j / 64) := pk_shrN (by omega) _ 6 (by decide)
theorem gm_xN {j : Nat} (h : j < 4096) : gm_x (nI j) = ((j % 64 : Nat) : Int) := by
  unfold gm_x
  rw [gm_and h, nI_toInt (by omega)]
theorem gm_yN {j : Nat} (h : j < 4096) : gm_y (nI j) = ((j / 64 : Nat) : Int) := by
  unfold gm_y
  rw [gm_shr h, nI_toInt (by omega)]
theorem gm_co {p : Int32} (h : gm_P p) : p.toInt = 64 * gm_y p + gm_x p ∧ 0 ≤ gm_x p ∧ gm_x p ≤ 63 ∧ 0 ≤ gm_y p ∧ gm_y p ≤ 63 := by
  obtain ⟨j, hj, rfl⟩ := gm_Pn h
  rw [gm_xN hj, gm_yN hj, nI_toInt (by omega)]
  omega
theorem gm_ext {p q : Int32} (hp : gm_P p) (hq : gm_P q) (hx : gm_x p = gm_x q) (hy : gm_y p = gm_y q) : p = q := by
  apply Int32.toInt_inj.mp
  rw [(gm_co hp).1, (gm_co hq).1, hx, hy]
theorem gm_laext {p q : Int32} (hp : gm_P p) (hq : gm_P q) (h : gm_la p = gm_la q) : p = q := by
  have a := gm_co hp
  have b := gm_co hq
  unfold gm_la at h
  exact gm_ext hp hq (by omega) (by omega)
theorem gm_pos {a b : Int} (ha : 0 ≤ a) (hb : 0 ≤ b) : 0 ≤ a * b := Int.mul_nonneg ha hb
theorem gm_nn {a b : Int} (hb : 0 < b) (h : 0 ≤ a * b) : 0 ≤ a := by
  rcases Int.lt_or_le a 0 with h1 | h1
  · have := Int.mul_neg_of_neg_of_pos h1 hb
    omega
  · exact h1
theorem gm_pp {a b : Int} (hb : 0 < b) (h : 0 < a * b) : 0 < a := by
  rcases Int.lt_or_le 0 a with h1 | h1
  · exact h1
  · have := Int.mul_nonneg (a := -a) (b := b) (by omega) (by omega)
    have e : -a * b = -(a * b) := Int.neg_mul a b
    omega
theorem gm_np {a b : Int} (hb : 0 < b) (h : a * b ≤ 0) : a ≤ 0 := by
  rcases Int.lt_or_le 0 a with h1 | h1
  · have := Int.mul_pos h1 hb
    omega
  · exact h1
theorem gm_z {a b : Int} (hb : 0 < b) (h : a * b = 0) : a = 0 := by
  have h1 := gm_nn hb (by omega : 0 ≤ a * b)
  have h2 := gm_np hb (by omega : a * b ≤ 0)
  omega
theorem gm_sqz {a b : Int} (h : a * a + b * b ≤ 0) : a = 0 ∧ b = 0 := by
  have p : ∀ c : Int, 0 ≤ c * c := fun c => by
    rcases Int.le_total 0 c with h | h
    · exact Int.mul_nonneg h h
    · exact Int.mul_nonneg_of_nonpos_of_nonpos h h
  have ha := p a
  have hb := p b
  have z1 : a * a = 0 := by omega
  have z2 : b * b = 0 := by omega
  exact ⟨(Int.mul_eq_zero.mp z1).elim id id, (Int.mul_eq_zero.mp z2).elim id id⟩
theorem gm_sq0 {p q : Int32} (hp : gm_P p) (hq : gm_P q) (h : gm_sq p q ≤ 0) : p = q := by
  obtain ⟨h1, h2⟩ := gm_sqz h
  exact gm_ext hp hq (by omega) (by omega)
theorem gm_abs {a b : Int} (ha : -63 ≤ a ∧ a ≤ 63) (hb : -63 ≤ b ∧ b ≤ 63) : -3969 ≤ a * b ∧ a * b ≤ 3969 := by
  have h1 : a.natAbs ≤ 63 := by omega
  have h2 : b.natAbs ≤ 63 := by omega
  have h := Nat.mul_le_mul h1 h2
  rw [← Int.natAbs_mul] at h
  omega
theorem gm_trB {p q r : Int32} (hp : gm_P p) (hq : gm_P q) (hr : gm_P r) : -7938 ≤ gm_tr p q r ∧ gm_tr p q r ≤ 7938 := by
  have a := gm_co hp
  have b := gm_co hq
  have c := gm_co hr
  have h1 := gm_abs (a := gm_x q - gm_x p) (b := gm_y r - gm_y p) (by omega) (by omega)
  have h2 := gm_abs (a := gm_y q - gm_y p) (b := gm_x r - gm_x p) (by omega) (by omega)
  unfold gm_tr
  omega
theorem gm_dtB {p q r : Int32} (hp : gm_P p) (hq : gm_P q) (hr : gm_P r) : -7938 ≤ gm_dt p q r ∧ gm_dt p q r ≤ 7938 := by
  have a := gm_co hp
  have b := gm_co hq
  have c := gm_co hr
  have h1 := gm_abs (a := gm_x q - gm_x p) (b := gm_x r - gm_x p) (by omega) (by omega)
  have h2 := gm_abs (a := gm_y q - gm_y p) (b := gm_y r - gm_y p) (by omega) (by omega)
  unfold gm_dt
  omega
theorem gm_sqB {p q : Int32} (hp : gm_P p) (hq : gm_P q) : 0 ≤ gm_sq p q ∧ gm_sq p q ≤ 7938 := by
  have a := gm_co hp
  have b := gm_co hq
  have h1 := gm_abs (a := gm_x p - gm_x q) (b := gm_x p - gm_x q) (by omega) (by omega)
  have h2 := gm_abs (a := gm_y p - gm_y q) (b := gm_y p - gm_y q) (by omega) (by omega)
  refine ⟨?_, by unfold gm_sq; omega⟩
  rcases Int.lt_or_le (gm_sq p q) 0 with h | h
  · have := gm_sqz (a := gm_x p - gm_x q) (b := gm_y p - gm_y q) (by unfold gm_sq at h; omega)
    unfold gm_sq at h
    rw [this.1, this.2] at h
    omega
  · exact h
theorem gm_laB {p : Int32} (hp : gm_P p) : 0 ≤ gm_la p ∧ gm_la p ≤ 4095 := by
  have a := gm_co hp
  unfold gm_la
  omega
/-- the turns of one triple in its other orders -/
theorem gm_rot (p q r : Int32) : gm_tr q r p = gm_tr p q r := by unfold gm_tr; grind
theorem gm_swp (p q r : Int32) : gm_tr p r q = - gm_tr p q r := by unfold gm_tr; grind
theorem gm_swq (p q r : Int32) : gm_tr q p r = - gm_tr p q r := by unfold gm_tr; grind
theorem gm_ppr (p r : Int32) : gm_tr p p r = 0 := by unfold gm_tr; grind
theorem gm_prp (p r : Int32) : gm_tr p r p = 0 := by unfold gm_tr; grind
theorem gm_prr (p r : Int32) : gm_tr p r r = 0 := by unfold gm_tr; grind
theorem gm_four (w x y z : Int32) : gm_tr w x y - gm_tr w x z + gm_tr w y z - gm_tr x y z = 0 := by unfold gm_tr; grind
/-- the order's bracket: o' lies at infinity (K = 0) or near o -/
def gm_B (K e : Int) (o a b : Int32) : Int := K * gm_tr o a b + e * (gm_la b - gm_la a)
theorem gm_cw (K e : Int) (o w x y z : Int32) : gm_tr w x z * gm_B K e o w y = gm_tr w x y * gm_B K e o w z + gm_tr w y z * gm_B K e o w x := by
  unfold gm_B gm_tr gm_la; grind
theorem gm_cz (K e : Int) (o w x y z : Int32) : gm_tr w y z * gm_B K e o x z = gm_tr w x z * gm_B K e o y z + gm_tr x y z * gm_B K e o w z := by
  unfold gm_B gm_tr gm_la; grind
theorem gm_cx (K e : Int) (o w x y z : Int32) : gm_tr w x z * gm_B K e o x y = gm_tr w x y * gm_B K e o x z + gm_tr x y z * gm_B K e o w x := by
  unfold gm_B gm_tr gm_la; grind
theorem gm_cy (K e : Int) (o w x y z : Int32) : gm_tr w y z * gm_B K e o x y = gm_tr w x y * gm_B K e o y z + gm_tr x y z * gm_B K e o w y := by
  unfold gm_B gm_tr gm_la; grind
end
section
/-- r lies on the left of c u, or on the stretch from c to u -/
def gm_N (c u r : Int32) : Prop := 0 ≤ gm_tr c u r ∧ (gm_tr c u r = 0 → gm_dt r c u ≤ 0)
/-- the same on the side s (1: left, -1: right) -/
def gm_Ns (s : Int) (c u r : Int32) : Prop := 0 ≤ s * gm_tr c u r ∧ (gm_tr c u r = 0 → gm_dt r c u ≤ 0)
def gm_ph (a b : Int) (c r : Int32) : Int := a * (gm_x r - gm_x c) + b * (gm_y r - gm_y c)
/-- c is strictly outermost in some direction -/
def gm_E (S : Int32 → Prop) (c : Int32) : Prop := ∃ a b : Int, ∀ r, S r → r ≠ c → 0 < gm_ph a b c r
theorem gm_N1 {c u r : Int32} : gm_N c u r ↔ gm_Ns 1 c u r := by unfold gm_N gm_Ns; rw [Int.one_mul]
theorem gm_Nm {p d r : Int32} : gm_N p d r ↔ gm_Ns (-1) d p r := by
  unfold gm_N gm_Ns
  have h1 : gm_tr d p r = - gm_tr p d r := gm_swq p d r
  have h2 : gm_dt r d p = gm_dt r p d := by unfold gm_dt; grind
  rw [h1, h2]
  constructor
  · exact fun h => ⟨by omega, fun z => h.2 (by omega)⟩
  · exact fun h => ⟨by omega, fun z => h.2 (by omega)⟩
theorem gm_phB (a b : Int) (c u v w : Int32) : gm_tr c u w * gm_ph a b c v = gm_tr c v w * gm_ph a b c u + gm_tr c u v * gm_ph a b c w := by
  unfold gm_ph gm_tr; grind
theorem gm_ph1 (a b : Int) (c u r : Int32) (h : gm_tr c u r = 0) : gm_dt r c u * gm_ph a b c u = (gm_ph a b c r - gm_ph a b c u) * gm_dt c u r := by
  unfold gm_tr at h; unfold gm_dt gm_ph; grind
theorem gm_ph2 (a b : Int) (c u r : Int32) (h : gm_tr c u r = 0) : gm_dt c u r * gm_ph a b c u = gm_ph a b c r * gm_sq c u := by
  unfold gm_tr at h; unfold gm_dt gm_ph gm_sq; grind
theorem gm_ph0 (a b : Int) (c : Int32) : gm_ph a b c c = 0 := by unfold gm_ph; grind
theorem gm_sqp {a b : Int} {c u : Int32} (h : 0 < gm_ph a b c u) : 0 < gm_sq c u := by
  rcases Int.lt_or_le 0 (gm_sq c u) with h1 | h1
  · exact h1
  · have z := gm_sqz (a := gm_x c - gm_x u) (b := gm_y c - gm_y u) h1
    have e : gm_ph a b c u = 0 := by
      unfold gm_ph
      rw [show gm_x u - gm_x c = 0 by omega, show gm_y u - gm_y c = 0 by omega, Int.mul_zero, Int.mul_zero, Int.zero_add]
    omega
/-- the segment's condition by the direction's measure -/
theorem gm_seg {a b : Int} {c u r : Int32} (hu : 0 < gm_ph a b c u) (hr : 0 < gm_ph a b c r) (h : gm_tr c u r = 0) : gm_dt r c u ≤ 0 ↔ gm_ph a b c r ≤ gm_ph a b c u := by
  have e1 := gm_ph1 a b c u r h
  have e2 := gm_ph2 a b c u r h
  have hd : 0 < gm_dt c u r := gm_pp hu (by rw [e2]; exact Int.mul_pos hr (gm_sqp hu))
  constructor
  · intro hle
    have := Int.mul_nonneg (a := -gm_dt r c u) (b := gm_ph a b c u) (by omega) (by omega)
    rw [Int.neg_mul] at this
    have := gm_np hd (a := gm_ph a b c r - gm_ph a b c u) (by omega)
    omega
  · intro hle
    have := Int.mul_nonneg (a := gm_ph a b c u - gm_ph a b c r) (b := gm_dt c u r) (by omega) (by omega)
    have e3 : (gm_ph a b c u - gm_ph a b c r) * gm_dt c u r = - ((gm_ph a b c r - gm_ph a b c u) * gm_dt c u r) := by rw [← Int.neg_mul]; congr 1; omega
    exact gm_np hu (by omega)
theorem gm_rc (s : Int) (c u : Int32) : gm_Ns s c u c := by
  unfold gm_Ns
  rw [gm_prp, Int.mul_zero]
  exact ⟨Int.le_refl 0, fun _ => by unfold gm_dt; grind⟩
theorem gm_ru (s : Int) (c u : Int32) : gm_Ns s c u u := by
  unfold gm_Ns
  rw [gm_prr, Int.mul_zero]
  exact ⟨Int.le_refl 0, fun _ => by unfold gm_dt; grind⟩
theorem gm_uc {s : Int} {c r : Int32} (hc : gm_P c) (hr : gm_P r) (h : gm_Ns s c c r) : r = c := by
  have h2 := h.2 (gm_ppr c r)
  exact (gm_sq0 hc hr (by unfold gm_dt at h2; unfold gm_sq; exact h2)).symm
theorem gm_Ntr {s : Int} (hs : s = 1 ∨ s = -1) {a b : Int} {c w u r : Int32} (hc : gm_P c) (hPu : gm_P u) (hPr : gm_P r)
    (hw : w ≠ c → 0 < gm_ph a b c w) (hu : u ≠ c → 0 < gm_ph a b c u) (hr : r ≠ c → 0 < gm_ph a b c r)
    (h1 : gm_Ns s c w u) (h2 : gm_Ns s c u r) : gm_Ns s c w r := by
  by_cases er : r = c
  · rw [er]; exact gm_rc s c w
  by_cases eu : u = c
  · rw [eu] at h2; exact absurd (gm_uc hc hPr h2) er
  by_cases ew : w = c
  · rw [ew] at h1; exact absurd (gm_uc hc hPu h1) eu
  have pw := hw ew
  have pu := hu eu
  have pr := hr er
  have e := gm_phB a b c w u r
  have m1 := gm_pos h1.1 (Int.le_of_lt pr)
  have m2 := gm_pos h2.1 (Int.le_of_lt pw)
  have e' : (s * gm_tr c w r) * gm_ph a b c u = (s * gm_tr c u r) * gm_ph a b c w + (s * gm_tr c w u) * gm_ph a b c r := by
    rw [Int.mul_assoc, e, Int.mul_add, Int.mul_assoc, Int.mul_assoc]
  refine ⟨gm_nn pu (by omega), fun z => ?_⟩
  rw [z, Int.mul_zero, Int.zero_mul] at e'
  have z1 : s * gm_tr c w u = 0 := gm_z pr (by omega)
  have z2 : s * gm_tr c u r = 0 := gm_z pw (by omega)
  have y1 : gm_tr c w u = 0 := by rcases hs with rfl | rfl <;> omega
  have y2 : gm_tr c u r = 0 := by rcases hs with rfl | rfl <;> omega
  have l1 := (gm_seg pw pu y1).mp (h1.2 y1)
  have l2 := (gm_seg pu pr y2).mp (h2.2 y2)
  exact (gm_seg pw pr z).mpr (by omega)
theorem gm_Nto {s : Int} (hs : s = 1 ∨ s = -1) {a b : Int} {c w u : Int32}
    (hw : w ≠ c → 0 < gm_ph a b c w) (hu : u ≠ c → 0 < gm_ph a b c u) : gm_Ns s c w u ∨ gm_Ns s c u w := by
  by_cases eu : u = c
  · rw [eu]; exact Or.inl (gm_rc s c w)
  by_cases ew : w = c
  · rw [ew]; exact Or.inr (gm_rc s c u)
  have pw := hw ew
  have pu := hu eu
  have e : gm_tr c u w = - gm_tr c w u := gm_swp c w u
  by_cases z : gm_tr c w u = 0
  · have z' : gm_tr c u w = 0 := by omega
    rcases Int.le_total (gm_ph a b c u) (gm_ph a b c w) with l | l
    · exact Or.inl ⟨by rw [z, Int.mul_zero]; exact Int.le_refl 0, fun _ => (gm_seg pw pu z).mpr l⟩
    · exact Or.inr ⟨by rw [z', Int.mul_zero]; exact Int.le_refl 0, fun _ => (gm_seg pu pw z').mpr l⟩
  · have z' : ¬ gm_tr c u w = 0 := by omega
    rcases Int.le_total 0 (s * gm_tr c w u) with l | l
    · exact Or.inl ⟨l, fun h => absurd h z⟩
    · exact Or.inr ⟨by rw [e, Int.mul_neg]; omega, fun h => absurd h z'⟩
/-- the step: w is farther round than u, and so takes its place -/
theorem gm_stp {S : Int32 → Prop} {s : Int} (hs : s = 1 ∨ s = -1) {c w u : Int32} (hS : ∀ r, S r → gm_P r) (hc : gm_P c)
    (hE : gm_E (fun r => S r ∨ r = w) c) (hu : S u ∨ u = c) (hPu : gm_P u) (h : ∀ r, S r → gm_Ns s c u r) (hn : ¬ gm_Ns s c u w) : ∀ r, S r ∨ r = w → gm_Ns s c w r := by
  obtain ⟨a, b, hE⟩ := hE
  have pw : w ≠ c → 0 < gm_ph a b c w := fun e => hE w (Or.inr rfl) e
  have pu : u ≠ c → 0 < gm_ph a b c u := fun e => hu.elim (fun h => hE u (Or.inl h) e) (fun h => absurd h e)
  have hwu : gm_Ns s c w u := (gm_Nto hs pu pw).resolve_left hn
  intro r hr
  rcases hr with hr | rfl
  · exact gm_Ntr hs hc hPu (hS r hr) pw pu (fun e => hE r (Or.inl hr) e) hwu (h r hr)
  · exact gm_ru s c r
def gm_nx (S : Int32 → Prop) (p q : Int32) : Prop := S q ∧ ∀ r, S r → gm_N p q r
theorem gm_nxu {S : Int32 → Prop} (hS : ∀ r, S r → gm_P r) {p q q' : Int32} (h : gm_nx S p q) (h' : gm_nx S p q') : q = q' := by
  have a := h.2 q' h'.1
  have b := h'.2 q h.1
  have e : gm_tr p q' q = - gm_tr p q q' := gm_swp p q q'
  have a1 := a.1
  have b1 := b.1
  have a2 := a.2 (by omega)
  have b2 := b.2 (by omega)
  have e2 : gm_dt q' p q + gm_dt q p q' = gm_sq q q' := by unfold gm_dt gm_sq; grind
  exact gm_sq0 (hS q h.1) (hS q' h'.1) (by omega)
theorem gm_nxi {S : Int32 → Prop} (hS : ∀ r, S r → gm_P r) {p p' q : Int32} (hp : S p) (hp' : S p') (h : gm_nx S p q) (h' : gm_nx S p' q) : p = p' := by
  have a := h.2 p' hp'
  have b := h'.2 p hp
  have e : gm_tr p' q p = - gm_tr p q p' := by unfold gm_tr; grind
  have a1 := a.1
  have b1 := b.1
  have a2 := a.2 (by omega)
  have b2 := b.2 (by omega)
  have e2 : gm_dt p' p q + gm_dt p p' q = gm_sq p p' := by unfold gm_dt gm_sq; grind
  exact gm_sq0 (hS p hp) (hS p' hp') (by omega)
theorem gm_phq (p q r : Int32) : gm_ph (-10000 * (gm_y q - gm_y p) + (gm_x p - gm_x q)) (10000 * (gm_x q - gm_x p) + (gm_y p - gm_y q)) q r = 10000 * gm_tr p q r + gm_dt q p r := by
  unfold gm_ph gm_tr gm_dt; grind
theorem gm_php (p q r : Int32) : gm_ph (-10000 * (gm_y q - gm_y p) + (gm_x q - gm_x p)) (10000 * (gm_x q - gm_x p) + (gm_y q - gm_y p)) p r = 10000 * gm_tr p q r + gm_dt p q r := by
  unfold gm_ph gm_tr gm_dt; grind
theorem gm_Eq {S : Int32 → Prop} {q : Int32} (p : Int32) (h : ∀ r, S r → r ≠ q → 0 < 10000 * gm_tr p q r + gm_dt q p r) : gm_E S q :=
  ⟨-10000 * (gm_y q - gm_y p) + (gm_x p - gm_x q), 10000 * (gm_x q - gm_x p) + (gm_y p - gm_y q), fun r hr hn => by rw [gm_phq]; exact h r hr hn⟩
theorem gm_Ep {S : Int32 → Prop} {p : Int32} (q : Int32) (h : ∀ r, S r → r ≠ p → 0 < 10000 * gm_tr p q r + gm_dt p q r) : gm_E S p :=
  ⟨-10000 * (gm_y q - gm_y p) + (gm_x q - gm_x p), 10000 * (gm_x q - gm_x p) + (gm_y q - gm_y p), fun r hr hn => by rw [gm_php]; exact h r hr hn⟩
/-- both ends of a side are outermost -/
theorem gm_nxE {S : Int32 → Prop} (hS : ∀ r, S r → gm_P r) {p q : Int32} (hp : gm_P p) (h : gm_nx S p q) : gm_E S q := by
  refine gm_Eq p fun r hr hn => ?_
  have hq := hS q h.1
  have hP := hS r hr
  have b := gm_dtB hq hp hP
  have a := h.2 r hr
  have a1 := a.1
  by_cases z : gm_tr p q r = 0
  · have a2 := a.2 z
    have e : gm_dt q p r = gm_sq r q - gm_dt r p q := by unfold gm_dt gm_sq; grind
    have := (gm_sqB hP hq).1
    by_cases z2 : gm_sq r q ≤ 0
    · exact absurd (gm_sq0 hP hq z2) hn
    · omega
  · omega
theorem gm_nxP {S : Int32 → Prop} (hS : ∀ r, S r → gm_P r) {p q : Int32} (hp : gm_P p) (h : gm_nx S p q) : gm_E S p := by
  refine gm_Ep q fun r hr hn => ?_
  have hq := hS q h.1
  have hP := hS r hr
  have b := gm_dtB hp hq hP
  have a := h.2 r hr
  have a1 := a.1
  by_cases z : gm_tr p q r = 0
  · have a2 := a.2 z
    have e : gm_dt p q r = gm_sq r p - gm_dt r p q := by unfold gm_dt gm_sq; grind
    by_cases z2 : gm_sq r p ≤ 0
    · exact absurd (gm_sq0 hP hp z2) hn
    · omega
  · omega
/-- what the reference asks of a corner -/
def gm_F (p q r : Int32) : Prop := 0 ≤ gm_tr p q r ∧ (gm_tr p q r = 0 → 0 ≤ gm_dt p q r)
theorem gm_FE {S : Int32 → Prop} (hS : ∀ r, S r → gm_P r) {p q : Int32} (hp : gm_P p) (hq : gm_P q) (hn : q ≠ p) (h : ∀ r, S r → gm_F p q r) : gm_E S p := by
  refine gm_Ep q fun r hr hn' => ?_
  have hP := hS r hr
  have b := gm_dtB hp hq hP
  have a := h r hr
  have a1 := a.1
  by_cases z : gm_tr p q r = 0
  · have a2 := a.2 z
    by_cases z2 : gm_dt p q r = 0
    · have e : gm_sq q p * gm_sq r p = gm_tr p q r * gm_tr p q r + gm_dt p q r * gm_dt p q r := by unfold gm_sq gm_tr gm_dt; grind
      rw [z, z2, Int.mul_zero] at e
      rcases Int.mul_eq_zero.mp (e.trans (Int.zero_add 0)) with e1 | e1
      · exact absurd (gm_sq0 hq hp (by omega)) hn
      · exact absurd (gm_sq0 hP hp (by omega)) hn'
    · omega
  · omega
theorem gm_nxF {S : Int32 → Prop} {p q : Int32} (h : gm_nx S p q) : ∀ r, S r → gm_F p q r := by
  intro r hr
  have a := h.2 r hr
  refine ⟨a.1, fun z => ?_⟩
  have a2 := a.2 z
  have e : gm_dt p q r = gm_sq r p - gm_dt r p q := by unfold gm_dt gm_sq; grind
  have : 0 ≤ gm_sq r p := by
    rcases Int.lt_or_le (gm_sq r p) 0 with h | h
    · have := gm_sqz (a := gm_x r - gm_x p) (b := gm_y r - gm_y p) (by unfold gm_sq at h; omega)
      unfold gm_sq at h
      rw [this.1, this.2] at h
      omega
    · exact h
  omega
/-- an outermost point has a next one -/
theorem gm_nxX {s : Int} (hs : s = 1 ∨ s = -1) {c : Int32} (hc : gm_P c) (g : Nat → Int32) : ∀ n : Nat, (∀ i, i < n → gm_P (g i)) → gm_E (fun r => ∃ i, i < n ∧ g i = r) c →
    ∃ q, (q = c ∨ ∃ i, i < n ∧ g i = q) ∧ ∀ r, (∃ i, i < n ∧ g i = r) → gm_Ns s c q r := by
  intro n
  induction n with
  | zero => exact fun _ _ => ⟨c, Or.inl rfl, fun r h => by obtain ⟨i, hi, _⟩ := h; omega⟩
  | succ n ih =>
    intro hP hE
    obtain ⟨a, b, hE⟩ := hE
    obtain ⟨q, hq, h⟩ := ih (fun i hi => hP i (by omega)) ⟨a, b, fun r hr hn => hE r (by obtain ⟨i, hi, e⟩ := hr; exact ⟨i, by omega, e⟩) hn⟩
    by_cases hn : gm_Ns s c q (g n)
    · refine ⟨q, ?_, fun r hr => ?_⟩
      · rcases hq with h | ⟨i, hi, e⟩
        · exact Or.inl h
        · exact Or.inr ⟨i, by omega, e⟩
      · obtain ⟨i, hi, e⟩ := hr
        by_cases ei : i = n
        · rw [← e, ei]; exact hn
        · exact h r ⟨i, by omega, e⟩
    · refine ⟨g n, Or.inr ⟨n, by omega, rfl⟩, fun r hr => ?_⟩
      refine gm_stp (S := fun r => ∃ i, i < n ∧ g i = r) hs (c := c) (w := g n) (u := q) ?_ hc ⟨a, b, fun r hr hn => hE r ?_ hn⟩ hq.symm ?_ h hn r ?_
      · rintro r ⟨i, hi, rfl⟩; exact hP i (by omega)
      · rcases hr with ⟨i, hi, e⟩ | e
        · exact ⟨i, by omega, e⟩
        · exact ⟨n, by omega, e.symm⟩
      · rcases hq with h | ⟨i, hi, e⟩
        · rw [h]; exact hc
        · rw [← e]; exact hP i (by omega)
      · obtain ⟨i, hi, e⟩ := hr
        by_cases ei : i = n
        · exact Or.inr (by rw [← e, ei])
        · exact Or.inl ⟨i, by omega, e⟩
end
