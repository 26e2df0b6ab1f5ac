theorem i3_t {i : Int} (h1 : -2147483648 ≤ i) (h2 : i < 2147483648) : (Int32.ofInt i).toInt = i := Int32.toInt_ofInt_of_le h1 h2
theorem i3_le {i j : Int} (h1 : -100000000 ≤ i ∧ i ≤ 100000000) (h2 : -100000000 ≤ j ∧ j ≤ 100000000) : Int32.ofInt i ≤ Int32.ofInt j ↔ i ≤ j := by
  rw [Int32.le_iff_toInt_le, i3_t (by omega) (by omega), i3_t (by omega) (by omega)]
theorem i3_lt {i j : Int} (h1 : -100000000 ≤ i ∧ i ≤ 100000000) (h2 : -100000000 ≤ j ∧ j ≤ 100000000) : Int32.ofInt i < Int32.ofInt j ↔ i < j := by
  rw [Int32.lt_iff_toInt_lt, i3_t (by omega) (by omega), i3_t (by omega) (by omega)]
theorem i3_eq {i j : Int} (h1 : -100000000 ≤ i ∧ i ≤ 100000000) (h2 : -100000000 ≤ j ∧ j ≤ 100000000) : Int32.ofInt i = Int32.ofInt j ↔ i = j := by
  rw [← Int32.toInt_inj, i3_t (by omega) (by omega), i3_t (by omega) (by omega)]
theorem i3_0 : Int32.ofInt 0 = 0 := rfl
theorem i3_lt0 {i : Int} (h : -100000000 ≤ i ∧ i ≤ 100000000) : Int32.ofInt i < 0 ↔ i < 0 := by rw [← i3_0]; exact i3_lt h (by omega)
theorem i3_gt0 {i : Int} (h : -100000000 ≤ i ∧ i ≤ 100000000) : 0 < Int32.ofInt i ↔ 0 < i := by rw [← i3_0]; exact i3_lt (by omega) h
theorem i3_le0 {i : Int} (h : -100000000 ≤ i ∧ i ≤ 100000000) : Int32.ofInt i ≤ 0 ↔ i ≤ 0 := by rw [← i3_0]; exact i3_le h (by omega)
theorem i3_ge0 {i : Int} (h : -100000000 ≤ i ∧ i ≤ 100000000) : 0 ≤ Int32.ofInt i ↔ 0 ≤ i := by rw [← i3_0]; exact i3_le (by omega) h
theorem i3_eq0 {i : Int} (h : -100000000 ≤ i ∧ i ≤ 100000000) : Int32.ofInt i = 0 ↔ i = 0 := by rw [← i3_0]; exact i3_eq h (by omega)
theorem wx_tr (a b c : Int32) : ((b &&& 63) - (a &&& 63)) * ((c >>> ((6 : Int32) &&& 31)) - (a >>> ((6 : Int32) &&& 31))) - ((b >>> ((6 : Int32) &&& 31)) - (a >>> ((6 : Int32) &&& 31))) * ((c &&& 63) - (a &&& 63)) = Int32.ofInt (gm_tr a b c) := by
  unfold gm_tr gm_x gm_y
  simp only [Int32.ofInt_sub, Int32.ofInt_mul, Int32.ofInt_toInt]
theorem wx_turn {post : Int32 → Prop} {a b c : Int32} (h : post (Int32.ofInt (gm_tr a b c))) : wpX_turn post a b c := by
  rw [← wx_tr] at h
  exact nm_e (nm_e (nm_e (nm_e h)))
theorem wx_sqE (a b : Int32) : ((a &&& 63) - (b &&& 63)) * ((a &&& 63) - (b &&& 63)) + ((a >>> ((6 : Int32) &&& 31)) - (b >>> ((6 : Int32) &&& 31))) * ((a >>> ((6 : Int32) &&& 31)) - (b >>> ((6 : Int32) &&& 31))) = Int32.ofInt (gm_sq a b) := by
  unfold gm_sq gm_x gm_y
  simp only [Int32.ofInt_sub, Int32.ofInt_mul, Int32.ofInt_add, Int32.ofInt_toInt]
theorem wx_square {post : Int32 → Prop} {a b : Int32} (h : post (Int32.ofInt (gm_sq a b))) : wpX_squareOf post a b := by
  rw [← wx_sqE] at h
  exact nm_e (nm_e h)
theorem wx_dtE (r a b : Int32) : ((a &&& 63) - (r &&& 63)) * ((b &&& 63) - (r &&& 63)) + ((a >>> ((6 : Int32) &&& 31)) - (r >>> ((6 : Int32) &&& 31))) * ((b >>> ((6 : Int32) &&& 31)) - (r >>> ((6 : Int32) &&& 31))) = Int32.ofInt (gm_dt r a b) := by
  unfold gm_dt gm_x gm_y
  simp only [Int32.ofInt_sub, Int32.ofInt_mul, Int32.ofInt_add, Int32.ofInt_toInt]
theorem wx_between {post : Int32 → Prop} {a b r : Int32} (ha : gm_P a) (hb : gm_P b) (hr : gm_P r) (h1 : gm_dt r a b ≤ 0 → post 1) (h0 : 0 < gm_dt r a b → post 0) : wpX_between post a b r := by
  unfold wpX_between
  refine nm_e (nm_e (nm_e (nm_e ?_)))
  rw [wx_dtE]
  have B := gm_dtB hr ha hb
  have e := i3_gt0 (i := gm_dt r a b) (by omega)
  exact ⟨fun h => h0 (e.mp h), fun h => h1 (by have := mt e.mpr h; omega)⟩
theorem wx_before {post : Int32 → Prop} {a b : Int32} (ha : gm_P a) (hb : gm_P b) (h1 : gm_la a < gm_la b → post 1) (h0 : gm_la b ≤ gm_la a → post 0) : wpX_before post a b := by
  unfold wpX_before
  refine nm_e (nm_e ?_)
  have ca := gm_co ha
  have cb := gm_co hb
  have e1 : (a &&& 63 < b &&& 63) ↔ gm_x a < gm_x b := Int32.lt_iff_toInt_lt
  have e2 : (a &&& 63 = b &&& 63) ↔ gm_x a = gm_x b := Int32.toInt_inj.symm
  have e3 : (b ≤ a) ↔ b.toInt ≤ a.toInt := Int32.le_iff_toInt_le
  unfold gm_la at h1 h0
  refine ⟨fun h => h1 ?_, fun h => ⟨fun h' => ⟨fun h2 => h0 ?_, fun h2 => h1 ?_⟩, fun h' => h0 ?_⟩⟩
  · rw [e1] at h; omega
  · rw [e2] at h'; rw [e3] at h2; omega
  · rw [e2] at h'; rw [e3] at h2; omega
  · rw [e1] at h; rw [e2] at h'; omega
/-- the division's forms, for places -/
theorem wy_div {p : Int32} (h : gm_P p) : p / 64 = p >>> ((6 : Int32) &&& 31) := by
  obtain ⟨j, hj, rfl⟩ := gm_Pn h
  rw [gm_shr hj]
  exact pk_div (d := 64) (by omega) (by omega) (by omega)
theorem wy_rem {p : Int32} (h : gm_P p) : p - p / 64 * 64 = p &&& 63 := by
  obtain ⟨j, hj, rfl⟩ := gm_Pn h
  rw [gm_and hj]
  exact pk_rem (d := 64) (by omega) (by omega) (by omega)
theorem wy_64 : ¬ (64 : Int32) = 0 := by decide
theorem wy_24 : ¬ (24 : Int32) = 0 := by decide
theorem wy_turn {post : Int32 → Prop} {u : SY} {a b c : Int32} (ha : gm_P a) (hb : gm_P b) (hc : gm_P c) (h : post (Int32.ofInt (gm_tr a b c))) : wpY_turn post u a b c := by
  obtain ⟨fm, sp, lf, li⟩ := u
  unfold wpY_turn
  dsimp only
  rw [wy_rem ha, wy_rem hb, wy_rem hc, wy_div ha, wy_div hb, wy_div hc, wx_tr]
  exact ⟨wy_64, wy_64, wy_64, wy_64, wy_64, wy_64, wy_64, wy_64, h⟩
theorem wy_square {post : Int32 → Prop} {u : SY} {a b : Int32} (ha : gm_P a) (hb : gm_P b) (h : post (Int32.ofInt (gm_sq a b))) : wpY_square post u a b := by
  obtain ⟨fm, sp, lf, li⟩ := u
  unfold wpY_square
  dsimp only
  rw [wy_rem ha, wy_rem hb, wy_div ha, wy_div hb]
  rw [← wx_sqE] at h
  exact ⟨wy_64, wy_64, nm_e ⟨wy_64, wy_64, nm_e h⟩⟩
theorem wy_behind {post : Int32 → Prop} {u : SY} {p q r : Int32} (hp : gm_P p) (hq : gm_P q) (hr : gm_P r) (h0 : 0 ≤ gm_dt p q r → post 0) (h1 : gm_dt p q r < 0 → post 1) : wpY_behind post u p q r := by
  obtain ⟨fm, sp, lf, li⟩ := u
  unfold wpY_behind
  dsimp only
  rw [wy_rem hp, wy_rem hq, wy_rem hr, wy_div hp, wy_div hq, wy_div hr, wx_dtE]
  have B := gm_dtB hp hq hr
  have e := i3_ge0 (i := gm_dt p q r) (by omega)
  exact ⟨wy_64, wy_64, wy_64, wy_64, wy_64, wy_64, wy_64, wy_64, fun h => h0 (e.mp h), fun h => h1 (by have := mt e.mpr h; omega)⟩
theorem wx_isPlace {post : Int32 → Prop} {p : Int32} (h1 : gm_P p → post 1) (h0 : ¬ gm_P p → post 0) : wpX_isPlace post p := by
  have e : (4096 : Int32) ≤ p ↔ 4096 ≤ p.toInt := Int32.le_iff_toInt_le
  have e0 : p < 0 ↔ p.toInt < 0 := Int32.lt_iff_toInt_lt
  unfold gm_P at h1 h0
  refine ⟨fun h => h0 ?_, fun h => ⟨fun h' => h0 ?_, fun h' => h1 ?_⟩⟩
  · rw [e0] at h; omega
  · rw [e] at h'; omega
  · rw [e0] at h; rw [e] at h'; omega
theorem wy_isPlace {post : Int32 → Prop} {u : SY} {p : Int32} (h1 : gm_P p → post 1) (h0 : ¬ gm_P p → post 0) : wpY_isPlace post u p := by
  obtain ⟨fm, sp, lf, li⟩ := u
  have e : (4095 : Int32) < p ↔ 4095 < p.toInt := Int32.lt_iff_toInt_lt
  have e0 : p < 0 ↔ p.toInt < 0 := Int32.lt_iff_toInt_lt
  unfold gm_P at h1 h0
  refine ⟨fun h => h0 ?_, fun h => ⟨fun h' => h0 ?_, fun h' => h1 ?_⟩⟩
  · rw [e0] at h; omega
  · rw [e] at h'; omega
  · rw [e0] at h; rw [e] at h'; omega
def en_E (p : Int32) : Prop := 0 ≤ p.toInt ∧ p.toInt < 6
theorem wx_isEngine {post : Int32 → Prop} {p : Int32} (h1 : en_E p → post 1) (h0 : ¬ en_E p → post 0) : wpX_isEngine post p := by
  have e : (6 : Int32) ≤ p ↔ 6 ≤ p.toInt := Int32.le_iff_toInt_le
  have e0 : p < 0 ↔ p.toInt < 0 := Int32.lt_iff_toInt_lt
  unfold en_E at h1 h0
  refine ⟨fun h => h0 ?_, fun h => ⟨fun h' => h0 ?_, fun h' => h1 ?_⟩⟩
  · rw [e0] at h; omega
  · rw [e] at h'; omega
  · rw [e0] at h; rw [e] at h'; omega
theorem wy_engine {post : Int32 → Prop} {u : SY} {p : Int32} (h1 : en_E p → post 1) (h0 : ¬ en_E p → post 0) : wpY_engine post u p := by
  obtain ⟨fm, sp, lf, li⟩ := u
  have e : (5 : Int32) < p ↔ 5 < p.toInt := Int32.lt_iff_toInt_lt
  have e0 : p < 0 ↔ p.toInt < 0 := Int32.lt_iff_toInt_lt
  unfold en_E at h1 h0
  refine ⟨fun h => h0 ?_, fun h => ⟨fun h' => h0 ?_, fun h' => h1 ?_⟩⟩
  · rw [e0] at h; omega
  · rw [e] at h'; omega
  · rw [e0] at h; rw [e] at h'; omega
/-- bits -/
theorem b_1 (i : Nat) : bt 1 i = decide (i = 0) := by
  rcases Nat.lt_or_ge i 32 with h | h
  · exact (by decide +kernel : ∀ i, i < 32 → bt 1 i = decide (i = 0)) i h
  · rw [b_big h, decide_eq_false (by omega)]
theorem b_one {n : Nat} (hn : n < 32) {i : Nat} (hi : i < 32) : bt ((1 : Int32) <<< (nI n &&& 31)) i = decide (i = n) := by
  rw [b_shl n hn 1 hi, b_1]
  rcases Nat.lt_trichotomy i n with h | h | h
  · rw [decide_eq_false (show ¬ n ≤ i by omega), Bool.false_and, decide_eq_false (show ¬ i = n by omega)]
  · rw [h, Nat.sub_self, decide_eq_true (Nat.le_refl n)]; simp
  · rw [decide_eq_false (show ¬ i - n = 0 by omega), Bool.and_false, decide_eq_false (show ¬ i = n by omega)]
theorem b_has {n : Nat} (hn : n < 31) (x : Int32) : ((x >>> (nI n &&& 31)) &&& 1) = 1 ↔ bt x n = true := by
  constructor
  · intro h
    have := congrArg (fun z => bt z 0) h
    simp only [b_and, b_1] at this
    rw [b_sshr n (by omega) x (by omega), if_pos (by omega)] at this
    simpa using this
  · intro h
    apply b_ext
    intro i hi
    rw [b_and, b_1]
    by_cases e : i = 0
    · rw [e, b_sshr n (by omega) x (by omega), if_pos (by omega), Nat.add_zero, h]; rfl
    · simp [e]
theorem wx_hasBit {post : Int32 → Prop} {x : Int32} {n : Nat} (hn : n < 31) (h1 : bt x n = true → post 1) (h0 : bt x n = false → post 0) : wpX_hasBit post x (nI n) := by
  refine ⟨fun h => h1 ((b_has hn x).mp h), fun h => h0 ?_⟩
  have := mt (b_has hn x).mpr h
  simpa using this
theorem wx_following {post : Int32 → Prop} {i n : Nat} (hi : i < 1000) (hn : n < 1000) (h : post (nI (if i + 1 < n then i + 1 else 0))) : wpX_following post (nI i) (nI n) := by
  unfold wpX_following
  rw [nI_1]
  refine pk_le n (i + 1) (fun c => ?_) (fun c => ?_)
  · rw [if_neg (by omega)] at h; exact h
  · rw [if_pos (by omega)] at h; exact h
