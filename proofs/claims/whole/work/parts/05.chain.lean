/-- as many holes as pigeons -/
theorem ph_pig : ∀ (N m : Nat) (f : Nat → Nat), (∀ a, a < m → f a < N) → (∀ a b, a < b → b < m → f a ≠ f b) → m ≤ N := by
  intro N
  induction N with
  | zero =>
    intro m f h _
    cases m with
    | zero => exact Nat.le_refl 0
    | succ m => exact absurd (h 0 (by omega)) (by omega)
  | succ N ih =>
    intro m f h hi
    by_cases hx : ∃ a, a < m ∧ f a = N
    · obtain ⟨a, ha, ea⟩ := hx
      have := ih (m - 1) (fun x => if x < a then f x else f (x + 1)) (fun x hx => by
        by_cases c : x < a
        · have h1 := h x (by omega)
          have h2 := hi x a c ha
          simp only [c, if_true]
          omega
        · have h1 := h (x + 1) (by omega)
          have h2 := hi a (x + 1) (by omega) (by omega)
          simp only [c, if_false]
          omega) (fun x y hxy hy => by
        by_cases c : x < a
        · by_cases d : y < a
          · simp only [c, d, if_true]
            exact hi x y hxy (by omega)
          · simp only [c, d, if_true, if_false]
            exact hi x (y + 1) (by omega) (by omega)
        · have d : ¬ y < a := by omega
          simp only [c, d, if_false]
          exact hi (x + 1) (y + 1) (by omega) (by omega))
      omega
    · have := ih m f (fun a ha => by
        have h1 := h a ha
        have h2 : f a ≠ N := fun e => hx ⟨a, ha, e⟩
        omega) hi
      omega
section
variable {K e : Int} {o w x y z : Int32}
theorem ch_1 (h1 : gm_tr w x z ≤ 0) (h2 : gm_tr x y z ≤ 0) (b1 : 0 < gm_B K e o x z) (b2 : 0 < gm_B K e o y z) (b3 : 0 < gm_B K e o w z) : gm_tr w y z ≤ 0 := by
  have i := gm_cz K e o w x y z
  have m1 := Int.mul_nonneg (a := -gm_tr w x z) (b := gm_B K e o y z) (by omega) (by omega)
  have m2 := Int.mul_nonneg (a := -gm_tr x y z) (b := gm_B K e o w z) (by omega) (by omega)
  rw [Int.neg_mul] at m1 m2
  exact gm_np b1 (by omega)
theorem ch_2 (h1 : gm_tr w x y ≤ 0) (h2 : gm_tr w y z ≤ 0) (b1 : 0 < gm_B K e o w y) (b2 : 0 < gm_B K e o w z) (b3 : 0 < gm_B K e o w x) : gm_tr w x z ≤ 0 := by
  have i := gm_cw K e o w x y z
  have m1 := Int.mul_nonneg (a := -gm_tr w x y) (b := gm_B K e o w z) (by omega) (by omega)
  have m2 := Int.mul_nonneg (a := -gm_tr w y z) (b := gm_B K e o w x) (by omega) (by omega)
  rw [Int.neg_mul] at m1 m2
  exact gm_np b1 (by omega)
theorem ch_3 (h1 : 0 ≤ gm_tr w x y) (h2 : 0 < gm_tr x y z) (b1 : 0 < gm_B K e o x y) (b2 : 0 < gm_B K e o y z) (b3 : 0 < gm_B K e o w y) : 0 < gm_tr w y z := by
  have i := gm_cy K e o w x y z
  have m1 := Int.mul_nonneg h1 (Int.le_of_lt b2)
  have m2 := Int.mul_pos h2 b3
  exact gm_pp b1 (by omega)
theorem ch_4 (h1 : gm_tr w x y ≤ 0) (h2 : 0 < gm_tr w y z) (b1 : 0 < gm_B K e o x y) (b2 : 0 < gm_B K e o y z) (b3 : 0 < gm_B K e o w y) : 0 < gm_tr x y z := by
  have i := gm_cy K e o w x y z
  have m1 := Int.mul_nonneg (a := -gm_tr w x y) (b := gm_B K e o y z) (by omega) (by omega)
  have m2 := Int.mul_pos h2 b1
  rw [Int.neg_mul] at m1
  exact gm_pp b3 (by omega)
theorem ch_5 (h1 : 0 < gm_tr w x y) (h2 : 0 < gm_tr x y z) (b1 : 0 < gm_B K e o x y) (b2 : 0 < gm_B K e o x z) (b3 : 0 < gm_B K e o w x) : 0 < gm_tr w x z := by
  have i := gm_cx K e o w x y z
  have m1 := Int.mul_pos h1 b2
  have m2 := Int.mul_pos h2 b3
  exact gm_pp b1 (by omega)
end
/-- g lists points in an order -/
def ch_o (K e : Int) (o : Int32) (g : Nat → Int32) (N : Nat) : Prop := ∀ i j, i < j → j < N → 0 < gm_B K e o (g i) (g j)
/-- the chain over the first i points: n of them are kept, those at ix -/
def ch_I (g : Nat → Int32) (i n : Nat) (ix : Nat → Nat) : Prop :=
  0 < n ∧ n ≤ i ∧ ix 0 = 0 ∧ ix (n - 1) = i - 1 ∧ (∀ a b, a < b → b < n → ix a < ix b) ∧
  ∀ j, j + 1 < n → ∀ r, r < i → (r < ix j → 0 < gm_tr (g (ix j)) (g (ix (j + 1))) (g r)) ∧ (ix (j + 1) < r → 0 < gm_tr (g (ix j)) (g (ix (j + 1))) (g r)) ∧ 0 ≤ gm_tr (g (ix j)) (g (ix (j + 1))) (g r)
def ch_p (g : Nat → Int32) (i k : Nat) (ix : Nat → Nat) : Prop := ∀ r, r < i → ix (k - 1) < r → 0 ≤ gm_tr (g (ix (k - 1))) (g i) (g r)
theorem ch_lt {g : Nat → Int32} {i n : Nat} {ix : Nat → Nat} (h : ch_I g i n ix) {j : Nat} (hj : j < n) : ix j < i := by
  obtain ⟨h0, hn, _, h2, h3, _⟩ := h
  by_cases e : j = n - 1
  · rw [e, h2]; omega
  · have := h3 j (n - 1) (by omega) (by omega)
    omega
theorem ch_pop {K e : Int} {o : Int32} {g : Nat → Int32} {N i n k : Nat} {ix : Nat → Nat} (ho : ch_o K e o g N) (hi : i < N) (h : ch_I g i n ix) (hk : k + 2 ≤ n) (hp : ch_p g i (k + 2) ix)
    (ht : gm_tr (g (ix k)) (g (ix (k + 1))) (g i) ≤ 0) : ch_p g i (k + 1) ix := by
  have l1 := ch_lt h (j := k + 1) (by omega)
  have l0 : ix k < ix (k + 1) := h.2.2.2.2.1 k (k + 1) (by omega) (by omega)
  intro r hr hx
  have hx : ix k < r := hx
  show 0 ≤ gm_tr (g (ix k)) (g i) (g r)
  rw [gm_swp]
  rcases Nat.lt_trichotomy r (ix (k + 1)) with c | c | c
  · have a := (h.2.2.2.2.2 k (by omega) r hr).2.2
    rw [gm_swp] at a
    have := ch_2 (K := K) (e := e) (o := o) (w := g (ix k)) (x := g r) (y := g (ix (k + 1))) (z := g i) (by omega) ht (ho _ _ l0 (by omega)) (ho _ _ (by omega) hi) (ho _ _ hx (by omega))
    omega
  · rw [c]; omega
  · have a : 0 ≤ gm_tr (g (ix (k + 1))) (g i) (g r) := hp r hr c
    rw [gm_swp] at a
    have := ch_1 (K := K) (e := e) (o := o) (w := g (ix k)) (x := g (ix (k + 1))) (y := g r) (z := g i) ht (by omega) (ho _ _ l1 hi) (ho _ _ hr hi) (ho _ _ (by omega) hi)
    omega
theorem ch_old {K e : Int} {o : Int32} {g : Nat → Int32} {N i n k : Nat} {ix : Nat → Nat} (ho : ch_o K e o g N) (hi : i < N) (h : ch_I g i n ix) (hk : k + 2 ≤ n)
    (ht : 0 < gm_tr (g (ix k)) (g (ix (k + 1))) (g i)) : ∀ d j, j + d = k → 0 < gm_tr (g (ix j)) (g (ix (j + 1))) (g i) := by
  intro d
  induction d with
  | zero => intro j hj; rw [show j = k by omega]; exact ht
  | succ d ih =>
    intro j hj
    have l0 : ix j < ix (j + 1) := h.2.2.2.2.1 j (j + 1) (by omega) (by omega)
    have l1 : ix (j + 1) < ix (j + 2) := h.2.2.2.2.1 (j + 1) (j + 2) (by omega) (by omega)
    have l2 := ch_lt h (j := j + 2) (by omega)
    have a := (h.2.2.2.2.2 j (by omega) (ix (j + 2)) l2).2.1 l1
    exact ch_5 (K := K) (e := e) (o := o) (y := g (ix (j + 2))) a (ih (j + 1) (by omega)) (ho _ _ l1 (by omega)) (ho _ _ (by omega) hi) (ho _ _ l0 (by omega))
theorem ch_psh {K e : Int} {o : Int32} {g : Nat → Int32} {N i n k : Nat} {ix : Nat → Nat} (ho : ch_o K e o g N) (hi : i < N) (h : ch_I g i n ix) (h0 : 0 < k) (hk : k ≤ n) (hp : ch_p g i k ix)
    (ht : ∀ k', k = k' + 2 → 0 < gm_tr (g (ix k')) (g (ix (k' + 1))) (g i)) : ch_I g (i + 1) (k + 1) (fun j => if j = k then i else ix j) := by
  have ht' : ∀ j, j + 1 < k → 0 < gm_tr (g (ix j)) (g (ix (j + 1))) (g i) := by
    intro j hj
    obtain ⟨k', rfl⟩ : ∃ k', k = k' + 2 := ⟨k - 2, by omega⟩
    exact ch_old ho hi h hk (ht k' rfl) (k' - j) j (by omega)
  have hN := fun j (hj : j < n) => ch_lt h hj
  obtain ⟨n0, hn, i0, i1, hm, hI⟩ := h
  refine ⟨by omega, by omega, ?_, ?_, ?_, ?_⟩
  · show (if 0 = k then i else ix 0) = 0
    rw [if_neg (by omega), i0]
  · show (if k + 1 - 1 = k then i else ix (k + 1 - 1)) = i + 1 - 1
    rw [if_pos (by omega)]; rfl
  · intro a b hab hb
    show (if a = k then i else ix a) < (if b = k then i else ix b)
    rw [if_neg (by omega)]
    by_cases eb : b = k
    · rw [if_pos eb]; exact hN a (by omega)
    · rw [if_neg eb]; exact hm a b hab (by omega)
  · intro j hj r hr
    show (r < (if j = k then i else ix j) → 0 < gm_tr (g (if j = k then i else ix j)) (g (if j + 1 = k then i else ix (j + 1))) (g r)) ∧ ((if j + 1 = k then i else ix (j + 1)) < r → 0 < gm_tr (g (if j = k then i else ix j)) (g (if j + 1 = k then i else ix (j + 1))) (g r)) ∧ 0 ≤ gm_tr (g (if j = k then i else ix j)) (g (if j + 1 = k then i else ix (j + 1))) (g r)
    rw [if_neg (show ¬ j = k by omega)]
    by_cases ej : j + 1 = k
    · rw [if_pos ej]
      have hb : r < ix j → 0 < gm_tr (g (ix j)) (g i) (g r) := by
        intro hx
        have lj := hN j (by omega)
        cases j with
        | zero => omega
        | succ j =>
          have ht1 := ht' j (by omega)
          have l0 : ix j < ix (j + 1) := hm j (j + 1) (by omega) (by omega)
          rw [gm_rot (g r)]
          rcases Nat.lt_trichotomy r (ix j) with c | c | c
          · have a := (hI j (by omega) r (by omega)).1 c
            rw [gm_rot (g r)] at a
            exact ch_3 (K := K) (e := e) (o := o) (x := g (ix j)) (by omega) ht1 (ho _ _ l0 (by omega)) (ho _ _ lj hi) (ho _ _ hx (by omega))
          · rw [c]; exact ht1
          · have a := (hI j (by omega) r (by omega)).2.2
            rw [gm_swp] at a
            exact ch_4 (K := K) (e := e) (o := o) (w := g (ix j)) (by omega) ht1 (ho _ _ hx (by omega)) (ho _ _ lj hi) (ho _ _ l0 (by omega))
      refine ⟨hb, fun hx => by omega, ?_⟩
      rcases Nat.lt_trichotomy r (ix j) with c | c | c
      · exact Int.le_of_lt (hb c)
      · rw [c, gm_prp]; exact Int.le_refl 0
      · by_cases er : r = i
        · rw [er, gm_prr]; exact Int.le_refl 0
        · have := hp r (by omega)
          rw [show k - 1 = j by omega] at this
          exact this c
    · rw [if_neg ej]
      by_cases er : r = i
      · have a := ht' j (by omega)
        have := hN j (by omega)
        have := hN (j + 1) (by omega)
        rw [er]
        exact ⟨fun _ => a, fun _ => a, Int.le_of_lt a⟩
      · exact hI j (by omega) r (by omega)
theorem ch_one (g : Nat → Int32) : ch_I g 1 1 (fun _ => 0) := ⟨by omega, by omega, rfl, rfl, fun a b h1 h2 => by omega, fun j hj => by omega⟩
/-- the last one is seen on the left past each kept one -/
theorem ch_last {K e : Int} {o : Int32} {g : Nat → Int32} {N i n : Nat} {ix : Nat → Nat} (ho : ch_o K e o g N) (hi : i ≤ N) (h : ch_I g i n ix) {j r : Nat} (hj : j + 1 < n) (hr : r < ix j) : 0 < gm_tr (g r) (g (ix j)) (g (i - 1)) := by
  have l1 := ch_lt h (j := j) (by omega)
  have l2 := ch_lt h (j := j + 1) (by omega)
  have l3 : ix j < ix (j + 1) := h.2.2.2.2.1 j (j + 1) (by omega) (by omega)
  have a := (h.2.2.2.2.2 j hj r (by omega)).1 hr
  rw [gm_rot (g r)] at a
  by_cases c : ix (j + 1) = i - 1
  · rw [c] at a; exact a
  · have b := (h.2.2.2.2.2 j hj (i - 1) (by omega)).2.1 (by omega)
    exact ch_5 (K := K) (e := e) (o := o) a b (ho _ _ l3 (by omega)) (ho _ _ (by omega) (by omega)) (ho _ _ hr (by omega))
theorem ch_Bseg (K e : Int) (o a b r : Int32) (h : gm_tr a b r = 0) : gm_dt r a b * (gm_B K e o a b * gm_B K e o a b) = - (gm_B K e o a r * gm_B K e o r b * gm_sq a b) := by
  have e1 : gm_B K e o a r * (gm_x b - gm_x a) = gm_B K e o a b * (gm_x r - gm_x a) := by unfold gm_tr at h; unfold gm_B gm_tr gm_la; grind
  have e2 : gm_B K e o a r * (gm_y b - gm_y a) = gm_B K e o a b * (gm_y r - gm_y a) := by unfold gm_tr at h; unfold gm_B gm_tr gm_la; grind
  have e3 : gm_B K e o r b * (gm_x b - gm_x a) = gm_B K e o a b * (gm_x b - gm_x r) := by unfold gm_tr at h; unfold gm_B gm_tr gm_la; grind
  have e4 : gm_B K e o r b * (gm_y b - gm_y a) = gm_B K e o a b * (gm_y b - gm_y r) := by unfold gm_tr at h; unfold gm_B gm_tr gm_la; grind
  unfold gm_dt gm_sq
  generalize gm_B K e o a r = A at *
  generalize gm_B K e o r b = C at *
  generalize gm_B K e o a b = D at *
  generalize gm_x a = ax at *
  generalize gm_x b = bx at *
  generalize gm_x r = rx at *
  generalize gm_y a = ay at *
  generalize gm_y b = bbY at *
  generalize gm_y r = ry at *
  clear h
  grind
/-- a side of the chain is the next one's of all its points -/
theorem ch_N {K e : Int} {o : Int32} {g : Nat → Int32} {N i n : Nat} {ix : Nat → Nat} (ho : ch_o K e o g N) (hi : i ≤ N) (h : ch_I g i n ix) {j r : Nat} (hj : j + 1 < n) (hr : r < i) : gm_N (g (ix j)) (g (ix (j + 1))) (g r) := by
  have l2 := ch_lt h (j := j + 1) (by omega)
  have l3 : ix j < ix (j + 1) := h.2.2.2.2.1 j (j + 1) (by omega) (by omega)
  obtain ⟨a, b, c⟩ := h.2.2.2.2.2 j hj r hr
  refine ⟨c, fun z => ?_⟩
  by_cases c1 : r < ix j
  · have := a c1; omega
  by_cases c2 : ix (j + 1) < r
  · have := b c2; omega
  have e0 := ch_Bseg K e o _ _ _ z
  have b0 := ho _ _ l3 (by omega)
  have b1 : ∀ u v, u ≤ v → v < N → 0 ≤ gm_B K e o (g u) (g v) := by
    intro u v huv hv
    by_cases euv : u = v
    · rw [euv]; unfold gm_B; rw [gm_prr, Int.sub_self, Int.mul_zero, Int.mul_zero]; exact Int.le_refl 0
    · exact Int.le_of_lt (ho u v (by omega) hv)
  have sq : 0 ≤ gm_sq (g (ix j)) (g (ix (j + 1))) := by
    rcases Int.lt_or_le (gm_sq (g (ix j)) (g (ix (j + 1)))) 0 with q | q
    · have := gm_sqz (a := gm_x (g (ix j)) - gm_x (g (ix (j + 1)))) (b := gm_y (g (ix j)) - gm_y (g (ix (j + 1)))) (by unfold gm_sq at q; omega)
      unfold gm_sq at q
      rw [this.1, this.2] at q
      omega
    · exact q
  have m := Int.mul_nonneg (Int.mul_nonneg (b1 (ix j) r (by omega) (by omega)) (b1 r (ix (j + 1)) (by omega) (by omega))) sq
  exact gm_np (Int.mul_pos b0 b0) (by omega)
