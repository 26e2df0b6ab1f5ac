/-- the first of the points -/
theorem pl_mn {x : Int32} {a0 : Nat → Int32} (hP : ∀ k, k < 24 → gm_P (a0 k)) : ∀ n, n ≤ 24 → (∀ k, k < n → bt x k = false) ∨ ∃ o, gm_mn (pl_S x a0 n) o := by
  intro n
  induction n with
  | zero => exact fun _ => Or.inl (fun k hk => by omega)
  | succ n ih =>
    intro hn
    by_cases hb : bt x n = true
    · rcases ih (by omega) with h | ⟨o, ho⟩
      · refine Or.inr ⟨a0 n, ⟨n, by omega, hb, rfl⟩, ?_⟩
        rintro r ⟨k, hk, hbk, rfl⟩ hne
        by_cases ek : k = n
        · rw [ek] at hne; exact absurd rfl hne
        · rw [h k (by omega)] at hbk; exact absurd hbk (by decide)
      · obtain ⟨j, hj, hbj, ej⟩ := ho.1
        rcases Int.lt_or_le (gm_la (a0 n)) (gm_la o) with l | l
        · refine Or.inr ⟨a0 n, ⟨n, by omega, hb, rfl⟩, ?_⟩
          rintro r ⟨k, hk, hbk, rfl⟩ hne
          by_cases ek : k = n
          · rw [ek] at hne; exact absurd rfl hne
          · by_cases eo : a0 k = o
            · rw [eo]; exact l
            · have := ho.2 _ ⟨k, by omega, hbk, rfl⟩ eo
              omega
        · refine Or.inr ⟨o, ⟨j, by omega, hbj, ej⟩, ?_⟩
          rintro r ⟨k, hk, hbk, rfl⟩ hne
          by_cases ek : k = n
          · have q : gm_la o ≠ gm_la (a0 k) := fun z => hne (gm_laext (hP k (by omega)) (ej ▸ hP j (by omega)) z.symm)
            rw [ek] at q ⊢
            omega
          · exact ho.2 _ ⟨k, by omega, hbk, rfl⟩ hne
    · have hb' : bt x n = false := by simpa using hb
      rcases ih (by omega) with h | ⟨o, ho⟩
      · refine Or.inl fun k hk => ?_
        by_cases ek : k = n
        · rw [ek]; exact hb'
        · exact h k (by omega)
      · obtain ⟨j, hj, hbj, ej⟩ := ho.1
        refine Or.inr ⟨o, ⟨j, by omega, hbj, ej⟩, ?_⟩
        rintro r ⟨k, hk, hbk, rfl⟩ hne
        by_cases ek : k = n
        · rw [ek, hb'] at hbk; exact absurd hbk (by decide)
        · exact ho.2 _ ⟨k, by omega, hbk, rfl⟩ hne
theorem pl_nx {x : Int32} {a0 : Nat → Int32} (hP : ∀ k, k < 24 → gm_P (a0 k)) {c : Int32} (hc : pl_S x a0 24 c) (hE : gm_E (pl_S x a0 24) c) : ∃ q, gm_nx (pl_S x a0 24) c q := by
  have hS : ∀ r, pl_S x a0 24 r → gm_P r := by rintro r ⟨k, hk, _, rfl⟩; exact hP k hk
  have e : ∀ r, pl_S x a0 24 r ↔ ∃ i, i < 24 ∧ (fun k => if bt x k = true then a0 k else c) i = r := by
    intro r
    constructor
    · rintro ⟨k, hk, hb, rfl⟩
      exact ⟨k, hk, by dsimp only; rw [if_pos hb]⟩
    · rintro ⟨k, hk, rfl⟩
      dsimp only
      by_cases hb : bt x k = true
      · rw [if_pos hb]; exact ⟨k, hk, hb, rfl⟩
      · rw [if_neg hb]; exact hc
  have e' : pl_S x a0 24 = fun r => ∃ i, i < 24 ∧ (fun k => if bt x k = true then a0 k else c) i = r := funext fun r => propext (e r)
  obtain ⟨q, hq, h⟩ := gm_nxX (s := 1) (Or.inl rfl) (hS c hc) (fun k => if bt x k = true then a0 k else c) 24 (fun i hi => hS _ ((e _).mpr ⟨i, hi, rfl⟩)) (e' ▸ hE)
  exact ⟨q, hq.elim (fun z => z ▸ hc) (fun z => (e q).mpr z), fun r hr => gm_N1.mpr (h r ((e r).mp hr))⟩
/-- every set of points that isn't empty has a ring -/
theorem pl_ex {x : Int32} {a0 : Nat → Int32} (hP : ∀ k, k < 24 → gm_P (a0 k)) {o : Int32} (ho : gm_mn (pl_S x a0 24) o) : ∃ L m, gm_cyc (pl_S x a0 24) L m := by
  have hS : ∀ r, pl_S x a0 24 r → gm_P r := by rintro r ⟨k, hk, _, rfl⟩; exact hP k hk
  apply Classical.byContradiction
  intro hno
  have key : ∀ n, ∃ L, wr_P (pl_S x a0 24) o L n := by
    intro n
    induction n with
    | zero => exact ⟨fun _ => o, rfl, fun j hj => by omega⟩
    | succ n ih =>
      obtain ⟨L, hL⟩ := ih
      have hs : ∀ j, j ≤ n → pl_S x a0 24 (L j) := by
        intro j hj
        cases j with
        | zero => rw [hL.1]; exact ho.1
        | succ j => exact (hL.2 j hj).1.1
      have hE : gm_E (pl_S x a0 24) (L n) := by
        cases n with
        | zero => rw [hL.1]; exact gm_mnE ho
        | succ n => exact gm_nxE hS (hS _ (hs n (by omega))) (hL.2 n (by omega)).1
      obtain ⟨q, hq⟩ := pl_nx hP (hs n (Nat.le_refl n)) hE
      by_cases e : q = o
      · exact absurd ⟨L, n + 1, by omega, hL.1 ▸ ho, fun i hi => hL.2 i (by omega), by rw [hL.1, ← e]; exact hq⟩ hno
      · have z : upd L (n + 1) q 0 = o := (pk_un (by omega)).trans hL.1
        refine ⟨upd L (n + 1) q, z, fun j hj => ?_⟩
        rw [z]
        have q1 : upd L (n + 1) q j = L j := pk_un (by omega)
        by_cases ej : j = n
        · rw [q1, ej, pk_us]; exact ⟨hq, e⟩
        · have q2 : upd L (n + 1) q (j + 1) = L (j + 1) := pk_un (by omega)
          rw [q1, q2, ← hL.1]; exact hL.2 j (by omega)
  obtain ⟨L, hL⟩ := key 24
  have hs : ∀ j, j ≤ 24 → pl_S x a0 24 (L j) := by
    intro j hj
    cases j with
    | zero => rw [hL.1]; exact ho.1
    | succ j => exact (hL.2 j hj).1.1
  have hf : ∀ j, ∃ i, j < 25 → (i < 24 ∧ a0 i = L j) := by
    intro j
    by_cases c : j < 25
    · obtain ⟨i, hi, _, e⟩ := hs j (by omega)
      exact ⟨i, fun _ => ⟨hi, e⟩⟩
    · exact ⟨0, fun c' => absurd c' c⟩
  have := ph_pig 24 25 (fun j => (hf j).choose) (fun j hj => ((hf j).choose_spec hj).1) (fun i j hij hj e => by
    have e1 := ((hf i).choose_spec (by omega)).2
    have e2 := ((hf j).choose_spec hj).2
    have e : (hf i).choose = (hf j).choose := e
    exact wr_inj hS ho.1 hL i j hij (by omega) (by rw [← e1, ← e2, e]))
  omega
/-- L lists the m corners of x -/
def hl_C (x : Int32) (a0 L : Nat → Int32) (m : Nat) : Prop := m = 0 ∧ (∀ r, ¬ pl_S x a0 24 r) ∨ gm_cyc (pl_S x a0 24) L m
theorem pl_P {x : Int32} {a0 : Nat → Int32} (hP : ∀ k, k < 24 → gm_P (a0 k)) : ∀ r, pl_S x a0 24 r → gm_P r := by rintro r ⟨k, hk, _, rfl⟩; exact hP k hk
theorem hl_ref {x : Int32} {a0 L : Nat → Int32} {m : Nat} (hP : ∀ k, k < 24 → gm_P (a0 k)) (h : hl_C x a0 L m) : gm_ref (pl_S x a0 24) L m := by
  rcases h with ⟨rfl, hn⟩ | h
  · exact ⟨fun p => ⟨fun q => absurd q.1 (hn p), fun ⟨i, hi, _⟩ => by omega⟩, fun q => by omega, fun i _ q => by omega, fun i j _ _ q => by omega⟩
  · exact gm_cr (pl_P hP) h
theorem hl_of {x : Int32} {a0 L : Nat → Int32} {m : Nat} (hP : ∀ k, k < 24 → gm_P (a0 k)) (h : gm_ref (pl_S x a0 24) L m) : hl_C x a0 L m := by
  rcases pl_mn (x := x) hP 24 (Nat.le_refl 24) with hn | ⟨o, ho⟩
  · refine Or.inl ⟨?_, ?_⟩
    · apply Classical.byContradiction
      intro c
      obtain ⟨k, hk, hb, _⟩ := (h.2.1 (by omega)).1
      rw [hn k hk] at hb
      exact absurd hb (by decide)
    · rintro r ⟨k, hk, hb, _⟩
      rw [hn k hk] at hb
      exact absurd hb (by decide)
  · obtain ⟨M, n, hM⟩ := pl_ex hP ho
    obtain ⟨e, eL⟩ := gm_run (pl_P hP) (gm_cr (pl_P hP) hM) h
    subst e
    exact Or.inr (gm_cycg eL hM)
theorem hl_ex {x : Int32} {a0 : Nat → Int32} (hP : ∀ k, k < 24 → gm_P (a0 k)) : ∃ L m, hl_C x a0 L m := by
  rcases pl_mn (x := x) hP 24 (Nat.le_refl 24) with hn | ⟨o, ho⟩
  · refine ⟨fun _ => 0, 0, Or.inl ⟨rfl, ?_⟩⟩
    rintro r ⟨k, hk, hb, _⟩
    rw [hn k hk] at hb
    exact absurd hb (by decide)
  · obtain ⟨M, n, hM⟩ := pl_ex hP ho
    exact ⟨M, n, Or.inr hM⟩
theorem hl_un {x : Int32} {a0 L L' : Nat → Int32} {m m' : Nat} (hP : ∀ k, k < 24 → gm_P (a0 k)) (h : hl_C x a0 L m) (h' : hl_C x a0 L' m') : m = m' ∧ ∀ i, i < m → L i = L' i := gm_run (pl_P hP) (hl_ref hP h) (hl_ref hP h')
theorem hl_c {x : Int32} {a0 L : Nat → Int32} {m : Nat} (h : hl_C x a0 L m) : m = 0 ∨ gm_cyc (pl_S x a0 24) L m := h.elim (fun q => Or.inl q.1) Or.inr
theorem hl_P {x : Int32} {a0 L : Nat → Int32} {m : Nat} (hP : ∀ k, k < 24 → gm_P (a0 k)) (h : hl_C x a0 L m) {i : Nat} (hi : i < m) : gm_P (L i) := by
  rcases h with ⟨e, _⟩ | h
  · omega
  · exact pl_P hP _ (gm_cS h hi)
/-- where p stands to the hull of x -/
def hl_st (x : Int32) (a0 : Nat → Int32) (p v : Int32) : Prop := ∃ L m, hl_C x a0 L m ∧ st_R L m p v
theorem hl_stu {x : Int32} {a0 : Nat → Int32} (hP : ∀ k, k < 24 → gm_P (a0 k)) {p v v' : Int32} (hp : gm_P p) (h : hl_st x a0 p v) (h' : hl_st x a0 p v') : v = v' := by
  obtain ⟨L, m, hc, hs⟩ := h
  obtain ⟨L', m', hc', hs'⟩ := h'
  obtain ⟨e, eL⟩ := hl_un hP hc hc'
  subst e
  exact st_un (pl_P hP) (hl_c hc') hp (st_cg eL hs) hs'
theorem hl_st3 {x : Int32} {a0 : Nat → Int32} {p v : Int32} (h : hl_st x a0 p v) : v = 0 ∨ v = 1 ∨ v = 2 := by
  obtain ⟨L, m, _, hs⟩ := h
  rcases hs with ⟨a, _⟩ | ⟨a, _⟩ | ⟨a, _⟩
  · exact Or.inr (Or.inr a)
  · exact Or.inr (Or.inl a)
  · exact Or.inl a
theorem wx_hull {post : Int32 → SX → Prop} {fp fs x : Int32} {a0 a1 a2 a3 : Nat → Int32} (hP : ∀ k, k < 24 → gm_P (a0 k))
    (h : ∀ m L b f, m ≤ 24 → hl_C x a0 L m → post (nI m) (fp, f, a0, b, L, a3)) : wpX_hullOf post (fp, fs, a0, a1, a2, a3) x := wx_hullOf hP h
theorem wx_stand {post : Int32 → Prop} {fp fs x : Int32} {a0 a1 a2 a3 : Nat → Int32} {m : Nat} {p : Int32} (hP : ∀ k, k < 24 → gm_P (a0 k)) (hm : m ≤ 24) (hc : hl_C x a0 a2 m) (hp : gm_P p) (h : ∀ v, hl_st x a0 p v → post v) : wpX_standing post (fp, fs, a0, a1, a2, a3) (nI m) p :=
  wx_standing hm (fun i hi => hl_P hP hc hi) hp (fun v hv => h v ⟨a2, m, hc, hv⟩)
theorem wy_wher {post : Int32 → Prop} {sp lf li : Nat → Int32} {x : Int32} {a0 : Nat → Int32} (hP : ∀ k, k < 24 → gm_P (a0 k)) {m : Nat} {p : Int32} (hm : m ≤ 24) (hc : hl_C x a0 li m) (hp : gm_P p) (h : ∀ v, hl_st x a0 p v → post v) : wpY_where post (nI m, sp, lf, li) p :=
  wy_where (pl_P hP) hm (hl_c hc) hp (fun v hv => h v ⟨li, m, hc, hv⟩)
/-- borderOf: the points of x that stand on the border -/
theorem wx_bord {post : Int32 → SX → Prop} {fp fs x : Int32} {a0 a1 a2 a3 : Nat → Int32} (hP : ∀ k, k < 24 → gm_P (a0 k))
    (h : ∀ L b f r, (∀ i, i < 32 → (bt r i = true ↔ (i < 24 ∧ bt x i = true ∧ hl_st x a0 (a0 i) 1))) → post r (fp, f, a0, b, L, a3)) : wpX_borderOf post (fp, fs, a0, a1, a2, a3) x := by
  unfold wpX_borderOf
  refine wx_hull hP (fun m L b f hm hc => ?_)
  have key : ∀ d i, i + d = 24 → ∀ r, (∀ j, j < 32 → (bt r j = true ↔ (j < i ∧ bt x j = true ∧ hl_st x a0 (a0 j) 1))) → wX_borderOf_11 post x (nI m) fp f a0 b L a3 (d + 1) r (nI i) := by
    intro d
    induction d with
    | zero =>
      intro i hi r hr
      have e24 : i = 24 := by omega
      subst e24
      exact br_t (nI_le (a := 24) (by omega) (by omega)) (h L b f r hr)
    | succ d ih =>
      intro i hi r hr
      have no : (bt x i = true → ¬ hl_st x a0 (a0 i) 1) → ∀ y : Int32, y = nI i + 1 → wX_borderOf_11 post x (nI m) fp f a0 b L a3 (d + 1) r y := by
        intro hn
        refine nm_r (nI_1 i) (ih (i + 1) (by omega) r fun j hj => ?_)
        rw [hr j hj]
        by_cases ej : j = i
        · rw [ej]
          exact ⟨fun q => by omega, fun q => absurd q.2.2 (hn q.2.1)⟩
        · exact ⟨fun q => ⟨by omega, q.2⟩, fun q => ⟨by omega, q.2⟩⟩
      refine br_f (nI_ge (b := 24) (by omega) (by omega)) (wx_hasBit (by omega) (fun hb => br_f (by decide) ⟨vp_in_nI (by omega) (by omega), ?_⟩) (fun hb => br_t rfl (no fun q => absurd q (by rw [hb]; decide))))
      rw [nI_clamp (by omega)]
      refine wx_stand hP hm hc (hP i (by omega)) (fun v hv => ⟨fun e => nm_e (nm_r (nI_1 i) (ih (i + 1) (by omega) _ fun j hj => ?_)), fun e => no fun _ q => e (hl_stu hP (hP i (by omega)) hv q)⟩)
      rw [b_or, b_one (by omega) hj, Bool.or_eq_true, hr j hj, decide_eq_true_eq]
      by_cases ej : j = i
      · rw [ej]
        exact ⟨fun _ => ⟨by omega, hb, e ▸ hv⟩, fun _ => Or.inr rfl⟩
      · exact ⟨fun q => q.elim (fun q => ⟨by omega, q.2⟩) (fun q => absurd q ej), fun q => Or.inl ⟨by omega, q.2⟩⟩
  exact ⟨_, key 24 0 (by omega) 0 (fun j hj => by rw [b_0]; exact ⟨fun q => absurd q (by decide), fun q => by omega⟩)⟩
theorem b_iff {x y : Int32} (h : ∀ i, i < 32 → (bt x i = true ↔ bt y i = true)) : x = y := by
  apply b_ext
  intro i hi
  have := h i hi
  cases hx : bt x i <;> cases hy : bt y i <;> simp_all
