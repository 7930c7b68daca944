/-! ===== the class's clearing ===== -/
def mx_Hy (T : Nat → Nat → Nat) (ord : Nat → Nat) (s : Nat) : Prop := s ≤ 7 ∧ (∀ r q, r < q → q < s → ord r ≠ ord q) ∧ (∀ r, r < s → ord r < 8) ∧ ∃ h : Nat → Int, (∀ j, j ∈ mx_ls ord s → 0 < h j) ∧ mx_S (mx_ls ord s) h 10 1 (mx_A T)
theorem mx_pw : ∀ k, k < 8 → (10 : Int) ^ k ≤ 20 ^ k ∧ (20 : Int) ^ k ≤ 1280000000 ∧ (10 : Int) ^ k ≤ 10000000 := by decide
section PYEL
variable {n a b s : Nat} {T : Nat → Nat → Nat} {ct : Nat → Int32} {ord : Nat → Nat}
theorem mx_bdD (H : mx_Hy T ord s) {k : Nat} (hk : k ≤ s) : 0 < (mx_st (mx_A T) ord k).1 ∧ (mx_st (mx_A T) ord k).1 ≤ 10 ^ k := by
  obtain ⟨h7, h1, h2, h, h3, h4⟩ := H
  obtain ⟨i1, -, d1, -⟩ := mx_all h1 h3 h4 k hk
  exact ⟨i1.1, d1⟩
theorem mx_bd (H : mx_Hy T ord s) {k x y : Nat} (hk : k ≤ s) (hx : x < s) (hy : y ≤ s) : -(10 * 20 ^ k) ≤ (mx_st (mx_A T) ord k).2 (ord x) (mx_oc ord s y) ∧ (mx_st (mx_A T) ord k).2 (ord x) (mx_oc ord s y) ≤ 10 * 20 ^ k := by
  obtain ⟨h7, h1, h2, h, h3, h4⟩ := H
  obtain ⟨i1, s1, d1, -⟩ := mx_all h1 h3 h4 k hk
  have nd := mx_ls_nd h1
  have hm : ord x ∈ mx_ls ord s := mx_ls_mem.mpr ⟨x, hx, rfl⟩
  obtain ⟨q1, q2, q3, q4, q5, q6⟩ := s1 (ord x) hm
  have hp := mx_pos nd h3 s1 hm
  have pw := (mx_pw k (by omega)).1
  unfold mx_oc
  by_cases c : y < s
  · rw [if_pos c]
    by_cases e : ord y = ord x
    · rw [e]; omega
    · have := mx_off nd s1 hm (mx_ls_mem.mpr ⟨y, c, rfl⟩) e
      omega
  · rw [if_neg c]; omega
theorem mx_ex (H : mx_Hy T ord s) {k : Nat} (hk : k < s) : 0 < (mx_st (mx_A T) ord k).2 (ord k) (ord k) ∧ ∀ x, x < s → ¬ x = k → ∀ c, (mx_st (mx_A T) ord k).1 * (mx_st (mx_A T) ord (k + 1)).2 (ord x) c = (mx_st (mx_A T) ord k).2 (ord k) (ord k) * (mx_st (mx_A T) ord k).2 (ord x) c - (mx_st (mx_A T) ord k).2 (ord x) (ord k) * (mx_st (mx_A T) ord k).2 (ord k) c := by
  obtain ⟨h7, h1, h2, h, h3, h4⟩ := H
  obtain ⟨i1, s1, d1, e1⟩ := mx_all h1 h3 h4 k (by omega)
  refine ⟨(e1 hk).1, fun x hx hxk c => (e1 hk).2 (ord x) (mx_ls_mem.mpr ⟨x, hx, rfl⟩) (fun e => ?_) c⟩
  rcases Nat.lt_or_gt_of_ne hxk with q | q
  · exact h1 x k q hk e
  · exact h1 k x q hx e.symm
theorem mx_ex1 (H : mx_Hy T ord s) {k : Nat} (hk : k < s) (c : Nat) : (mx_st (mx_A T) ord (k + 1)).2 (ord k) c = (mx_st (mx_A T) ord k).2 (ord k) c := if_pos rfl
theorem py_sub28 (H : mx_Hy T ord s) {k l : Nat} (hkl : k < l) (hl : l < s) : ∀ (d y m : Nat) (w : Nat → Int64), y + d = s + 1 → d < m → k + 1 ≤ y →
    (∀ z, k ≤ z → z ≤ s → w (9 * k + z) = mx_L ((mx_st (mx_A T) ord k).2 (ord k) (mx_oc ord s z))) → (∀ z, y ≤ z → z ≤ s → w (9 * l + z) = mx_L ((mx_st (mx_A T) ord k).2 (ord l) (mx_oc ord s z))) → (∀ z, k + 1 ≤ z → z < y → w (9 * l + z) = mx_L ((mx_st (mx_A T) ord (k + 1)).2 (ord l) (mx_oc ord s z))) →
    ∃ w', zf_X2_subtract_28 (nI s) m w (nI k) (nI l) (mx_L (mx_st (mx_A T) ord k).1) (mx_L ((mx_st (mx_A T) ord k).2 (ord k) (ord k))) (mx_L ((mx_st (mx_A T) ord k).2 (ord l) (ord k))) (nI y) = some w' ∧
      (∀ z, k + 1 ≤ z → z ≤ s → w' (9 * l + z) = mx_L ((mx_st (mx_A T) ord (k + 1)).2 (ord l) (mx_oc ord s z))) ∧ ∀ x z, ¬ x = l → z < 9 → w' (9 * x + z) = w (9 * x + z) := by
  have h7 := H.1
  obtain ⟨D0, D1⟩ := mx_bdD H (k := k) (by omega)
  have pw := mx_pw k (by omega)
  have pw2 := mx_pw (k + 1) (by omega)
  intro d
  induction d with
  | zero =>
    intro y m w e1 e2 hy r1 r2 r3
    obtain ⟨f, rfl⟩ : ∃ f, m = f + 1 := ⟨m - 1, by omega⟩
    refine ⟨w, ?_, fun z h1 h2 => r3 z h1 (by omega), fun _ _ _ _ => rfl⟩
    show zf_X2_subtract_28_b _ _ _ _ _ _ _ _ _ = _
    unfold zf_X2_subtract_28_b
    rw [if_pos (nI_lt (by omega) (by omega))]
  | succ d ih =>
    intro y m w e1 e2 hy r1 r2 r3
    obtain ⟨f, rfl⟩ : ∃ f, m = f + 1 := ⟨m - 1, by omega⟩
    have ex := (mx_ex H (k := k) (by omega)).2 l hl (by omega) (mx_oc ord s y)
    obtain ⟨b1, b2⟩ := mx_bd H (k := k + 1) (x := l) (y := y) (by omega) hl (by omega)
    have val : (mx_L ((mx_st (mx_A T) ord k).2 (ord l) (mx_oc ord s y)) * mx_L ((mx_st (mx_A T) ord k).2 (ord k) (ord k)) - mx_L ((mx_st (mx_A T) ord k).2 (ord l) (ord k)) * mx_L ((mx_st (mx_A T) ord k).2 (ord k) (mx_oc ord s y))) / mx_L (mx_st (mx_A T) ord k).1 = mx_L ((mx_st (mx_A T) ord (k + 1)).2 (ord l) (mx_oc ord s y)) := by
      rw [mx_L_mul, mx_L_mul, mx_L_sub, Int.mul_comm ((mx_st (mx_A T) ord k).2 (ord l) (mx_oc ord s y)), ← ex]
      have B : ∀ v : Int, -12800000000 ≤ v → v ≤ 12800000000 → -9223372036854775808 < (mx_st (mx_A T) ord k).1 * v ∧ (mx_st (mx_A T) ord k).1 * v < 9223372036854775808 := by
        intro v v1 v2
        have q1 := Int.mul_le_mul_of_nonneg_left v2 (Int.le_of_lt D0)
        have q2 := Int.mul_le_mul_of_nonneg_left v1 (Int.le_of_lt D0)
        omega
      have := B ((mx_st (mx_A T) ord (k + 1)).2 (ord l) (mx_oc ord s y)) (by omega) (by omega)
      exact mx_L_div D0 (by omega) this.1 this.2
    obtain ⟨w', g1, g2, g3⟩ := ih (y + 1) f (vp_updL w (9 * l + y) (mx_L ((mx_st (mx_A T) ord (k + 1)).2 (ord l) (mx_oc ord s y)))) (by omega) (by omega) (by omega) (fun z z1 z2 => by rw [pk_uLn (by omega)]; exact r1 z z1 z2) (fun z z1 z2 => by rw [pk_uLn (by omega)]; exact r2 z (by omega) z2) (fun z z1 z2 => by
      by_cases e : z = y
      · rw [e, pk_uLs]
      · rw [pk_uLn (by omega)]; exact r3 z z1 (by omega))
    refine ⟨w', ?_, g2, fun x z hx hz => by rw [g3 x z hx hz, pk_uLn (by omega)]⟩
    rw [← g1]
    show zf_X2_subtract_28_b _ _ _ _ _ _ _ _ _ = _
    unfold zf_X2_subtract_28_b
    rw [if_neg (nI_nlt (a := s) (b := y) (by omega) (by omega)), py_getC (by omega), py_getC (by omega)]
    simp only [zb]
    rw [if_neg (fun z => by have := (mx_L_0 (by omega) (by omega)).mp z; omega), r2 y (by omega) (by omega), r1 y (by omega) (by omega), val, py_setC (by omega), show nI y + (1 : Int32) = nI (y + 1) from nI_1 y]
    rfl
theorem py_subC (H : mx_Hy T ord s) {k l : Nat} (hkl : k < l) (hl : l < s) (w : Nat → Int64) (r1 : ∀ z, k ≤ z → z ≤ s → w (9 * k + z) = mx_L ((mx_st (mx_A T) ord k).2 (ord k) (mx_oc ord s z))) (r2 : ∀ z, k ≤ z → z ≤ s → w (9 * l + z) = mx_L ((mx_st (mx_A T) ord k).2 (ord l) (mx_oc ord s z))) :
    ∃ w', zf_X2_subtract (nI k) (nI l) (mx_L (mx_st (mx_A T) ord k).1) (nI s) w = some w' ∧ (∀ z, k + 1 ≤ z → z ≤ s → w' (9 * l + z) = mx_L ((mx_st (mx_A T) ord (k + 1)).2 (ord l) (mx_oc ord s z))) ∧ ∀ x z, ¬ x = l → z < 9 → w' (9 * x + z) = w (9 * x + z) := by
  have h7 := H.1
  obtain ⟨D0, D1⟩ := mx_bdD H (k := k) (by omega)
  have pw := mx_pw k (by omega)
  have ok : mx_oc ord s k = ord k := if_pos (by omega)
  obtain ⟨w', g1, g2, g3⟩ := py_sub28 H hkl hl (s - k) (k + 1) zfuel w (by omega) (by unfold zfuel; omega) (by omega) r1 (fun z z1 z2 => r2 z (by omega) z2) (fun z z1 z2 => absurd z1 (by omega))
  refine ⟨w', ?_, g2, g3⟩
  unfold zf_X2_subtract
  rw [if_neg (fun z => by
    have := (mx_L_0 (by omega) (by omega)).mp ((tl_cmp_eq _ _).mp z)
    omega), py_getC (by omega), py_getC (by omega)]
  simp only [zb]
  rw [r1 k (by omega) (by omega), r2 k (by omega) (by omega), ok, show nI k + (1 : Int32) = nI (k + 1) from nI_1 k]
  exact g1
theorem py_el19 (H : mx_Hy T ord s) {k : Nat} (hk : k + 1 < s) (k4 : (Nat → Int64) → Int64 → Int64 → Int64 → Int32 → Option (Int32 × (Nat → Int64) × Int64 × Int64)) (ab be : Int64) : ∀ (d l m : Nat) (w : Nat → Int64), l + d = s → d < m → k + 1 ≤ l →
    (∀ z, k ≤ z → z ≤ s → w (9 * k + z) = mx_L ((mx_st (mx_A T) ord k).2 (ord k) (mx_oc ord s z))) → (∀ x, l ≤ x → x < s → ∀ z, k ≤ z → z ≤ s → w (9 * x + z) = mx_L ((mx_st (mx_A T) ord k).2 (ord x) (mx_oc ord s z))) → (∀ x, k + 1 ≤ x → x < l → ∀ z, k + 1 ≤ z → z ≤ s → w (9 * x + z) = mx_L ((mx_st (mx_A T) ord (k + 1)).2 (ord x) (mx_oc ord s z))) →
    ∃ w', zf_X2_eliminate_19 (nI s) k4 m w ab be (mx_L (mx_st (mx_A T) ord k).1) (nI k) (nI l) = k4 w' ab be (mx_L (mx_st (mx_A T) ord (k + 1)).1) (nI (k + 1)) ∧ ∀ x, k + 1 ≤ x → x < s → ∀ z, k + 1 ≤ z → z ≤ s → w' (9 * x + z) = mx_L ((mx_st (mx_A T) ord (k + 1)).2 (ord x) (mx_oc ord s z)) := by
  have h7 := H.1
  intro d
  induction d with
  | zero =>
    intro l m w e1 e2 hl r1 r2 r3
    obtain ⟨f, rfl⟩ : ∃ f, m = f + 1 := ⟨m - 1, by omega⟩
    refine ⟨w, ?_, fun x x1 x2 z z1 z2 => r3 x x1 (by omega) z z1 z2⟩
    show zf_X2_eliminate_19_b _ _ _ _ _ _ _ _ _ = _
    unfold zf_X2_eliminate_19_b
    rw [if_pos ((tn_le (by omega) (by omega)).mpr (by omega)), py_getC (by omega), r1 k (by omega) (by omega), show mx_oc ord s k = ord k from if_pos (by omega), show nI k + (1 : Int32) = nI (k + 1) from nI_1 k]
    rfl
  | succ d ih =>
    intro l m w e1 e2 hl r1 r2 r3
    obtain ⟨f, rfl⟩ : ∃ f, m = f + 1 := ⟨m - 1, by omega⟩
    obtain ⟨w1, g1, g2, g3⟩ := py_subC H (show k < l by omega) (by omega) w r1 (r2 l (by omega) (by omega))
    obtain ⟨w2, g4, g5⟩ := ih (l + 1) f w1 (by omega) (by omega) (by omega) (fun z z1 z2 => by rw [g3 k z (by omega) (by omega)]; exact r1 z z1 z2) (fun x x1 x2 z z1 z2 => by rw [g3 x z (by omega) (by omega)]; exact r2 x (by omega) x2 z z1 z2) (fun x x1 x2 z z1 z2 => by
      by_cases e : x = l
      · rw [e]; exact g2 z z1 z2
      · rw [g3 x z e (by omega)]; exact r3 x x1 (by omega) z z1 z2)
    refine ⟨w2, ?_, g5⟩
    rw [← g4]
    show zf_X2_eliminate_19_b _ _ _ _ _ _ _ _ _ = _
    unfold zf_X2_eliminate_19_b
    rw [if_neg (nI_ge (a := l) (b := s) (by omega) (by omega)), g1, show nI l + (1 : Int32) = nI (l + 1) from nI_1 l]
    rfl
theorem py_elim (H : mx_Hy T ord s) (hs : 1 ≤ s) (ab be : Int64) : ∀ (d k m : Nat) (w : Nat → Int64), k + d + 1 = s → d < m → (∀ x, k ≤ x → x < s → ∀ z, k ≤ z → z ≤ s → w (9 * x + z) = mx_L ((mx_st (mx_A T) ord k).2 (ord x) (mx_oc ord s z))) →
    ∃ w', zf_X2_eliminate_4 (nI s) m w ab be (mx_L (mx_st (mx_A T) ord k).1) (nI k) = some (1, w', mx_L ((mx_st (mx_A T) ord (s - 1)).2 (ord (s - 1)) 8), mx_L ((mx_st (mx_A T) ord (s - 1)).2 (ord (s - 1)) (ord (s - 1)))) := by
  have h7 := H.1
  intro d
  induction d with
  | zero =>
    intro k m w e1 e2 r
    obtain ⟨f, rfl⟩ : ∃ f, m = f + 1 := ⟨m - 1, by omega⟩
    have : s - 1 = k := by omega
    rw [this]
    refine ⟨w, ?_⟩
    show zf_X2_eliminate_4_b _ _ _ _ _ _ _ = _
    unfold zf_X2_eliminate_4_b
    have hp := (mx_ex H (k := k) (by omega)).1
    have b := mx_bd H (k := k) (x := k) (y := k) (by omega) (by omega) (by omega)
    have pw := mx_pw k (by omega)
    have ok : mx_oc ord s k = ord k := if_pos (by omega)
    rw [ok] at b
    rw [show nI s - (1 : Int32) = nI k from by rw [show nI s - (1 : Int32) = nI (s - 1) from pk_sub (a := s) (b := 1) hs, this], if_pos (nI_le (by omega) (by omega)), py_getC (by omega), py_getC (by omega)]
    simp only [zb]
    rw [r k (by omega) (by omega) k (by omega) (by omega), r k (by omega) (by omega) s (by omega) (by omega), ok, show mx_oc ord s s = 8 from if_neg (by omega), if_neg (fun z => ((tl_cmp_le _ _).mp z) (by
      rw [show (0 : Int64) = mx_L 0 from rfl, mx_L_lt (by omega) (by omega) (by omega) (by omega)]
      exact hp))]
  | succ d ih =>
    intro k m w e1 e2 r
    obtain ⟨f, rfl⟩ : ∃ f, m = f + 1 := ⟨m - 1, by omega⟩
    obtain ⟨w1, g1, g2⟩ := py_el19 H (show k + 1 < s by omega) (zf_X2_eliminate_4 (nI s) f) ab be (s - (k + 1)) (k + 1) zfuel w (by omega) (by unfold zfuel; omega) (by omega) (fun z z1 z2 => r k (by omega) (by omega) z z1 z2) (fun x x1 x2 z z1 z2 => r x (by omega) x2 z z1 z2) (fun x x1 x2 => absurd x1 (by omega))
    obtain ⟨w2, g3⟩ := ih (k + 1) f w1 (by omega) (by omega) g2
    refine ⟨w2, ?_⟩
    rw [← g3, ← g1]
    show zf_X2_eliminate_4_b _ _ _ _ _ _ _ = _
    unfold zf_X2_eliminate_4_b
    rw [show nI s - (1 : Int32) = nI (s - 1) from pk_sub (a := s) (b := 1) hs, if_neg (nI_ge (a := k) (b := s - 1) (by omega) (by omega)), show nI k + (1 : Int32) = nI (k + 1) from nI_1 k]
/-! is it sure -/
theorem py_subset {M K : Nat} (hM : M < 256) : (nI M &&& (nI K ^^^ (-1))) = 0 ↔ ∀ j, M.testBit j = true → K.testBit j = true := by
  have hb : ∀ j, j < 32 → bt (nI M &&& (nI K ^^^ (-1))) j = (M.testBit j && (K.testBit j ^^ true)) := fun j hj => by
    rw [b_and, b_xor, b_m1 j hj, py_btN hj, py_btN hj]
  constructor
  · intro h j hj
    have hj8 : j < 32 := by
      by_cases c : j < 32
      · exact c
      · rw [Nat.testBit_lt_two_pow (Nat.lt_of_lt_of_le hM (Nat.pow_le_pow_right (n := 2) (by decide) (show 8 ≤ j by omega)))] at hj
        exact absurd hj (by decide)
    have q := hb j hj8
    rw [h, b_0, hj, Bool.true_and] at q
    cases e : K.testBit j
    · rw [e] at q; exact absurd q (by decide)
    · rfl
  · intro h
    apply b_ext
    intro j hj
    rw [hb j hj, b_0]
    cases e : M.testBit j
    · rfl
    · rw [h j e]; rfl
theorem py_Hy {M : Nat} (h8 : n ≤ 8) (hb : b < n) (hr : ∀ i, i < n → fb_sm (T i) n = 10) (h7 : s ≤ 7) (hE : py_en n (fun i => M.testBit i = true ∧ ¬ i = b) ord s) (hl : ∀ i, i < n → M.testBit i = true → ∃ k, mx_gv n (pg_Eb T) b k i) : mx_Hy T ord s := by
  obtain ⟨e1, e2, e3⟩ := hE
  refine ⟨h7, e2, fun r hr' => by have := (e1 r hr').1; omega, ?_⟩
  exact mx_hex h8 hb hr (mx_ls_nd e2) (fun i hi => by
    obtain ⟨r, r1, r2⟩ := mx_ls_mem.mp hi
    obtain ⟨q1, q2, q3⟩ := e1 r r1
    rw [r2] at q1 q2 q3
    exact ⟨q1, q3, hl i q1 q2⟩)
theorem py_solveC (h8 : n ≤ 8) (hc : ∀ i j, i < 8 → j < 8 → ct (8 * i + j) = nI (T i j)) (hz : ∀ i j, n ≤ i ∨ n ≤ j → T i j = 0) (hr : ∀ i, i < n → fb_sm (T i) n = 10) (ha : a < n) (hb : b < n) (hab : ¬ a = b) (w : Nat → Int64) (o0 : Nat → Int32) (sz : Int32) (ab be : Int64) :
    (¬ (∀ i, i < n → (pg_it T n b 8 (2 ^ a)).testBit i = true → ∃ k, mx_gv n (pg_Eb T) b k i) ∧ zf_X2_solve (nI a) (nI b) ct (nI n) w o0 sz ab be = some (0, w, o0, sz, 0, 1)) ∨
    ((∀ i, i < n → (pg_it T n b 8 (2 ^ a)).testBit i = true → ∃ k, mx_gv n (pg_Eb T) b k i) ∧ ∃ w' o' s ord, 1 ≤ s ∧ py_en n (fun i => (pg_it T n b 8 (2 ^ a)).testBit i = true ∧ ¬ i = b) ord s ∧ ord (s - 1) = a ∧ mx_Hy T ord s ∧
      zf_X2_solve (nI a) (nI b) ct (nI n) w o0 sz ab be = some (1, w', o', nI s, mx_L ((mx_st (mx_A T) ord (s - 1)).2 a 8), mx_L ((mx_st (mx_A T) ord (s - 1)).2 a a))) := by
  have hT : ∀ i j, T i j ≤ 10 := fun i j => py_RN_le hz hr i j
  have hp8 := py_pow8 h8
  have hMe : pg_it T n b n (2 ^ a) = pg_it T n b 8 (2 ^ a) := pg_it_eq hz ha (by omega) (by omega)
  have hMl : pg_it T n b 8 (2 ^ a) < 2 ^ n := pg_it_lt (Nat.pow_lt_pow_right (by decide) ha) 8
  obtain ⟨M, hM⟩ : ∃ M, M = pg_it T n b 8 (2 ^ a) := ⟨_, rfl⟩
  have sub : (nI M &&& (nI (pg_lt T n n (2 ^ b)) ^^^ (-1))) = 0 ↔ ∀ i, i < n → M.testBit i = true → ∃ k, mx_gv n (pg_Eb T) b k i := by
    rw [py_subset (by omega)]
    constructor
    · intro h i hi hm
      exact ((pg_lt_bit hz hb).mp (h i hm)).2
    · intro h i hm
      have hi : i < n := by
        rw [hM] at hm
        exact ((pg_it_bit hz ha (by omega)).mp hm).1
      exact (pg_lt_bit hz hb).mpr ⟨hi, h i hi hm⟩
  rw [← hM]
  unfold zf_X2_solve
  rw [if_neg (fun z => hab ((tn_eq (by omega) (by omega)).mp z)), py_metC h8 hc hT ha hb, hMe, ← hM, py_leadC h8 hc hT hb]
  simp only [zb]
  by_cases c : ∀ i, i < n → M.testBit i = true → ∃ k, mx_gv n (pg_Eb T) b k i
  · right
    refine ⟨c, ?_⟩
    have hMa : M.testBit a = true := by
      rw [hM]
      exact (pg_it_bit hz ha (by omega)).mpr ⟨ha, 0, rfl⟩
    obtain ⟨o', s, ord, g1, g2, g3, g4, g5, g6⟩ := py_order h8 ha hb hab hMa o0 sz
    have Hy := py_Hy h8 hb hr g3 g5 c
    obtain ⟨w1, f1, f2⟩ := py_fill h8 hc hT g3 g4 (fun r hr' => (g5.1 r hr').1) g5.2.1 w
    obtain ⟨w2, f3⟩ := py_elim Hy g2 0 1 (s - 1) 0 zfuel w1 (by omega) (by unfold zfuel; omega) (fun x _ hx z _ hz' => f2 x z hx hz')
    rw [g6] at f3
    refine ⟨w2, o', s, ord, g2, g5, g6, Hy, ?_⟩
    rw [if_pos (sub.mpr c), g1]
    simp only [zb]
    rw [f1]
    simp only [zb]
    rw [show zf_X2_eliminate (nI s) w1 0 1 = _ from f3]
    simp only [zb]
    rw [if_pos (Or.inr trivial)]
  · left
    refine ⟨c, ?_⟩
    rw [if_neg (fun z => c (sub.mp z))]
end PYEL
