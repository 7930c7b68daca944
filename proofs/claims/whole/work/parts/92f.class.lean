/-! ===== the class: its order of seats, its cells, its clearing ===== -/
def mx_L (z : Int) : Int64 := Int64.ofInt z
theorem mx_L_mul (x y : Int) : mx_L x * mx_L y = mx_L (x * y) := (Int64.ofInt_mul x y).symm
theorem mx_L_sub (x y : Int) : mx_L x - mx_L y = mx_L (x - y) := (Int64.ofInt_sub x y).symm
theorem mx_L_add (x y : Int) : mx_L x + mx_L y = mx_L (x + y) := (Int64.ofInt_add x y).symm
theorem mx_L_neg (x : Int) : -mx_L x = mx_L (-x) := (Int64.ofInt_neg x).symm
theorem mx_L_nat (k : Nat) : mx_L (k : Int) = lN k := Int64.ofInt_eq_ofNat
theorem mx_L_int {z : Int} (h1 : -9223372036854775808 ≤ z) (h2 : z < 9223372036854775808) : (mx_L z).toInt = z := Int64.toInt_ofInt_of_le (by omega) (by omega)
theorem mx_L_0 {z : Int} (h1 : -9223372036854775808 ≤ z) (h2 : z < 9223372036854775808) : mx_L z = 0 ↔ z = 0 := by
  rw [fa_eq64, mx_L_int h1 h2]
  exact Iff.rfl
theorem mx_L_lt {z y : Int} (h1 : -9223372036854775808 ≤ z) (h2 : z < 9223372036854775808) (h3 : -9223372036854775808 ≤ y) (h4 : y < 9223372036854775808) : mx_L z < mx_L y ↔ z < y := by
  rw [fa_lt64, mx_L_int h1 h2, mx_L_int h3 h4]
theorem mx_L_div {D q : Int} (hD : 0 < D) (hD2 : D < 9223372036854775808) (h1 : -9223372036854775808 < D * q) (h2 : D * q < 9223372036854775808) : mx_L (D * q) / mx_L D = mx_L q := by
  have hq : -9223372036854775808 < q ∧ q < 9223372036854775808 := by
    by_cases c : 0 ≤ q
    · have := Int.mul_le_mul_of_nonneg_right (show 1 ≤ D by omega) c
      omega
    · have := Int.mul_le_mul_of_nonneg_right (show 1 ≤ D by omega) (show 0 ≤ -q by omega)
      have e : D * -q = -(D * q) := Int.mul_neg D q
      omega
  rw [fa_eq64, Int64.toInt_div, mx_L_int (by omega) (by omega), mx_L_int (by omega) (by omega), mx_L_int (by omega) (by omega), Int.mul_tdiv_cancel_left _ (by omega), fb_bmodL (by omega) (by omega)]
def py_en (n : Nat) (P : Nat → Prop) (ord : Nat → Nat) (s : Nat) : Prop := (∀ r, r < s → ord r < n ∧ P (ord r)) ∧ (∀ r q, r < q → q < s → ord r ≠ ord q) ∧ ∀ i, i < n → P i → ∃ r, r < s ∧ ord r = i
section PYCL
variable {n a b : Nat} {T : Nat → Nat → Nat} {ct : Nat → Int32}
theorem py_order (h8 : n ≤ 8) (ha : a < n) (hb : b < n) (hab : ¬ a = b) {M : Nat} (hM : M.testBit a = true) (o0 : Nat → Int32) (sz : Int32) : ∃ (o' : Nat → Int32) (s : Nat) (ord : Nat → Nat), zf_X2_putInOrder (nI M) (nI a) (nI b) (nI n) o0 sz = some (o', nI s) ∧ 1 ≤ s ∧ s ≤ 7 ∧ (∀ r, r < s → o' r = nI (ord r)) ∧ py_en n (fun i => M.testBit i = true ∧ ¬ i = b) ord s ∧ ord (s - 1) = a := by
  obtain ⟨p, hp⟩ : ∃ p : Nat → Bool, p = fun i => M.testBit i && (decide (¬ i = a) && decide (¬ i = b)) := ⟨_, rfl⟩
  have pE : ∀ i, p i = true ↔ M.testBit i = true ∧ ¬ i = a ∧ ¬ i = b := fun i => by
    rw [hp]
    show (M.testBit i && (decide (¬ i = a) && decide (¬ i = b))) = true ↔ _
    rw [Bool.and_eq_true, Bool.and_eq_true, decide_eq_true_iff, decide_eq_true_iff]
  have pa : p a = false := Bool.eq_false_iff.mpr (fun z => ((pE a).mp z).2.1 rfl)
  have pb : p b = false := Bool.eq_false_iff.mpr (fun z => ((pE b).mp z).2.2 rfl)
  have cnt : fb_ct p n + 2 ≤ n := by
    have u1 := fb_ct_upd p true ha
    have u2 := fb_ct_upd (fun k => if k = a then true else p k) true hb
    have e1 : (if b = a then true else p b) = false := by
      rw [if_neg (fun z => hab z.symm), pb]
    rw [e1] at u2
    rw [pa] at u1
    have := fb_ct_le (fun k => if k = b then true else if k = a then true else p k) n
    have t1 : (if true = true then 1 else 0) = 1 := if_pos rfl
    have t2 : (if false = true then 1 else 0) = 0 := if_neg (by decide)
    rw [t1, t2] at u1 u2
    omega
  have A : ∀ (d q m : Nat) (o : Nat → Int32), q + d = n → d < m → (∀ i, i < q → p i = true → o (fb_ct p i) = nI i) → ∃ o', zf_X2_putInOrder_8 (nI n) m o (nI (fb_ct p q)) (nI M) (nI a) (nI b) (nI q) = some (o', nI (fb_ct p n + 1)) ∧ (∀ i, i < n → p i = true → o' (fb_ct p i) = nI i) ∧ o' (fb_ct p n) = nI a := by
    intro d
    induction d with
    | zero =>
      intro q m o e1 e2 h
      obtain ⟨f, rfl⟩ : ∃ f, m = f + 1 := ⟨m - 1, by omega⟩
      have : q = n := by omega
      subst this
      refine ⟨upd o (fb_ct p q) (nI a), ?_, fun i hi hpi => ?_, pk_us⟩
      · show zf_X2_putInOrder_8_b _ _ _ _ _ _ _ _ = _
        unfold zf_X2_putInOrder_8_b
        rw [if_pos ((tn_le (by omega) (by omega)).mpr (by omega)), if_neg (tn_in (a := fb_ct p q) (N := 8) (by omega) (by decide)), tn_cl (by omega), show nI (fb_ct p q) + (1 : Int32) = nI (fb_ct p q + 1) from nI_1 _]
      · have : fb_ct p i + 1 ≤ fb_ct p q := by
          have h1 := fb_ct_succ p i
          rw [if_pos hpi] at h1
          have := fb_ct_mono p (show i + 1 ≤ q by omega)
          omega
        rw [pk_un (by omega)]
        exact h i hi hpi
    | succ d ih =>
      intro q m o e1 e2 h
      obtain ⟨f, rfl⟩ : ∃ f, m = f + 1 := ⟨m - 1, by omega⟩
      show ∃ o', zf_X2_putInOrder_8_b _ _ _ _ _ _ _ _ = _ ∧ _
      unfold zf_X2_putInOrder_8_b zf_X2_putInOrder_70
      rw [if_neg (nI_ge (a := q) (b := n) (by omega) (by omega)), show nI q + (1 : Int32) = nI (q + 1) from nI_1 q]
      have hs := fb_ct_succ p q
      have hle := fb_ct_mono p (show q + 1 ≤ n by omega)
      have skip : p q = false → ∃ o', zf_X2_putInOrder_8 (nI n) f o (nI (fb_ct p q)) (nI M) (nI a) (nI b) (nI (q + 1)) = some (o', nI (fb_ct p n + 1)) ∧ (∀ i, i < n → p i = true → o' (fb_ct p i) = nI i) ∧ o' (fb_ct p n) = nI a := by
        intro hq
        have := ih (q + 1) f o (by omega) (by omega) (fun i hi hpi => by
          by_cases e : i = q
          · rw [e, hq] at hpi; exact absurd hpi (by decide)
          · exact h i (by omega) hpi)
        rw [hs, hq] at this
        exact this
      by_cases c1 : M.testBit q = true
      · rw [if_pos ((py_pick1 (by omega)).mpr c1)]
        by_cases c2 : q = a
        · rw [if_pos (show nI q = nI a from by rw [c2])]
          exact skip (by rw [c2]; exact pa)
        · rw [if_neg (fun z => c2 ((tn_eq (by omega) (by omega)).mp z))]
          by_cases c3 : q = b
          · rw [if_pos (show nI q = nI b from by rw [c3])]
            exact skip (by rw [c3]; exact pb)
          · have hq : p q = true := (pE q).mpr ⟨c1, c2, c3⟩
            rw [hq] at hs
            rw [if_pos rfl] at hs
            rw [if_neg (fun z => c3 ((tn_eq (by omega) (by omega)).mp z)), if_neg (show ¬ (7 : Int32) ≤ nI (fb_ct p q) from nI_ge (a := fb_ct p q) (b := 7) (by omega) (by decide)), if_neg (tn_in (a := fb_ct p q) (N := 8) (by omega) (by decide)), tn_cl (by omega), show nI (fb_ct p q) + (1 : Int32) = nI (fb_ct p q + 1) from nI_1 _, ← hs]
            refine ih (q + 1) f _ (by omega) (by omega) (fun i hi hpi => ?_)
            by_cases e : i = q
            · rw [e, pk_us]
            · have : fb_ct p i + 1 ≤ fb_ct p q := by
                have h1 := fb_ct_succ p i
                rw [if_pos hpi] at h1
                have := fb_ct_mono p (show i + 1 ≤ q by omega)
                omega
              rw [pk_un (by omega)]
              exact h i (by omega) hpi
      · rw [if_neg (fun z => c1 ((py_pick1 (by omega)).mp z))]
        exact skip (Bool.eq_false_iff.mpr (fun z => c1 ((pE q).mp z).1))
  obtain ⟨o', r1, r2, r3⟩ := A n 0 zfuel o0 (by omega) (by unfold zfuel; omega) (fun i hi => absurd hi (by omega))
  have ch : ∀ r, ∃ x : Nat, r < fb_ct p n + 1 → o' r = nI x ∧ x < n ∧ ((r = fb_ct p n ∧ x = a) ∨ (r < fb_ct p n ∧ p x = true ∧ fb_ct p x = r)) := by
    intro r
    by_cases c : r < fb_ct p n
    · obtain ⟨i, i1, i2, i3⟩ := fb_ct_kth c
      exact ⟨i, fun _ => ⟨by rw [← i3]; exact r2 i i1 i2, i1, Or.inr ⟨c, i2, i3⟩⟩⟩
    · by_cases c2 : r = fb_ct p n
      · exact ⟨a, fun _ => ⟨by rw [c2]; exact r3, ha, Or.inl ⟨c2, rfl⟩⟩⟩
      · exact ⟨0, fun h => absurd h (by omega)⟩
  obtain ⟨ord, ho⟩ := Classical.axiomOfChoice ch
  refine ⟨o', fb_ct p n + 1, ord, r1, by omega, by omega, fun r hr => (ho r hr).1, ⟨fun r hr => ?_, fun r q hrq hq e => ?_, fun i hi hP => ?_⟩, ?_⟩
  · obtain ⟨-, h2, h3⟩ := ho r hr
    refine ⟨h2, ?_⟩
    rcases h3 with ⟨-, h3⟩ | ⟨-, h3, -⟩
    · rw [h3]; exact ⟨hM, hab⟩
    · exact ⟨((pE _).mp h3).1, ((pE _).mp h3).2.2⟩
  · obtain ⟨-, -, h3⟩ := ho r (by omega)
    obtain ⟨-, -, h4⟩ := ho q hq
    rcases h3 with ⟨h3, -⟩ | ⟨h3, h3', h3''⟩
    · omega
    · rcases h4 with ⟨-, h4⟩ | ⟨-, -, h4''⟩
      · rw [e, h4, pa] at h3'; exact absurd h3' (by decide)
      · rw [e] at h3''; omega
  · by_cases c : i = a
    · refine ⟨fb_ct p n, by omega, ?_⟩
      obtain ⟨-, -, h3⟩ := ho (fb_ct p n) (by omega)
      rcases h3 with ⟨-, h3⟩ | ⟨h3, -⟩
      · rw [h3, c]
      · omega
    · have hpi : p i = true := (pE i).mpr ⟨hP.1, c, hP.2⟩
      have h1 := fb_ct_succ p i
      rw [if_pos hpi] at h1
      have h2 := fb_ct_mono p (show i + 1 ≤ n by omega)
      refine ⟨fb_ct p i, by omega, ?_⟩
      obtain ⟨-, -, h3⟩ := ho (fb_ct p i) (by omega)
      rcases h3 with ⟨h3, -⟩ | ⟨-, h3, h3'⟩
      · omega
      · exact fb_ct_kth_one h3 hpi h3'
  · obtain ⟨-, -, h3⟩ := ho (fb_ct p n) (by omega)
    rw [show fb_ct p n + 1 - 1 = fb_ct p n by omega]
    rcases h3 with ⟨-, h3⟩ | ⟨h3, -⟩
    · exact h3
    · omega
/-! cells -/
theorem py_cellI {l c : Nat} : nI l * (9 : Int32) + nI c = nI (9 * l + c) := by rw [show (9 : Int32) = nI 9 from rfl, pk_mul, nI_add, Nat.mul_comm]
theorem py_setC {l c : Nat} (h : 9 * l + c < 72) (v : Int64) (w : Nat → Int64) : zf_X2_setCell (nI l) (nI c) v w = some (vp_updL w (9 * l + c) v) := by
  unfold zf_X2_setCell
  rw [py_cellI, if_neg (tn_n0 (by omega)), if_neg (show ¬ (72 : Int32) ≤ nI (9 * l + c) from nI_ge (a := 9 * l + c) (b := 72) h (by decide)), if_neg (tn_in (a := 9 * l + c) (N := 72) h (by decide)), tn_cl (by omega)]
theorem py_getC {l c : Nat} (h : 9 * l + c < 72) (w : Nat → Int64) : zf_X2_cellAt (nI l) (nI c) w = some (w (9 * l + c)) := by
  unfold zf_X2_cellAt
  rw [py_cellI, if_neg (tn_n0 (by omega)), if_neg (show ¬ (72 : Int32) ≤ nI (9 * l + c) from nI_ge (a := 9 * l + c) (b := 72) h (by decide)), if_neg (tn_in (a := 9 * l + c) (N := 72) h (by decide)), tn_cl (by omega)]
def mx_oc (ord : Nat → Nat) (s c : Nat) : Nat := if c < s then ord c else 8
theorem py_own : ∀ t, t < 11 → ((10 : Int32) - nI t).toInt64 = Int64.ofInt (10 - (t : Int)) ∧ ((0 : Int32) - nI t).toInt64 = Int64.ofInt (0 - (t : Int)) := by decide
theorem py_fill (h8 : n ≤ 8) (hc : ∀ i j, i < 8 → j < 8 → ct (8 * i + j) = nI (T i j)) (hT : ∀ i j, T i j ≤ 10) {s : Nat} {ord : Nat → Nat} {o' : Nat → Int32} (hs : s ≤ 7) (ho : ∀ r, r < s → o' r = nI (ord r)) (hn : ∀ r, r < s → ord r < n) (hi : ∀ r q, r < q → q < s → ord r ≠ ord q) (w : Nat → Int64) :
    ∃ w', zf_X2_fill o' (nI s) ct (nI n) w = some w' ∧ ∀ x y, x < s → y ≤ s → w' (9 * x + y) = mx_L (mx_A T (ord x) (mx_oc ord s y)) := by
  have B : ∀ (l : Nat) (hl : l < s) (k2 : (Nat → Int64) → Int32 → Option (Nat → Int64)) (d c m : Nat) (w : Nat → Int64), c + d = s → d < m → (∀ x y, x < s → y ≤ s → (x < l ∨ (x = l ∧ y < c)) → w (9 * x + y) = mx_L (mx_A T (ord x) (mx_oc ord s y))) →
      ∃ w', zf_X2_fill_18 o' (nI s) ct (nI n) k2 m w (nI l) (nI c) = k2 w' (nI (l + 1)) ∧ ∀ x y, x < s → y ≤ s → x < l + 1 → w' (9 * x + y) = mx_L (mx_A T (ord x) (mx_oc ord s y)) := by
    intro l hl k2 d
    induction d with
    | zero =>
      intro c m w e1 e2 h
      obtain ⟨f, rfl⟩ : ∃ f, m = f + 1 := ⟨m - 1, by omega⟩
      have : c = s := by omega
      subst this
      refine ⟨vp_updL w (9 * l + c) 10, ?_, fun x y hx hy hxl => ?_⟩
      · show zf_X2_fill_18_b _ _ _ _ _ _ _ _ _ = _
        unfold zf_X2_fill_18_b zf_X2_fill_77
        rw [if_pos ((tn_le (by omega) (by omega)).mpr (by omega)), py_setC (by omega), show nI l + (1 : Int32) = nI (l + 1) from nI_1 l]
        rfl
      · by_cases e : x = l ∧ y = c
        · rw [e.1, e.2, pk_uLs]
          rw [show mx_oc ord c c = 8 from if_neg (by omega)]
          unfold mx_A
          rw [if_pos rfl]
          rfl
        · rw [pk_uLn (by omega)]
          exact h x y hx hy (by omega)
    | succ d ih =>
      intro c m w e1 e2 h
      obtain ⟨f, rfl⟩ : ∃ f, m = f + 1 := ⟨m - 1, by omega⟩
      have hol := hn l hl
      have hoc := hn c (by omega)
      have hTt := hT (ord l) (ord c)
      obtain ⟨w', g1, g2⟩ := ih (c + 1) f (vp_updL w (9 * l + c) (mx_L (mx_A T (ord l) (ord c)))) (by omega) (by omega) (fun x y hx hy hxl => by
        by_cases e : x = l ∧ y = c
        · rw [e.1, e.2, pk_uLs]
          unfold mx_oc
          rw [if_pos (by omega)]
        · rw [pk_uLn (by omega)]
          exact h x y hx hy (by omega))
      refine ⟨w', ?_, g2⟩
      rw [← g1]
      show zf_X2_fill_18_b _ _ _ _ _ _ _ _ _ = _
      unfold zf_X2_fill_18_b
      rw [if_neg (nI_ge (a := c) (b := s) (by omega) (by omega)), if_neg (show ¬ (8 : Int32) ≤ nI c from nI_ge (a := c) (b := 8) (by omega) (by decide))]
      have go : ∀ s0 : Int32, (s0 - nI (T (ord l) (ord c))).toInt64 = mx_L (mx_A T (ord l) (ord c)) → zf_X2_fill_43 o' (nI s) ct (nI n) k2 (zf_X2_fill_18 o' (nI s) ct (nI n) k2 f) w (nI l) (nI c) s0 = zf_X2_fill_18 o' (nI s) ct (nI n) k2 f (vp_updL w (9 * l + c) (mx_L (mx_A T (ord l) (ord c)))) (nI l) (nI (c + 1)) := by
        intro s0 hs0
        unfold zf_X2_fill_43
        rw [if_neg (tn_in (a := l) (N := 8) (by omega) (by decide)), if_neg (tn_in (a := c) (N := 8) (by omega) (by decide)), tn_cl (a := l) (by omega), tn_cl (a := c) (by omega), ho l hl, ho c (by omega), py_ten h8 hc hol hoc]
        simp only [zb]
        rw [py_setC (by omega), hs0, show nI c + (1 : Int32) = nI (c + 1) from nI_1 c]
        rfl
      by_cases e : l = c
      · rw [if_pos (show nI l = nI c from by rw [e])]
        refine go 10 ?_
        rw [(py_own _ (by omega)).1]
        unfold mx_A
        rw [if_neg (by omega), if_pos (by rw [e])]
        rfl
      · rw [if_neg (fun z => e ((tn_eq (by omega) (by omega)).mp z))]
        refine go 0 ?_
        rw [(py_own _ (by omega)).2]
        unfold mx_A
        rw [if_neg (by omega), if_neg (fun z => by
          rcases Nat.lt_or_gt_of_ne e with q | q
          · exact hi l c q (by omega) z
          · exact hi c l q hl z.symm)]
        rfl
  have A : ∀ (d l m : Nat) (w : Nat → Int64), l + d = s → d < m → (∀ x y, x < s → y ≤ s → x < l → w (9 * x + y) = mx_L (mx_A T (ord x) (mx_oc ord s y))) → ∃ w', zf_X2_fill_2 o' (nI s) ct (nI n) m w (nI l) = some w' ∧ ∀ x y, x < s → y ≤ s → w' (9 * x + y) = mx_L (mx_A T (ord x) (mx_oc ord s y)) := by
    intro d
    induction d with
    | zero =>
      intro l m w e1 e2 h
      obtain ⟨f, rfl⟩ : ∃ f, m = f + 1 := ⟨m - 1, by omega⟩
      refine ⟨w, ?_, fun x y hx hy => h x y hx hy (by omega)⟩
      show zf_X2_fill_2_b _ _ _ _ _ _ _ = _
      unfold zf_X2_fill_2_b
      rw [if_pos ((tn_le (by omega) (by omega)).mpr (by omega))]
    | succ d ih =>
      intro l m w e1 e2 h
      obtain ⟨f, rfl⟩ : ∃ f, m = f + 1 := ⟨m - 1, by omega⟩
      obtain ⟨w1, g1, g2⟩ := B l (by omega) (zf_X2_fill_2 o' (nI s) ct (nI n) f) s 0 zfuel w (by omega) (by unfold zfuel; omega) (fun x y hx hy hxl => h x y hx hy (by omega))
      obtain ⟨w2, g3, g4⟩ := ih (l + 1) f w1 (by omega) (by omega) g2
      refine ⟨w2, ?_, g4⟩
      rw [← g3, ← g1]
      show zf_X2_fill_2_b _ _ _ _ _ _ _ = _
      unfold zf_X2_fill_2_b
      rw [if_neg (nI_ge (a := l) (b := s) (by omega) (by omega)), if_neg (show ¬ (8 : Int32) ≤ nI l from nI_ge (a := l) (b := 8) (by omega) (by decide))]
      rfl
  exact A s 0 zfuel w (by omega) (by unfold zfuel; omega) (fun x y _ _ hx => absurd hx (by omega))
end PYCL
