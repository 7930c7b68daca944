/-! ===== rows of hands, pennies, the end on a ring ===== -/
theorem tn_in' {a N : Nat} (h : a < N) (hN : N < 2 ^ 31) : ¬ (nI a < 0 ∨ N ≤ a) := fun q => q.elim (tn_n0 (by omega)) (fun q => absurd q (by omega))
theorem py_p10 (e : Nat) : 0 < 10 ^ e := Nat.pow_pos (by decide)
theorem py_p10_63 {e : Nat} (h : e ≤ 12) : 10 ^ e < 2 ^ 63 := Nat.lt_of_le_of_lt (Nat.pow_le_pow_right (by decide) h) (by decide)
theorem py_fig1 {a : Nat} (h : 0 < a) (h2 : a < 2 ^ 63) : 0 ≤ lg_cmp (lN a) (1 : Int64) := (tl_cmp_ge _ _).mpr (fun q => absurd ((pk_lLT (a := a) (b := 1) h2 (by decide)).mp q) (by omega))
theorem py_fig {t row c : Nat} (ht : t ≤ 9) (hc : c < t) (hr : row < 2 ^ 31) : zf_X5_figureOf (nI t) (nI row) (nI c) = some (nI (row / 10 ^ (t - 1 - c) % 10)) := by
  unfold zf_X5_figureOf
  have hz : ¬ lN (10 ^ (t - 1 - c)) = 0 := fun e => absurd ((tl_zero (py_p10_63 (by omega))).mp e) (by have := py_p10 (t - 1 - c); omega)
  rw [show nI t - (1 : Int32) = nI (t - 1) from pk_sub (a := t) (b := 1) (by omega), pk_sub (by omega), show (10 : Int64) = lN 10 from rfl, tp_c (by omega)]
  simp only [zb]
  rw [if_pos (py_fig1 (py_p10 _) (py_p10_63 (by omega))), if_neg hz, tl_i hr, pk_lDiv (by omega) (py_p10 _) (py_p10_63 (by omega)), pk_lRem (Nat.lt_of_le_of_lt (Nat.div_le_self _ _) (by omega)) (by decide) (by decide), lN_i]
theorem py_ten_any {n : Nat} {T : Nat → Nat → Nat} {ct : Nat → Int32} (h8 : n ≤ 8) (hc : ∀ i j, i < 8 → j < 8 → ct (8 * i + j) = nI (T i j)) (x y : Int32) : ∃ z, zf_X3_tenthsOf x y ct (nI n) = some z := by
  rcases tn_seat x (n := n) (by omega) with ⟨i, hi, rfl⟩ | h
  · rcases tn_seat y (n := n) (by omega) with ⟨j, hj, rfl⟩ | h
    · exact ⟨_, py_ten h8 hc hi hj⟩
    · exact ⟨_, py_ten0 h8 (Or.inr h)⟩
  · exact ⟨_, py_ten0 h8 (Or.inl h)⟩
theorem py_isRow (p0 p1 : Int32) : (∃ t row, 1 ≤ t ∧ t ≤ 9 ∧ row < 10 ^ t ∧ row < 2 ^ 31 ∧ p0 = nI t ∧ p1 = nI row ∧ zf_X8_isNoRow p0 p1 = some 0 ∧ zf_X9_isRow p0 p1 = some 1) ∨ (zf_X8_isNoRow p0 p1 = some 1 ∧ zf_X9_isRow p0 p1 = some 0) := by
  unfold zf_X8_isNoRow zf_X9_isRow zf_X8_isNoRow_28
  rw [py_rng (lo := 1) (hi := 9) (lo' := 1) (hi' := 9) (by decide) (by decide)]
  simp only [zb]
  by_cases hp : p0 < 1
  · refine Or.inr ?_
    rw [if_pos hp, if_pos (Or.inl hp), if_pos rfl]
    exact ⟨rfl, rfl⟩
  · rw [if_neg hp]
    by_cases hp9 : 9 < p0
    · refine Or.inr ?_
      rw [if_pos hp9, if_pos (Or.inr hp9), if_pos rfl]
      exact ⟨rfl, rfl⟩
    · rw [if_neg hp9, if_neg (show ¬ (p0 < 1 ∨ 9 < p0) from fun q => q.elim hp hp9), if_neg zone]
      obtain ⟨t, ht, rfl⟩ := nI_of2 (x := p0) (M := 9) (n := 9) (by decide) (fun q => hp (by rw [fa_lt] at q ⊢; have : (0 : Int32).toInt = 0 := rfl; have : (1 : Int32).toInt = 1 := rfl; omega)) (Int32.not_lt.mp hp9)
      have ht1 : 1 ≤ t := by
        rcases Nat.eq_zero_or_pos t with e | e
        · subst e; exact absurd (by decide) hp
        · exact e
      have h10 : 10 ^ t < 2 ^ 63 := py_p10_63 (by omega)
      have h10p := py_p10 t
      rw [show (10 : Int64) = lN 10 from rfl, tp_c (B := 10) (t := t) (by omega), show (10 : Int32) = nI 10 from rfl, tp_m (b := 10) (by decide) (by omega)]
      simp only [zb]
      rw [show (1 : Int64) = lN 1 from rfl, lN_sub h10p]
      by_cases h0 : p1 < 0
      · refine Or.inr ?_
        rw [if_pos h0, py_in0 (l := 0) (Or.inl ((fa_wide_lt p1 0).mpr h0))]
        exact ⟨rfl, rfl⟩
      · rw [if_neg h0]
        obtain ⟨row, hrow, rfl⟩ := nI_of h0
        rw [tl_i hrow]
        by_cases hlt : row < 10 ^ t
        · refine Or.inl ⟨t, row, ht1, ht, hlt, hrow, rfl, rfl, ?_, ?_⟩
          · rw [if_pos ((tl_cmp_lt _ _).mpr ((pk_lLT (by omega) h10).mpr hlt))]
          · rw [py_in1 (l := 0) (fun q => absurd ((pk_lLT (a := row) (b := 0) (by omega) (by decide)).mp q) (by omega)) (fun q => absurd ((pk_lLT (by omega) (by omega)).mp q) (by omega))]
            rfl
        · refine Or.inr ⟨?_, ?_⟩
          · rw [if_neg (fun q => hlt ((pk_lLT (by omega) h10).mp ((tl_cmp_lt _ _).mp q)))]
          · rw [py_in0 (l := 0) (Or.inr ((pk_lLT (by omega) (by omega)).mpr (by omega)))]
            rfl
section PYW
variable {n : Nat} {T : Nat → Nat → Nat} {ct mt : Nat → Int32}
theorem py_zero_w (h8 : n ≤ 8) (hc : ∀ i j, i < 8 → j < 8 → ct (8 * i + j) = nI (T i j)) {t row : Nat} (ht : t ≤ 9) (hr : row < 2 ^ 31) : ∀ (d c m : Nat) (v : Int32), c + d = t → d < m → zf_X5_weightOf_9 ct (nI n) m (nI t) (nI row) (lN 0) v (nI c) = some (lN 0) := by
  intro d
  induction d with
  | zero =>
    intro c m v h1 h2
    obtain ⟨q, rfl⟩ : ∃ q, m = q + 1 := ⟨m - 1, by omega⟩
    show zf_X5_weightOf_9_b _ _ _ _ _ _ _ _ = _
    unfold zf_X5_weightOf_9_b
    rw [if_pos ((tn_le (by omega) (by omega)).mpr (by omega))]
  | succ d ih =>
    intro c m v h1 h2
    obtain ⟨q, rfl⟩ : ∃ q, m = q + 1 := ⟨m - 1, by omega⟩
    obtain ⟨z, hz⟩ := py_ten_any h8 hc v (nI (row / 10 ^ (t - 1 - c) % 10))
    show zf_X5_weightOf_9_b _ _ _ _ _ _ _ _ = _
    unfold zf_X5_weightOf_9_b
    rw [if_neg (nI_ge (by omega) (by omega)), py_fig ht (by omega) hr]
    simp only [zb]
    rw [hz]
    simp only [zb]
    rw [show lN 0 * z.toInt64 = lN 0 from Int64.zero_mul, show nI c + (1 : Int32) = nI (c + 1) from nI_1 c]
    exact ih (c + 1) q _ (by omega) (by omega)
theorem py_jl (h8 : n ≤ 8) (h1n : 1 ≤ n) (hc : ∀ i j, i < 8 → j < 8 → ct (8 * i + j) = nI (T i j)) (hm : ∀ i j, i < 8 → j < 8 → mt (8 * i + j) = nI (T i j)) (hT : ∀ i j, T i j ≤ 10) {t row : Nat} (ht : t ≤ 9) (hr : row < 2 ^ 31) (fr u : Int32) : ∀ (d c m1 m2 m3 m4 i W : Nat), c + d = t → d < m1 → d < m2 → d < m3 → d < m4 → i < n →
    (∃ W', W' ≤ W * 10 ^ d ∧ zf_X5_firstWrong_6 ct (nI n) m1 (nI t) (nI row) (nI i) (nI c) = some (-9) ∧ zf_X9_judge_19 mt (nI n) fr m2 (nI t) (nI row) (nI i) (nI c) = some (-9) ∧ zf_X5_weightOf_9 ct (nI n) m3 (nI t) (nI row) (lN W) (nI i) (nI c) = some (lN W') ∧ zf_X9_likely_42 mt (nI n) fr m4 (nI t) (nI row) u (-9) (lN W) (nI i) (nI c) = zf_X9_likely_105 mt (nI n) fr (nI t) u (lN W')) ∨
    (∃ k, k < 9 ∧ zf_X5_firstWrong_6 ct (nI n) m1 (nI t) (nI row) (nI i) (nI c) = some (nI k) ∧ zf_X9_judge_19 mt (nI n) fr m2 (nI t) (nI row) (nI i) (nI c) = some (nI k) ∧ zf_X5_weightOf_9 ct (nI n) m3 (nI t) (nI row) (lN W) (nI i) (nI c) = some (lN 0)) := by
  intro d
  induction d with
  | zero =>
    intro c m1 m2 m3 m4 i W h1 h2 h3 h4 h5 hi
    obtain ⟨q1, rfl⟩ : ∃ q, m1 = q + 1 := ⟨m1 - 1, by omega⟩
    obtain ⟨q2, rfl⟩ : ∃ q, m2 = q + 1 := ⟨m2 - 1, by omega⟩
    obtain ⟨q3, rfl⟩ : ∃ q, m3 = q + 1 := ⟨m3 - 1, by omega⟩
    obtain ⟨q4, rfl⟩ : ∃ q, m4 = q + 1 := ⟨m4 - 1, by omega⟩
    have hle : nI t ≤ nI c := (tn_le (by omega) (by omega)).mpr (by omega)
    refine Or.inl ⟨W, by simp, ?_, ?_, ?_, ?_⟩
    · show zf_X5_firstWrong_6_b _ _ _ _ _ _ _ = _
      unfold zf_X5_firstWrong_6_b
      rw [if_pos hle]
    · show zf_X9_judge_19_b _ _ fr _ _ _ _ _ = _
      unfold zf_X9_judge_19_b
      rw [if_pos hle]
    · show zf_X5_weightOf_9_b _ _ _ _ _ _ _ _ = _
      unfold zf_X5_weightOf_9_b
      rw [if_pos hle]
    · show zf_X9_likely_42_b _ _ fr _ _ _ _ _ _ _ _ = _
      unfold zf_X9_likely_42_b
      rw [if_pos hle]
  | succ d ih =>
    intro c m1 m2 m3 m4 i W h1 h2 h3 h4 h5 hi
    obtain ⟨q1, rfl⟩ : ∃ q, m1 = q + 1 := ⟨m1 - 1, by omega⟩
    obtain ⟨q2, rfl⟩ : ∃ q, m2 = q + 1 := ⟨m2 - 1, by omega⟩
    obtain ⟨q3, rfl⟩ : ∃ q, m3 = q + 1 := ⟨m3 - 1, by omega⟩
    obtain ⟨q4, rfl⟩ : ∃ q, m4 = q + 1 := ⟨m4 - 1, by omega⟩
    have hle : ¬ nI t ≤ nI c := nI_ge (by omega) (by omega)
    have e1 : nI c + (1 : Int32) = nI (c + 1) := nI_1 c
    have ht1 : nI t - (1 : Int32) = nI (t - 1) := pk_sub (a := t) (b := 1) (by omega)
    have hz : ¬ lN (10 ^ (t - 1 - c)) = 0 := fun e => absurd ((tl_zero (py_p10_63 (by omega))).mp e) (by have := py_p10 (t - 1 - c); omega)
    have hdg : (((nI row).toInt64 / lN (10 ^ (t - 1 - c))) - ((nI row).toInt64 / lN (10 ^ (t - 1 - c))) / (10 : Int64) * (10 : Int64)).toInt32 = nI (row / 10 ^ (t - 1 - c) % 10) := by
      rw [tl_i hr, pk_lDiv (by omega) (py_p10 _) (py_p10_63 (by omega)), show (10 : Int64) = lN 10 from rfl, pk_lRem (Nat.lt_of_le_of_lt (Nat.div_le_self _ _) (by omega)) (by decide) (by decide), lN_i]
    have hg : row / 10 ^ (t - 1 - c) % 10 < 10 := Nat.mod_lt _ (by decide)
    have hfig := py_fig (t := t) (row := row) (c := c) ht (by omega) hr
    have hpw : zf_X9_power (10 : Int32) (nI (t - 1) - nI c) = some (lN (10 ^ (t - 1 - c))) := by
      rw [pk_sub (by omega)]; exact tp_m (b := 10) (by decide) (by omega)
    generalize row / 10 ^ (t - 1 - c) % 10 = g at hg hfig hdg
    show (∃ W', W' ≤ W * 10 ^ (d + 1) ∧ zf_X5_firstWrong_6_b _ _ _ _ _ _ _ = _ ∧ zf_X9_judge_19_b _ _ fr _ _ _ _ _ = _ ∧ zf_X5_weightOf_9_b _ _ _ _ _ _ _ _ = _ ∧ zf_X9_likely_42_b _ _ fr _ _ _ _ _ _ _ _ = _) ∨ (∃ k, k < 9 ∧ zf_X5_firstWrong_6_b _ _ _ _ _ _ _ = _ ∧ zf_X9_judge_19_b _ _ fr _ _ _ _ _ = _ ∧ zf_X5_weightOf_9_b _ _ _ _ _ _ _ _ = _)
    unfold zf_X5_firstWrong_6_b zf_X9_judge_19_b zf_X5_weightOf_9_b zf_X9_likely_42_b
    simp only [if_neg hle, hfig, zb, ht1, hpw, if_neg hz, hdg, e1, if_true]
    by_cases hgn : g < n
    · have e8 : (8 : Int32) * nI i + nI g = nI (8 * i + g) := by rw [show (8 : Int32) = nI 8 from rfl, pk_mul, nI_add]
      have hTg := hT i g
      simp only [py_ten h8 hc hi hgn, py_isSeat1 h1n h8 hgn, zb, if_neg zone, e8, if_neg (tn_in' (a := 8 * i + g) (N := 64) (by omega) (by decide)), tn_cl (a := 8 * i + g) (by omega), hm i g (by omega) (by omega)]
      by_cases ht0 : T i g = 0
      · refine Or.inr ⟨c, by omega, ?_, ?_, ?_⟩
        · rw [ht0, if_pos (show nI 0 = 0 from rfl)]
        · rw [ht0, if_pos (show nI 0 = 0 from rfl)]
        · rw [ht0, show lN W * (nI 0).toInt64 = lN 0 from by rw [tl_i (by decide), tl_mul, Nat.mul_zero]]
          exact py_zero_w h8 hc ht hr d (c + 1) q3 _ (by omega) (by omega)
      · have hn0 : ¬ nI (T i g) = 0 := nI_ne0 (by omega) (by omega)
        rw [if_neg hn0, if_neg hn0, tl_i (by omega), tl_mul]
        rcases ih (c + 1) q1 q2 q3 q4 g (W * T i g) (by omega) (by omega) (by omega) (by omega) (by omega) hgn with ⟨W', w0, w1, w2, w3, w4⟩ | ⟨k, k0, k1, k2, k3⟩
        · refine Or.inl ⟨W', ?_, w1, w2, w3, w4⟩
          refine Nat.le_trans w0 ?_
          rw [Nat.pow_succ, Nat.mul_comm (10 ^ d) 10, ← Nat.mul_assoc]
          exact Nat.mul_le_mul_right _ (Nat.mul_le_mul_left _ hTg)
        · exact Or.inr ⟨k, k0, k1, k2, k3⟩
    · have hng : nI g < 0 ∨ nI n ≤ nI g := Or.inr (nI_le (by omega) (by omega))
      simp only [py_ten0 (ct := ct) (x := nI i) h8 (Or.inr hng), py_isSeat0 h1n h8 hng, zb, if_true]
      refine Or.inr ⟨c, by omega, rfl, rfl, ?_⟩
      rw [show lN W * Int32.toInt64 0 = lN 0 from Int64.mul_zero]
      exact py_zero_w h8 hc ht hr d (c + 1) q3 _ (by omega) (by omega)
end PYW
section PYW2
variable {n kd pn b h sc : Nat} {T : Nat → Nat → Nat} {hs st ss : Nat → Nat} {sd : Int64}
variable {ct mt xh xt xs ma mw mt' ms' : Nat → Int32} {cs ck cp ms mk mr x0 x1 x2 x3 x4 mp mf mh mn mc : Int32} {x5 md : Int64}
theorem po_judge (hN : py_RN n T kd pn ct cs ck cp mt ms mk mr) (hG : py_RG n b h hs sc st ss sd xh xt xs x0 x1 x2 x3 x4 x5 mp mf mh mn ma mw mc mt' ms' md) (p0 p1 : Int32) : ∃ r, zf_X8_judge p0 p1 ct cs x0 = some r ∧ zf_X9_judge p0 p1 mt ms mf = some r := by
  obtain ⟨h2, h8, -, -, rfl, rfl, -, -, -, -, hc, hm, hz, hr, -⟩ := hN
  obtain ⟨hb, -, -, -, -, -, -, -, -, -, -, -, rfl, -, -, -, -, -, -, rfl, -, -, -, -⟩ := hG
  unfold zf_X8_judge zf_X9_judge zf_X5_firstWrong
  rcases py_isRow p0 p1 with ⟨t, row, ht1, ht9, hrow, hrow31, rfl, rfl, g1, g2⟩ | ⟨g1, g2⟩
  · rw [g1, g2]
    simp only [zb, if_neg zone, if_true]
    rcases py_jl h8 (by omega) hc hm (py_RN_le hz hr) ht9 hrow31 (nI b) 0 t 0 zfuel zfuel zfuel zfuel b 1 (by omega) (by unfold zfuel; omega) (by unfold zfuel; omega) (by unfold zfuel; omega) (by unfold zfuel; omega) hb with ⟨W', w0, w1, w2, -, -⟩ | ⟨k, k0, k1, k2, -⟩
    · refine ⟨-9, ?_, w2⟩
      rw [show zf_X5_firstWrong_6 ct (nI n) zfuel (nI t) (nI row) (nI b) 0 = _ from w1]
      rfl
    · refine ⟨nI k, ?_, k2⟩
      rw [show zf_X5_firstWrong_6 ct (nI n) zfuel (nI t) (nI row) (nI b) 0 = _ from k1]
      rfl
  · rw [g1, g2]
    exact ⟨_, rfl, rfl⟩
theorem po_likely (hN : py_RN n T kd pn ct cs ck cp mt ms mk mr) (hG : py_RG n b h hs sc st ss sd xh xt xs x0 x1 x2 x3 x4 x5 mp mf mh mn ma mw mc mt' ms' md) (p0 p1 u : Int32) : ∃ r, zf_X8_likely p0 p1 u ct cs x0 = some r ∧ zf_X9_likely p0 p1 u mt ms mf = some r := by
  obtain ⟨h2, h8, -, -, rfl, rfl, -, -, -, -, hc, hm, hz, hr, -⟩ := hN
  obtain ⟨hb, -, -, -, -, -, -, -, -, -, -, -, rfl, -, -, -, -, -, -, rfl, -, -, -, -⟩ := hG
  unfold zf_X8_likely zf_X9_likely zf_X9_judge zf_X5_weightOf zf_X9_likely_31
  rcases py_isRow p0 p1 with ⟨t, row, ht1, ht9, hrow, hrow31, rfl, rfl, g1, g2⟩ | ⟨g1, g2⟩
  · rw [g1, g2]
    simp only [zb, if_neg zone, if_true]
    have h10 : 10 ^ t < 2 ^ 63 := py_p10_63 (by omega)
    have hpc : zf_X8_power (10 : Int64) (nI t) = some (lN (10 ^ t)) := tp_c (B := 10) (by omega)
    have hpm : zf_X9_power (10 : Int32) (nI t) = some (lN (10 ^ t)) := tp_m (b := 10) (by decide) (by omega)
    rcases py_jl h8 (by omega) hc hm (py_RN_le hz hr) ht9 hrow31 (nI b) u t 0 zfuel zfuel zfuel zfuel b 1 (by omega) (by unfold zfuel; omega) (by unfold zfuel; omega) (by unfold zfuel; omega) (by unfold zfuel; omega) hb with ⟨W', w0, w1, w2, w3, w4⟩ | ⟨k, k0, k1, k2, k3⟩
    · rw [show zf_X9_judge_19 mt (nI n) (nI b) zfuel (nI t) (nI row) (nI b) 0 = _ from w2, show zf_X5_weightOf_9 ct (nI n) zfuel (nI t) (nI row) 1 (nI b) 0 = _ from w3, hpc]
      simp only [zb]
      rw [if_neg (by decide), if_pos trivial, show zf_X9_likely_42 mt (nI n) (nI b) zfuel (nI t) (nI row) u (-9) 1 (nI b) 0 = _ from w4]
      unfold zf_X9_likely_105
      rw [hpm]
      simp only [zb]
      rw [py_frC u (by omega) (py_p10 t) h10, py_frM u (by omega) (py_p10 t) h10]
      exact ⟨_, rfl, rfl⟩
    · rw [show zf_X9_judge_19 mt (nI n) (nI b) zfuel (nI t) (nI row) (nI b) 0 = _ from k2, show zf_X5_weightOf_9 ct (nI n) zfuel (nI t) (nI row) 1 (nI b) 0 = _ from k3, hpc]
      simp only [zb]
      have hk9 : ¬ nI k = (-9 : Int32) := py_m9 (by omega)
      have hk2 : ¬ nI k = (-2 : Int32) := fun e => by
        have h1 : ¬ nI k < 0 := tn_n0 (by omega)
        rw [e] at h1
        exact h1 (by decide)
      rw [if_neg hk2, if_neg hk9]
      obtain ⟨q, hq⟩ : ∃ q, zfuel = q + 1 := ⟨2999, rfl⟩
      have : zf_X9_likely_42 mt (nI n) (nI b) zfuel (nI t) (nI row) u (nI k) 0 (nI b) 0 = zf_X9_likely_105 mt (nI n) (nI b) (nI t) u 0 := by
        rw [hq]
        show zf_X9_likely_42_b _ _ (nI b) _ _ _ _ _ _ _ _ = _
        unfold zf_X9_likely_42_b
        rw [if_neg hk9]
        by_cases hh : nI t ≤ 0
        · rw [if_pos hh]
        · rw [if_neg hh]
      rw [this]
      unfold zf_X9_likely_105
      rw [hpm]
      simp only [zb]
      rw [show (0 : Int64) = lN 0 from rfl, py_frC u (by decide) (py_p10 t) h10, py_frM u (by decide) (py_p10 t) h10]
      exact ⟨_, rfl, rfl⟩
  · rw [g1, g2]
    exact ⟨_, rfl, rfl⟩
end PYW2
