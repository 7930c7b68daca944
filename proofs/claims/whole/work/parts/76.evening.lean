/-! ===== evenings by the seed ===== -/
theorem py_digit (x : Int64) : ∃ d : Nat, d < 10 ∧ (((x).toUInt64 >>> (((33 : Int32)).toInt64.toUInt64 &&& Int64.toUInt64 63)).toInt64 - ((x).toUInt64 >>> (((33 : Int32)).toInt64.toUInt64 &&& Int64.toUInt64 63)).toInt64 / (10 : Int64) * (10 : Int64)).toInt32 = nI d := by
  obtain ⟨N, hN, rfl⟩ := wb_of x
  have e1 : ((lN N).toUInt64 >>> (((33 : Int32)).toInt64.toUInt64 &&& Int64.toUInt64 63)).toInt64 = lN (N / 2 ^ 33) := wb_shr (k := 33) hN (by decide)
  have hd : N / 2 ^ 33 < 2 ^ 63 := Nat.lt_of_le_of_lt (Nat.div_le_div_right (Nat.le_of_lt hN)) (by decide)
  refine ⟨N / 2 ^ 33 % 10, Nat.mod_lt _ (by decide), ?_⟩
  rw [e1, show (10 : Int64) = lN 10 from rfl, pk_lRem hd (by decide) (by decide), lN_i]
section PYE
variable {n : Nat} {T : Nat → Nat → Nat} {ct mt : Nat → Int32}
theorem py_draw (h8 : n ≤ 8) (hc : ∀ i j, i < 8 → j < 8 → ct (8 * i + j) = nI (T i j)) (hm : ∀ i j, i < 8 → j < 8 → mt (8 * i + j) = nI (T i j)) (hT : ∀ i j, T i j ≤ 10) {i : Nat} (hi : i < n) (sd : Int64) :
    ∀ (d s m m' l : Nat), s + d = n → d < m → d < m' → l < 10 → fb_sm (T i) s + l < fb_sm (T i) n → ∃ k, k < n ∧ zf_X1_drawnSeat_6 ct (nI n) m (nI i) (nI l) (nI s) = some (nI k) ∧ zf_X9_drawn_47 mt m' sd (nI i) (nI l) (nI s) = some (nI k, sd) := by
  intro d
  induction d with
  | zero =>
    intro s m m' l h1 h2 h3 h4 h5
    have : s = n := by omega
    subst this
    omega
  | succ d ih =>
    intro s m m' l h1 h2 h3 h4 h5
    obtain ⟨q, rfl⟩ : ∃ q, m = q + 1 := ⟨m - 1, by omega⟩
    obtain ⟨q', rfl⟩ : ∃ q, m' = q + 1 := ⟨m' - 1, by omega⟩
    have hTs := hT i s
    have e8 : (8 : Int32) * nI i + nI s = nI (8 * i + s) := by rw [show (8 : Int32) = nI 8 from rfl, pk_mul, nI_add]
    show ∃ k, k < n ∧ zf_X1_drawnSeat_6_b _ _ _ _ _ _ = _ ∧ zf_X9_drawn_47_b _ _ _ _ _ _ = _
    unfold zf_X1_drawnSeat_6_b zf_X9_drawn_47_b
    rw [if_neg (nI_ge (a := s) (b := n) (by omega) (by omega)), py_ten h8 hc hi (by omega), e8, if_neg (tn_in (a := 8 * i + s) (N := 64) (by omega) (by decide)), tn_cl (a := 8 * i + s) (by omega), hm i s (by omega) (by omega), show nI s + (1 : Int32) = nI (s + 1) from nI_1 s]
    simp only [zb]
    by_cases hl : T i s ≤ l
    · rw [pk_sub hl, if_pos (tn_p0 (by omega)), if_neg (nI_nlt (by omega) (by omega))]
      exact ih (s + 1) q q' (l - T i s) (by omega) (by omega) (by omega) (by omega) (by rw [fb_sm_succ]; omega)
    · have hneg : nI l - nI (T i s) < 0 := pk_sneg (by omega) (by omega)
      rw [if_neg (fun z => absurd hneg (Int32.not_lt.mpr z)), if_pos (nI_lt (by omega) (by omega))]
      exact ⟨s, by omega, rfl, rfl⟩
theorem py_stay (h8 : n ≤ 8) (hm : ∀ i j, i < 8 → j < 8 → mt (8 * i + j) = nI (T i j)) {i : Nat} (hi : i < n) (hii : T i i = 10) {H : Nat} (hH : H < 2 ^ n) (hne : ¬ H = 2 ^ n - 1) (hb : H ||| 2 ^ i = H) (fr : Int32) (sd : Int64) :
    ∀ (d c m : Nat), c + d = 201 → d < m → zf_X9_goOut_14 mt (nI n) fr m sd (nI i) (nI H) (nI c) = some (-9, sd) := by
  have hp8 := py_pow8 h8
  intro d
  induction d with
  | zero =>
    intro c m h1 h2
    obtain ⟨q, rfl⟩ : ∃ q, m = q + 1 := ⟨m - 1, by omega⟩
    show zf_X9_goOut_14_b _ _ fr _ _ _ _ _ = _
    unfold zf_X9_goOut_14_b
    rw [if_pos (show (200 : Int32) < nI c from nI_lt (a := 200) (b := c) (by omega) (by omega))]
  | succ d ih =>
    intro c m h1 h2
    obtain ⟨q, rfl⟩ : ∃ q, m = q + 1 := ⟨m - 1, by omega⟩
    show zf_X9_goOut_14_b _ _ fr _ _ _ _ _ = _
    unfold zf_X9_goOut_14_b zf_X9_drawn
    rw [if_neg (show ¬ (200 : Int32) < nI c from nI_nlt (a := 200) (b := c) (by omega) (by omega)), show (9 : Int32) * nI i = nI (8 * i + i) from by rw [show (9 : Int32) = nI 9 from rfl, pk_mul]; congr 1; omega, if_neg (tn_in (a := 8 * i + i) (N := 64) (by omega) (by decide)), tn_cl (a := 8 * i + i) (by omega), hm i i (by omega) (by omega), hii, if_pos (show nI 10 = (10 : Int32) from rfl)]
    simp only [zb]
    rw [tb_sh i (by omega), fa_or, hb, py_all h8, if_neg (fun z => hne ((tn_eq (by omega) (by omega)).mp z)), show nI c + (1 : Int32) = nI (c + 1) from nI_1 c]
    exact ih (c + 1) q (by omega) (by omega)
theorem py_even (h8 : n ≤ 8) (hc : ∀ i j, i < 8 → j < 8 → ct (8 * i + j) = nI (T i j)) (hm : ∀ i j, i < 8 → j < 8 → mt (8 * i + j) = nI (T i j)) (hT : ∀ i j, T i j ≤ 10) (hr : ∀ i, i < n → fb_sm (T i) n = 10) (hs : ∀ i, i < n → T i i = 0 ∨ T i i = 10) (f1 f2 : Int32) :
    ∀ (d c m m' i H : Nat) (sd : Int64), c + d = 201 → d < m → d < m' → i < n → H < 2 ^ n → ¬ H = 2 ^ n - 1 → H ||| 2 ^ i = H → ∃ (r : Int32) (sd' : Int64), zf_X1_drawOne_13 ct (nI n) f1 m sd (nI i) (nI H) (nI c) = some (r, sd') ∧ zf_X9_goOut_14 mt (nI n) f2 m' sd (nI i) (nI H) (nI c) = some (r, sd') := by
  have hp8 := py_pow8 h8
  intro d
  induction d with
  | zero =>
    intro c m m' i H sd h1 h2 h3 hi hH hne hb
    obtain ⟨q, rfl⟩ : ∃ q, m = q + 1 := ⟨m - 1, by omega⟩
    obtain ⟨q', rfl⟩ : ∃ q, m' = q + 1 := ⟨m' - 1, by omega⟩
    refine ⟨-9, sd, ?_, ?_⟩
    · show zf_X1_drawOne_13_b _ _ f1 _ _ _ _ _ = _
      unfold zf_X1_drawOne_13_b
      rw [if_pos (show (200 : Int32) < nI c from nI_lt (a := 200) (b := c) (by omega) (by omega))]
    · show zf_X9_goOut_14_b _ _ f2 _ _ _ _ _ = _
      unfold zf_X9_goOut_14_b
      rw [if_pos (show (200 : Int32) < nI c from nI_lt (a := 200) (b := c) (by omega) (by omega))]
  | succ d ih =>
    intro c m m' i H sd h1 h2 h3 hi hH hne hb
    rcases hs i hi with hii | hii
    · obtain ⟨q, rfl⟩ : ∃ q, m = q + 1 := ⟨m - 1, by omega⟩
      obtain ⟨q', rfl⟩ : ∃ q, m' = q + 1 := ⟨m' - 1, by omega⟩
      obtain ⟨g, hg, eg⟩ := py_digit (sd * 6364136223846793005 + 1442695040888963407)
      obtain ⟨k, hk, k1, k2⟩ := py_draw h8 hc hm hT hi (sd * 6364136223846793005 + 1442695040888963407) n 0 zfuel zfuel g (by omega) (by unfold zfuel; omega) (by unfold zfuel; omega) hg (by rw [hr i hi]; show 0 + g < 10; omega)
      show ∃ (r : Int32) (sd' : Int64), zf_X1_drawOne_13_b _ _ f1 _ _ _ _ _ = _ ∧ zf_X9_goOut_14_b _ _ f2 _ _ _ _ _ = _
      unfold zf_X1_drawOne_13_b zf_X9_goOut_14_b zf_X9_drawn zf_X3_stays zf_X1_drawnSeat
      rw [if_neg (show ¬ (200 : Int32) < nI c from nI_nlt (a := 200) (b := c) (by omega) (by omega)), if_neg (show ¬ (200 : Int32) < nI c from nI_nlt (a := 200) (b := c) (by omega) (by omega)), py_ten h8 hc hi hi, show (9 : Int32) * nI i = nI (8 * i + i) from by rw [show (9 : Int32) = nI 9 from rfl, pk_mul]; congr 1; omega, if_neg (tn_in (a := 8 * i + i) (N := 64) (by omega) (by decide)), tn_cl (a := 8 * i + i) (by omega), hm i i (by omega) (by omega), hii, if_neg (show ¬ nI 0 = (10 : Int32) by decide), eg,
        show zf_X1_drawnSeat_6 ct (nI n) zfuel (nI i) (nI g) 0 = _ from k1, show zf_X9_drawn_47 mt zfuel _ (nI i) (nI g) 0 = _ from k2, py_allBits h8]
      simp only [zb, if_pos (show nI 0 ≤ 0 by decide)]
      rw [tb_sh k (by omega), fa_or, py_all h8, show nI c + (1 : Int32) = nI (c + 1) from nI_1 c]
      by_cases hA : H ||| 2 ^ k = 2 ^ n - 1
      · rw [if_pos trivial, if_pos (by rw [hA]), if_pos (by rw [hA]), show nI c * (10 : Int32) + nI k = (10 : Int32) * nI c + nI k from by rw [Int32.mul_comm]]
        exact ⟨_, _, rfl, rfl⟩
      · have hA' : ¬ nI (H ||| 2 ^ k) = nI (2 ^ n - 1) := fun z => hA ((tn_eq (by have := Nat.or_lt_two_pow hH (Nat.pow_lt_pow_right (a := 2) (by decide) hk); omega) (by omega)).mp z)
        rw [if_pos trivial, if_neg hA', if_neg hA']
        exact ih (c + 1) q q' k (H ||| 2 ^ k) _ (by omega) (by omega) (by omega) hk (Nat.or_lt_two_pow hH (Nat.pow_lt_pow_right (by decide) hk)) hA (by rw [Nat.or_assoc, Nat.or_self])
    · obtain ⟨q, rfl⟩ : ∃ q, m = q + 1 := ⟨m - 1, by omega⟩
      refine ⟨-9, sd, ?_, py_stay h8 hm hi hii hH hne hb f2 sd (d + 1) c m' h1 h3⟩
      show zf_X1_drawOne_13_b _ _ f1 _ _ _ _ _ = _
      unfold zf_X1_drawOne_13_b zf_X3_stays
      rw [if_neg (show ¬ (200 : Int32) < nI c from nI_nlt (a := 200) (b := c) (by omega) (by omega)), py_ten h8 hc hi hi, hii]
      simp only [zb, if_neg (show ¬ nI 10 ≤ 0 by decide)]
      rw [if_neg zone]
theorem py_go (h8 : n ≤ 8) (h2 : 2 ≤ n) (hc : ∀ i j, i < 8 → j < 8 → ct (8 * i + j) = nI (T i j)) (hm : ∀ i j, i < 8 → j < 8 → mt (8 * i + j) = nI (T i j)) (hT : ∀ i j, T i j ≤ 10) (hr : ∀ i, i < n → fb_sm (T i) n = 10) (hs : ∀ i, i < n → T i i = 0 ∨ T i i = 10) {b : Nat} (hb : b < n) (sd : Int64) :
    ∃ (r : Int32) (sd' : Int64), zf_X1_drawOne ct (nI n) (nI b) sd = some (r, sd') ∧ zf_X9_goOut mt (nI n) (nI b) sd = some (r, sd') := by
  unfold zf_X1_drawOne zf_X9_goOut
  rw [tb_sh b (by omega)]
  exact py_even h8 hc hm hT hr hs (nI b) (nI b) 200 1 zfuel zfuel b (2 ^ b) sd (by omega) (by unfold zfuel; omega) (by unfold zfuel; omega) hb (Nat.pow_lt_pow_right (by decide) hb) (py_pow_ne hb h2) (Nat.or_self _)
theorem py_uncle (h8 : n ≤ 8) (h2 : 2 ≤ n) (hc : ∀ i j, i < 8 → j < 8 → ct (8 * i + j) = nI (T i j)) (hm : ∀ i j, i < 8 → j < 8 → mt (8 * i + j) = nI (T i j)) (hT : ∀ i j, T i j ≤ 10) (hr : ∀ i, i < n → fb_sm (T i) n = 10) (hs : ∀ i, i < n → T i i = 0 ∨ T i i = 10) {b : Nat} (hb : b < n) (t : Nat) (ht : t ≤ 30) (v2 : Int32) :
    ∀ (d c m m' : Nat) (v3 : Int32) (sd : Int64), c + d = t → d < m → d < m' → ∃ (r : Int32) (sd' : Int64), zf_X8_uncle_32 ct (nI n) (nI b) m sd (nI t) v2 v3 (nI c) = some (r, sd') ∧ zf_X9_uncle_30 mt (nI n) (nI b) m' sd (nI t) v2 v3 (nI c) = some (r, sd') := by
  intro d
  induction d with
  | zero =>
    intro c m m' v3 sd h1 h3 h4
    obtain ⟨q, rfl⟩ : ∃ q, m = q + 1 := ⟨m - 1, by omega⟩
    obtain ⟨q', rfl⟩ : ∃ q, m' = q + 1 := ⟨m' - 1, by omega⟩
    refine ⟨v3, sd, ?_, ?_⟩
    · show zf_X8_uncle_32_b _ _ _ _ _ _ _ _ _ = _
      unfold zf_X8_uncle_32_b
      rw [if_pos ((tn_le (by omega) (by omega)).mpr (by omega))]
    · show zf_X9_uncle_30_b _ _ _ _ _ _ _ _ _ = _
      unfold zf_X9_uncle_30_b
      rw [if_pos ((tn_le (by omega) (by omega)).mpr (by omega))]
  | succ d ih =>
    intro c m m' v3 sd h1 h3 h4
    obtain ⟨q, rfl⟩ : ∃ q, m = q + 1 := ⟨m - 1, by omega⟩
    obtain ⟨q', rfl⟩ : ∃ q, m' = q + 1 := ⟨m' - 1, by omega⟩
    obtain ⟨r, sd', g1, g2⟩ := py_go h8 h2 hc hm hT hr hs hb sd
    show ∃ (r : Int32) (sd' : Int64), zf_X8_uncle_32_b _ _ _ _ _ _ _ _ _ = _ ∧ zf_X9_uncle_30_b _ _ _ _ _ _ _ _ _ = _
    unfold zf_X8_uncle_32_b zf_X9_uncle_30_b zf_X8_uncle_74 zf_X9_uncle_63 zf_X9_uncle_64
    rw [if_neg (nI_ge (a := c) (b := t) (by omega) (by omega)), if_neg (nI_ge (a := c) (b := t) (by omega) (by omega)), g1, g2, show nI c + (1 : Int32) = nI (c + 1) from nI_1 c]
    simp only [zb]
    by_cases h9 : r = -9
    · rw [if_pos h9, if_pos h9, Int32.add_zero]
      exact ih (c + 1) q q' v3 sd' (by omega) (by omega) (by omega)
    · rw [if_neg h9, if_neg h9]
      by_cases he : r - r / 10 * 10 = v2
      · rw [if_pos he, if_pos he]
        exact ih (c + 1) q q' (v3 + 1) sd' (by omega) (by omega) (by omega)
      · rw [if_neg he, if_neg he, Int32.add_zero]
        exact ih (c + 1) q q' v3 sd' (by omega) (by omega) (by omega)
end PYE
section PYE2
variable {n kd pn b h sc : Nat} {T : Nat → Nat → Nat} {hs st ss : Nat → Nat} {sd : Int64}
variable {ct mt xh xt xs ma mw mt' ms' : Nat → Int32} {cs ck cp ms mk mr x0 x1 x2 x3 x4 mp mf mh mn mc : Int32} {x5 md : Int64}
theorem po_evening (hN : py_RN n T kd pn ct cs ck cp mt ms mk mr) (hG : py_RG n b h hs sc st ss sd xh xt xs x0 x1 x2 x3 x4 x5 mp mf mh mn ma mw mc mt' ms' md) :
    ∃ r a0, zf_X8_evening ct cs x0 x5 = some (r, a0) ∧ zf_X9_evening mt ms mf md = some (r, a0) ∧ py_RG n b h hs sc st ss a0 xh xt xs x0 x1 x2 x3 x4 a0 mp mf mh mn ma mw mc mt' ms' a0 := by
  obtain ⟨h2, h8, -, -, rfl, rfl, -, -, -, -, hc, hm, hz, hr, hd⟩ := hN
  obtain ⟨hb, hh, hsc, hhs, hst, hxh, hma, hmw, hxt, hxs, hmt, hms, rfl, rfl, rfl, rfl, rfl, rfl, rfl, rfl, rfl, rfl, rfl, rfl⟩ := hG
  obtain ⟨r, sd', g1, g2⟩ := py_go h8 h2 hc hm (py_RN_le hz hr) hr hd hb md
  unfold zf_X8_evening zf_X9_evening
  rw [g1, g2]
  exact ⟨r, sd', rfl, rfl, hb, hh, hsc, hhs, hst, hxh, hma, hmw, hxt, hxs, hmt, hms, rfl, rfl, rfl, rfl, rfl, rfl, rfl, rfl, rfl, rfl, rfl, rfl⟩
theorem po_uncle (hN : py_RN n T kd pn ct cs ck cp mt ms mk mr) (hG : py_RG n b h hs sc st ss sd xh xt xs x0 x1 x2 x3 x4 x5 mp mf mh mn ma mw mc mt' ms' md) (p0 p1 : Int32) :
    ∃ r a0, zf_X8_uncle p0 p1 ct cs x0 x5 = some (r, a0) ∧ zf_X9_uncle p0 p1 mt ms mf md = some (r, a0) ∧ py_RG n b h hs sc st ss a0 xh xt xs x0 x1 x2 x3 x4 a0 mp mf mh mn ma mw mc mt' ms' a0 := by
  obtain ⟨h2, h8, -, -, rfl, rfl, -, -, -, -, hc, hm, hz, hr, hd⟩ := hN
  obtain ⟨hb, hh, hsc, hhs, hst, hxh, hma, hmw, hxt, hxs, hmt, hms, rfl, rfl, rfl, rfl, rfl, rfl, rfl, rfl, rfl, rfl, rfl, rfl⟩ := hG
  have K : ∀ r a0, zf_X8_uncle p0 p1 ct (nI n) (nI b) md = some (r, a0) → zf_X9_uncle p0 p1 mt (nI n) (nI b) md = some (r, a0) → ∃ r a0, zf_X8_uncle p0 p1 ct (nI n) (nI b) md = some (r, a0) ∧ zf_X9_uncle p0 p1 mt (nI n) (nI b) md = some (r, a0) ∧ py_RG n b h hs sc st ss a0 xh xt xs (nI b) (nI (py_pl b hs h)) (nI (py_hd b hs h)) (nI h) (nI sc) a0 (nI (py_pl b hs h)) (nI b) (nI (py_hd b hs h)) (nI h) ma mw (nI sc) mt' ms' a0 :=
    fun r a0 g1 g2 => ⟨r, a0, g1, g2, hb, hh, hsc, hhs, hst, hxh, hma, hmw, hxt, hxs, hmt, hms, rfl, rfl, rfl, rfl, rfl, rfl, rfl, rfl, rfl, rfl, rfl, rfl⟩
  have K2 : ∃ r a0, zf_X8_uncle p0 p1 ct (nI n) (nI b) md = some (r, a0) ∧ zf_X9_uncle p0 p1 mt (nI n) (nI b) md = some (r, a0) := by
    unfold zf_X8_uncle zf_X9_uncle
    rcases tn_seat p1 (n := n) (by omega) with ⟨j, hj, rfl⟩ | h0
    · rw [py_has1 h8 hj, py_isSeat1 (by omega) h8 hj, py_rng (lo := 1) (hi := 30) (lo' := 1) (hi' := 30) (by decide) (by decide)]
      simp only [zb, if_neg zone]
      by_cases hp : p0 < 1
      · rw [if_pos hp, if_pos (Or.inl hp), if_pos rfl]
        exact ⟨_, _, rfl, rfl⟩
      · rw [if_neg hp]
        by_cases hp9 : p0 ≤ 30
        · rw [if_pos hp9, if_neg (show ¬ (p0 < 1 ∨ 30 < p0) from fun q => q.elim hp (fun q => absurd hp9 (Int32.not_le.mpr q))), if_neg zone]
          obtain ⟨t, ht, rfl⟩ := nI_of2 (x := p0) (M := 30) (n := 30) (by decide) (fun q => hp (by rw [fa_lt] at q ⊢; have : (0 : Int32).toInt = 0 := rfl; have : (1 : Int32).toInt = 1 := rfl; omega)) hp9
          exact py_uncle h8 h2 hc hm (py_RN_le hz hr) hr hd hb t ht (nI j) t 0 zfuel zfuel 0 md (by omega) (by unfold zfuel; omega) (by unfold zfuel; omega)
        · rw [if_neg hp9, if_pos (Or.inr (py_nle hp9)), if_pos rfl]
          exact ⟨_, _, rfl, rfl⟩
    · rw [py_has0 h0, py_isSeat0 (by omega) h8 h0]
      exact ⟨_, _, rfl, rfl⟩
  obtain ⟨r, a0, g1, g2⟩ := K2
  exact K r a0 g1 g2
end PYE2
