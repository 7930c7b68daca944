/-! ===== the rule ===== -/
theorem py_all {n : Nat} (hn : n ≤ 8) : ((1 : Int32) <<< (nI n &&& 31)) - (1 : Int32) = nI (2 ^ n - 1) := by
  rw [tb_sh n (by omega)]
  exact pk_sub (a := 2 ^ n) (b := 1) (Nat.one_le_two_pow)
theorem py_allBits {n : Nat} (hn : n ≤ 8) : zf_X3_allBits (nI n) = some (nI (2 ^ n - 1)) := by
  unfold zf_X3_allBits
  rw [py_all hn]
theorem py_m9 {k : Nat} (hk : k < 100) : ¬ nI k = (-9 : Int32) := by
  intro e
  have h1 : ¬ nI k < 0 := tn_n0 (by omega)
  rw [e] at h1
  exact h1 (by decide)
theorem py_z0 {t : Nat} (ht : t < 2 ^ 31) : (nI t ≤ 0) ↔ t = 0 := by
  rw [show (0 : Int32) = nI 0 from rfl, tn_le ht (by decide)]
  omega
section PYR
variable {n : Nat} {T : Nat → Nat → Nat} {ct mt : Nat → Int32}
theorem py_least (h8 : n ≤ 8) (hc : ∀ i j, i < 8 → j < 8 → ct (8 * i + j) = nI (T i j)) (hm : ∀ i j, i < 8 → j < 8 → mt (8 * i + j) = nI (T i j)) (hT : ∀ i j, T i j ≤ 10) {i : Nat} (hi : i < n) {ta tb : Nat → Int32} (hab : ∀ k, k < 8 → ta k = tb k) (fr : Int32) (K : (Nat → Int32) → Int32 → Int32 → Int32 → Option (Int32 × (Nat → Int32))) (st cnt : Int32) :
    ∀ (d s m m' : Nat) (v : Int32), s + d = n → d < m → d < m' → (v = -9 ∨ ∃ k, k < n ∧ v = nI k) → ∃ B : Int32, zf_X1_leastHad_6 ta ct (nI n) m (nI i) v (nI s) = some B ∧
      zf_X9_rule_72 mt (nI n) fr K m' tb (nI i) st cnt v (nI s) = (if B < 0 ∨ 8 ≤ B.toNatClampNeg then none else K (upd tb B.toNatClampNeg (tb B.toNatClampNeg + 1)) B (st ||| (1 <<< (B &&& 31))) (cnt + 1)) ∧ ((B = -9 ∧ v = -9 ∧ ∀ j, s ≤ j → j < n → T i j = 0) ∨ ∃ k, k < n ∧ B = nI k) := by
  intro d
  induction d with
  | zero =>
    intro s m m' v h1 h2 h3 hv
    obtain ⟨q, rfl⟩ : ∃ q, m = q + 1 := ⟨m - 1, by omega⟩
    obtain ⟨q', rfl⟩ : ∃ q, m' = q + 1 := ⟨m' - 1, by omega⟩
    refine ⟨v, ?_, ?_, ?_⟩
    · show zf_X1_leastHad_6_b _ _ _ _ _ _ _ = _
      unfold zf_X1_leastHad_6_b
      rw [if_pos ((tn_le (by omega) (by omega)).mpr (by omega))]
    · show zf_X9_rule_72_b _ _ _ _ _ _ _ _ _ _ _ = _
      unfold zf_X9_rule_72_b
      rw [if_pos ((tn_le (by omega) (by omega)).mpr (by omega))]
    · rcases hv with hv | hv
      · exact Or.inl ⟨hv, hv, fun j h5 h6 => absurd h6 (by omega)⟩
      · exact Or.inr hv
  | succ d ih =>
    intro s m m' v h1 h2 h3 hv
    obtain ⟨q, rfl⟩ : ∃ q, m = q + 1 := ⟨m - 1, by omega⟩
    obtain ⟨q', rfl⟩ : ∃ q, m' = q + 1 := ⟨m' - 1, by omega⟩
    have hTs := hT i s
    have g1 : ¬ nI n ≤ nI s := nI_ge (by omega) (by omega)
    have g2 : ¬ (8 : Int32) ≤ nI s := nI_ge (a := s) (b := 8) (by omega) (by decide)
    have e8 : (8 : Int32) * nI i + nI s = nI (8 * i + s) := by rw [show (8 : Int32) = nI 8 from rfl, pk_mul, nI_add]
    have e1 : nI s + (1 : Int32) = nI (s + 1) := nI_1 s
    have A : ∀ w : Int32, (w = -9 ∨ ∃ k, k < n ∧ w = nI k) → (w = -9 → v = -9 ∧ T i s = 0) → (∃ B : Int32, zf_X1_leastHad_6 ta ct (nI n) q (nI i) w (nI (s + 1)) = some B ∧
      zf_X9_rule_72 mt (nI n) fr K q' tb (nI i) st cnt w (nI (s + 1)) = (if B < 0 ∨ 8 ≤ B.toNatClampNeg then none else K (upd tb B.toNatClampNeg (tb B.toNatClampNeg + 1)) B (st ||| (1 <<< (B &&& 31))) (cnt + 1)) ∧ ((B = -9 ∧ v = -9 ∧ ∀ j, s ≤ j → j < n → T i j = 0) ∨ ∃ k, k < n ∧ B = nI k)) := by
      intro w hw hw2
      obtain ⟨B, b1, b2, b3⟩ := ih (s + 1) q q' w (by omega) (by omega) (by omega) hw
      refine ⟨B, b1, b2, ?_⟩
      rcases b3 with ⟨b3, b4, b5⟩ | b3
      · obtain ⟨w1, w2⟩ := hw2 b4
        refine Or.inl ⟨b3, w1, fun j h5 h6 => ?_⟩
        by_cases e : j = s
        · rw [e]; exact w2
        · exact b5 j (by omega) h6
      · exact Or.inr b3
    show ∃ B : Int32, zf_X1_leastHad_6_b _ _ _ _ _ _ _ = some B ∧ zf_X9_rule_72_b _ _ _ _ _ _ _ _ _ _ _ = _ ∧ _
    unfold zf_X1_leastHad_6_b zf_X9_rule_72_b zf_X1_leastHad_52 zf_X1_leastHad_55 zf_X9_rule_125 zf_X9_rule_120 zf_X9_rule_127
    rw [if_neg g1, if_neg g1, if_neg g2, py_ten h8 hc hi (by omega), e8, if_neg (tn_in (a := 8 * i + s) (N := 64) (by omega) (by decide)), tn_cl (a := 8 * i + s) (by omega), hm i s (by omega) (by omega), e1]
    simp only [zb]
    by_cases hz : T i s = 0
    · rw [if_pos ((py_z0 (by omega)).mpr hz), if_pos ((py_z0 (by omega)).mpr hz)]
      exact A v hv (fun e => ⟨e, hz⟩)
    · rw [if_neg (fun z => hz ((py_z0 (by omega)).mp z)), if_neg (fun z => hz ((py_z0 (by omega)).mp z))]
      rcases hv with rfl | ⟨k, hk, rfl⟩
      · rw [if_pos (by decide), if_pos rfl]
        exact A (nI s) (Or.inr ⟨s, by omega, rfl⟩) (fun e => absurd e (py_m9 (by omega)))
      · rw [if_neg (tn_n0 (by omega)), if_neg (py_m9 (by omega)), if_neg (tn_in (a := s) (N := 8) (by omega) (by decide)), if_neg (tn_in (a := k) (N := 8) (by omega) (by decide)), if_neg (tn_in (a := s) (N := 8) (by omega) (by decide)), if_neg (tn_in (a := k) (N := 8) (by omega) (by decide)), tn_cl (a := k) (by omega), tn_cl (a := s) (by omega), hab k (by omega), hab s (by omega)]
        by_cases hl : tb k ≤ tb s
        · rw [if_pos hl, if_pos hl]
          exact A (nI k) (Or.inr ⟨k, hk, rfl⟩) (fun e => absurd e (py_m9 (by omega)))
        · rw [if_neg hl, if_neg hl]
          exact A (nI s) (Or.inr ⟨s, by omega, rfl⟩) (fun e => absurd e (py_m9 (by omega)))
theorem py_rule (h8 : n ≤ 8) (hc : ∀ i j, i < 8 → j < 8 → ct (8 * i + j) = nI (T i j)) (hm : ∀ i j, i < 8 → j < 8 → mt (8 * i + j) = nI (T i j)) (hT : ∀ i j, T i j ≤ 10) (hr : ∀ i, i < n → fb_sm (T i) n = 10) (fr : Int32) :
    ∀ (d c m m' i H : Nat) (ta tb : Nat → Int32), c + d = 99 → d < m → d < m' → i < n → H < 2 ^ n → ¬ H = 2 ^ n - 1 → (∀ k, k < 8 → ta k = tb k) → ∃ (r : Int32) (ta' tb' : Nat → Int32), zf_X1_handsByRule_40 ct (nI n) m ta (nI i) (nI H) (nI (c + 1)) = some (r, ta') ∧ zf_X9_rule_47 mt (nI n) fr m' tb (nI i) (nI H) (nI c) = some (r, tb') := by
  have hp8 := py_pow8 h8
  intro d
  induction d with
  | zero =>
    intro c m m' i H ta tb h1 h2 h3 hi hH hne hab
    obtain ⟨q, rfl⟩ : ∃ q, m = q + 1 := ⟨m - 1, by omega⟩
    obtain ⟨q', rfl⟩ : ∃ q, m' = q + 1 := ⟨m' - 1, by omega⟩
    have hne' : ¬ nI H = nI (2 ^ n - 1) := fun e => hne ((tn_eq (by omega) (by omega)).mp e)
    refine ⟨-9, ta, tb, ?_, ?_⟩
    · show zf_X1_handsByRule_40_b _ _ _ _ _ _ _ = _
      unfold zf_X1_handsByRule_40_b
      rw [if_pos (show (99 : Int32) < nI (c + 1) from nI_lt (a := 99) (b := c + 1) (by omega) (by omega))]
    · show zf_X9_rule_47_b _ _ _ _ _ _ _ _ = _
      unfold zf_X9_rule_47_b zf_X9_rule_160
      rw [py_all h8, if_neg hne', if_pos (show (99 : Int32) ≤ nI c from nI_le (a := 99) (b := c) (by omega) (by omega)), if_neg hne']
  | succ d ih =>
    intro c m m' i H ta tb h1 h2 h3 hi hH hne hab
    obtain ⟨q, rfl⟩ : ∃ q, m = q + 1 := ⟨m - 1, by omega⟩
    obtain ⟨q', rfl⟩ : ∃ q, m' = q + 1 := ⟨m' - 1, by omega⟩
    have hne' : ¬ nI H = nI (2 ^ n - 1) := fun e => hne ((tn_eq (by omega) (by omega)).mp e)
    obtain ⟨B, b1, b2, b3⟩ := py_least h8 hc hm hT hi hab fr (zf_X9_rule_47 mt (nI n) fr q') (nI H) (nI c) n 0 zfuel zfuel (-9) (by omega) (by unfold zfuel; omega) (by unfold zfuel; omega) (Or.inl rfl)
    have hB : ∃ k, k < n ∧ B = nI k := by
      rcases b3 with ⟨-, -, b5⟩ | b3
      · have h0 := hr i hi
        have : fb_sm (T i) n = fb_sm (fun _ => 0) n := fb_sm_cong (fun k hk => b5 k (by omega) hk)
        rw [this, fb_sm_const] at h0
        omega
      · exact b3
    obtain ⟨k, hk, rfl⟩ := hB
    rw [if_neg (tn_in (by omega) (by decide)), tn_cl (by omega), tb_sh k (by omega), fa_or] at b2
    have hH' : H ||| 2 ^ k < 2 ^ n := Nat.or_lt_two_pow hH (Nat.pow_lt_pow_right (by decide) hk)
    show ∃ (r : Int32) (ta' tb' : Nat → Int32), zf_X1_handsByRule_40_b _ _ _ _ _ _ _ = _ ∧ zf_X9_rule_47_b _ _ _ _ _ _ _ _ = _
    unfold zf_X1_handsByRule_40_b zf_X9_rule_47_b zf_X1_leastHad
    rw [if_neg (show ¬ (99 : Int32) < nI (c + 1) from nI_nlt (a := 99) (b := c + 1) (by omega) (by omega)), py_all h8, if_neg hne', if_neg (show ¬ (99 : Int32) ≤ nI c from nI_ge (a := c) (b := 99) (by omega) (by decide)),
      show zf_X9_rule_72 mt (nI n) fr (zf_X9_rule_47 mt (nI n) fr q') zfuel tb (nI i) (nI H) (nI c) (-9) 0 = _ from b2, show zf_X1_leastHad_6 ta ct (nI n) zfuel (nI i) (-9) 0 = _ from b1]
    simp only [zb]
    rw [py_has1 h8 hk, py_allBits h8]
    simp only [zb, if_neg zone]
    rw [if_neg (tn_in (by omega) (by decide)), tn_cl (by omega), tb_sh k (by omega), fa_or, show nI c + (1 : Int32) = nI (c + 1) from nI_1 c, show nI (c + 1) + (1 : Int32) = nI (c + 1 + 1) from nI_1 (c + 1)]
    have hab' : ∀ j, j < 8 → upd ta k (ta k + 1) j = upd tb k (tb k + 1) j := by
      intro j hj
      by_cases e : j = k
      · rw [e, pk_us, pk_us, hab k (by omega)]
      · rw [pk_un e, pk_un e]; exact hab j hj
    by_cases hA : H ||| 2 ^ k = 2 ^ n - 1
    · rw [if_pos (by rw [hA])]
      refine ⟨_, _, upd tb k (tb k + 1), rfl, ?_⟩
      obtain ⟨q2, rfl⟩ : ∃ q, q' = q + 1 := ⟨q' - 1, by omega⟩
      show zf_X9_rule_47_b _ _ _ _ _ _ _ _ = _
      unfold zf_X9_rule_47_b zf_X9_rule_160
      rw [py_all h8, if_pos (by rw [hA]), if_pos (by rw [hA])]
    · rw [if_neg (fun e => hA ((tn_eq (by omega) (by omega)).mp e))]
      exact ih (c + 1) q q' k (H ||| 2 ^ k) _ _ (by omega) (by omega) (by omega) hk hH' hA hab'
theorem py_times_c (b : Nat) (hb : b < 8) (h8 : n ≤ 8) : ∀ (d s m : Nat) (ta : Nat → Int32), s + d = 8 → d < m → (∀ k, k < s → ta k = if k = b then 1 else 0) → ∃ ta' : Nat → Int32, (∀ k, k < 8 → ta' k = if k = b then 1 else 0) ∧ zf_X1_handsByRule_2 ct (nI n) m ta (nI b) (nI s) = zf_X1_handsByRule_40 ct (nI n) zfuel ta' (nI b) (nI (2 ^ b)) (nI 1) := by
  intro d
  induction d with
  | zero =>
    intro s m ta h1 h2 h
    obtain ⟨q, rfl⟩ : ∃ q, m = q + 1 := ⟨m - 1, by omega⟩
    refine ⟨ta, fun k hk => h k (by omega), ?_⟩
    show zf_X1_handsByRule_2_b _ _ _ _ _ _ = _
    unfold zf_X1_handsByRule_2_b
    rw [if_pos (show (8 : Int32) ≤ nI s from nI_le (a := 8) (b := s) (by omega) (by omega)), tb_sh b (by omega)]
    rfl
  | succ d ih =>
    intro s m ta h1 h2 h
    obtain ⟨q, rfl⟩ : ∃ q, m = q + 1 := ⟨m - 1, by omega⟩
    obtain ⟨ta', g1, g2⟩ := ih (s + 1) q (upd ta s (if s = b then 1 else 0)) (by omega) (by omega) (by
      intro k hk
      by_cases e : k = s
      · rw [e, pk_us]
      · rw [pk_un e]; exact h k (by omega))
    refine ⟨ta', g1, ?_⟩
    rw [← g2]
    show zf_X1_handsByRule_2_b _ _ _ _ _ _ = _
    unfold zf_X1_handsByRule_2_b zf_X1_handsByRule_23
    rw [if_neg (show ¬ (8 : Int32) ≤ nI s from nI_ge (a := s) (b := 8) (by omega) (by decide)), if_neg (tn_in (by omega) (by decide)), if_neg (tn_in (by omega) (by decide)), tn_cl (by omega), show nI s + (1 : Int32) = nI (s + 1) from nI_1 s]
    by_cases e : s = b
    · rw [if_pos (by rw [e]), if_pos e]
    · rw [if_neg (fun z => e ((tn_eq (by omega) (by omega)).mp z)), if_neg e]
theorem py_times_m (b : Nat) (hb : b < 8) (h8 : n ≤ 8) : ∀ (d s m : Nat) (ta : Nat → Int32), s + d = 8 → d < m → (∀ k, k < s → ta k = if k = b then 1 else 0) → ∃ ta' : Nat → Int32, (∀ k, k < 8 → ta' k = if k = b then 1 else 0) ∧ zf_X9_rule_2 mt (nI n) (nI b) m ta (nI s) = zf_X9_rule_47 mt (nI n) (nI b) zfuel ta' (nI b) (nI (2 ^ b)) (nI 0) := by
  intro d
  induction d with
  | zero =>
    intro s m ta h1 h2 h
    obtain ⟨q, rfl⟩ : ∃ q, m = q + 1 := ⟨m - 1, by omega⟩
    refine ⟨ta, fun k hk => h k (by omega), ?_⟩
    show zf_X9_rule_2_b _ _ _ _ _ _ = _
    unfold zf_X9_rule_2_b
    rw [if_pos (show (8 : Int32) ≤ nI s from nI_le (a := 8) (b := s) (by omega) (by omega)), tb_sh b (by omega)]
    rfl
  | succ d ih =>
    intro s m ta h1 h2 h
    obtain ⟨q, rfl⟩ : ∃ q, m = q + 1 := ⟨m - 1, by omega⟩
    obtain ⟨ta', g1, g2⟩ := ih (s + 1) q (upd ta s (if s = b then 1 else 0)) (by omega) (by omega) (by
      intro k hk
      by_cases e : k = s
      · rw [e, pk_us]
      · rw [pk_un e]; exact h k (by omega))
    refine ⟨ta', g1, ?_⟩
    rw [← g2]
    show zf_X9_rule_2_b _ _ _ _ _ _ = _
    unfold zf_X9_rule_2_b zf_X9_rule_26
    rw [if_neg (show ¬ (8 : Int32) ≤ nI s from nI_ge (a := s) (b := 8) (by omega) (by decide)), if_neg (tn_in (by omega) (by decide)), if_neg (tn_in (by omega) (by decide)), tn_cl (by omega), show nI s + (1 : Int32) = nI (s + 1) from nI_1 s]
    by_cases e : s = b
    · rw [if_pos (by rw [e]), if_pos e]
    · rw [if_neg (fun z => e ((tn_eq (by omega) (by omega)).mp z)), if_neg e]
theorem py_pow_ne {b n : Nat} (hb : b < n) (h2 : 2 ≤ n) : ¬ 2 ^ b = 2 ^ n - 1 := by
  have h1 : 2 ^ b ≤ 2 ^ (n - 1) := Nat.pow_le_pow_right (by decide) (by omega)
  have h3 : 2 ^ n = 2 * 2 ^ (n - 1) := by rw [← Nat.pow_succ', show (n - 1).succ = n by omega]
  have h4 : 2 ≤ 2 ^ (n - 1) := Nat.pow_le_pow_right (n := 2) (i := 1) (by decide) (by omega)
  omega
end PYR
theorem po_rule {n kd pn b h sc : Nat} {T : Nat → Nat → Nat} {hs st ss : Nat → Nat} {sd : Int64} {ct mt xh xt xs ma mw mt' ms' : Nat → Int32} {cs ck cp ms mk mr x0 x1 x2 x3 x4 mp mf mh mn mc : Int32} {x5 md : Int64} (hN : py_RN n T kd pn ct cs ck cp mt ms mk mr) (hG : py_RG n b h hs sc st ss sd xh xt xs x0 x1 x2 x3 x4 x5 mp mf mh mn ma mw mc mt' ms' md) (ta tb : Nat → Int32) :
    ∃ r a0 c0, zf_X8_rule ct cs x0 ta = some (r, a0) ∧ zf_X9_rule mt ms mf tb = some (r, c0) := by
  obtain ⟨h2, h8, -, -, rfl, rfl, -, -, -, -, hc, hm, hz, hr, -⟩ := hN
  obtain ⟨hb, -, -, -, -, -, -, -, -, -, -, -, rfl, -, -, -, -, -, -, rfl, -, -, -, -⟩ := hG
  unfold zf_X8_rule zf_X1_handsByRule zf_X9_rule
  obtain ⟨ta', g1, g2⟩ := py_times_c (ct := ct) b (by omega) h8 8 0 zfuel ta (by omega) (by unfold zfuel; omega) (fun k hk => absurd hk (by omega))
  obtain ⟨tb', g3, g4⟩ := py_times_m (mt := mt) b (by omega) h8 8 0 zfuel tb (by omega) (by unfold zfuel; omega) (fun k hk => absurd hk (by omega))
  obtain ⟨r, a, c, k1, k2⟩ := py_rule h8 hc hm (py_RN_le hz hr) hr (nI b) 99 0 zfuel zfuel b (2 ^ b) ta' tb' (by omega) (by unfold zfuel; omega) (by unfold zfuel; omega) hb (Nat.pow_lt_pow_right (by decide) hb) (py_pow_ne hb h2) (fun k hk => by rw [g1 k hk, g3 k hk])
  refine ⟨r, a, c, ?_, ?_⟩
  · rw [show zf_X1_handsByRule_2 ct (nI n) zfuel ta (nI b) 0 = _ from g2, show zf_X1_handsByRule_40 ct (nI n) zfuel ta' (nI b) (nI (2 ^ b)) (nI 1) = _ from k1]
    rfl
  · rw [show zf_X9_rule_2 mt (nI n) (nI b) zfuel tb 0 = _ from g4]
    exact k2
