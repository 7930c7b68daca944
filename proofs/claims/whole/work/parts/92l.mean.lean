/-! ===== mean, round ===== -/
theorem mx_Rw_le {s k x : Nat} {T : Nat → Nat → Nat} {ord : Nat → Nat} {R : Nat → Int} (h : mx_Rw T ord s k R x) {y : Nat} (hy : y ≤ s) : (R y).natAbs ≤ 10 ∨ (R y).natAbs ≤ ((mx_st (mx_A T) ord k).2 (ord x) (mx_oc ord s y)).natAbs := by
  obtain ⟨⟨α, β, h1, h2, h3⟩, h4⟩ := h
  rcases h4 with h4 | h4
  · left
    have := h4 y hy
    omega
  · right
    obtain ⟨a, b, hab, ha, hb⟩ := Nat.exists_coprime α.natAbs β.natAbs
    have g0 : 0 < Nat.gcd α.natAbs β.natAbs := Nat.gcd_pos_of_pos_left _ (by omega)
    have key : ∀ z, z ≤ s → a * (R z).natAbs = b * ((mx_st (mx_A T) ord k).2 (ord x) (mx_oc ord s z)).natAbs := by
      intro z hz
      have q := congrArg Int.natAbs (h3 z hz)
      rw [Int.natAbs_mul, Int.natAbs_mul] at q
      refine Nat.eq_of_mul_eq_mul_left g0 ?_
      rw [← Nat.mul_assoc, ← Nat.mul_assoc, Nat.mul_comm _ a, Nat.mul_comm _ b, ← ha, ← hb]
      exact q
    have b1 : b = 1 := h4 b (fun z hz => by
      have q : b ∣ a * (R z).natAbs := ⟨_, key z hz⟩
      exact (Nat.Coprime.symm hab).dvd_of_dvd_mul_left q)
    have a1 : 1 ≤ a := by
      rcases Nat.eq_zero_or_pos a with e | e
      · rw [e, Nat.zero_mul] at ha; omega
      · exact e
    have q := key y hy
    rw [b1, Nat.one_mul] at q
    have q2 : 1 * (R y).natAbs ≤ a * (R y).natAbs := Nat.mul_le_mul_right _ a1
    omega
section PYMN
variable {n a b : Nat} {T : Nat → Nat → Nat} {ct mt : Nat → Int32}
theorem mx_fin {P : Nat → Prop} {s1 s2 t : Nat} {ord1 ord2 : Nat → Nat} {R : Nat → Int} (E1 : py_en n P ord1 s1) (E2 : py_en n P ord2 s2) (H1 : mx_Hy T ord1 s1) (H2 : mx_Hy T ord2 s2) (hs : 1 ≤ s1) (ha1 : ord1 (s1 - 1) = a) (ht : t < s2) (ha2 : ord2 t = a) (hR : mx_Rw T ord2 s2 s2 R t) :
    (mx_st (mx_A T) ord1 (s1 - 1)).2 a a * R s2 = R t * (mx_st (mx_A T) ord1 (s1 - 1)).2 a 8 := by
  have H1' := H1
  have H2' := H2
  obtain ⟨h7, g1, g2, hh, g3, g4⟩ := H1
  obtain ⟨k7, f1, f2, hk, f3, f4⟩ := H2
  obtain ⟨I1, -, -, -⟩ := mx_all g1 g3 g4 (s1 - 1) (by omega)
  obtain ⟨I2, -, -, -⟩ := mx_all f1 f3 f4 s2 (by omega)
  have nd1 := mx_ls_nd g1
  have am : a ∈ mx_ls ord1 s1 := mx_ls_mem.mpr ⟨s1 - 1, by omega, ha1⟩
  have an : a ∉ mx_ls ord1 (s1 - 1) := fun z => by
    obtain ⟨r, r1, r2⟩ := mx_ls_mem.mp z
    exact g1 r (s1 - 1) r1 (by omega) (by rw [r2, ha1])
  obtain ⟨sx, zx⟩ := I1.2.2.2 a am an
  have am2 : a ∈ mx_ls ord2 s2 := mx_ls_mem.mpr ⟨t, ht, ha2⟩
  obtain ⟨sy, dy, zy⟩ := I2.2.2.1 a am2 am2
  have mem : ∀ i, i ∈ mx_ls ord2 s2 → i ∈ mx_ls ord1 s1 := fun i hi => by
    obtain ⟨r, r1, r2⟩ := mx_ls_mem.mp hi
    obtain ⟨q1, q2⟩ := E2.1 r r1
    rw [r2] at q1 q2
    obtain ⟨r', x1, x2⟩ := E1.2.2 i q1 q2
    exact mx_ls_mem.mpr ⟨r', x1, x2⟩
  have mem' : ∀ i, i ∈ mx_ls ord1 s1 → i ∈ mx_ls ord2 s2 := fun i hi => by
    obtain ⟨r, r1, r2⟩ := mx_ls_mem.mp hi
    obtain ⟨q1, q2⟩ := E1.1 r r1
    rw [r2] at q1 q2
    obtain ⟨r', x1, x2⟩ := E2.2.2 i q1 q2
    exact mx_ls_mem.mpr ⟨r', x1, x2⟩
  have sub1 : ∀ y, y ∈ (mx_ls ord1 (s1 - 1)).map (mx_A T) → y ∈ (mx_ls ord1 s1).map (mx_A T) := fun y hy => by
    obtain ⟨i, i1, i2⟩ := List.mem_map.mp hy
    obtain ⟨r, r1, r2⟩ := mx_ls_mem.mp i1
    exact List.mem_map.mpr ⟨i, mx_ls_mem.mpr ⟨r, by omega, r2⟩, i2⟩
  have sub2 : ∀ y, y ∈ (mx_ls ord2 s2).map (mx_A T) → y ∈ (mx_ls ord1 s1).map (mx_A T) := fun y hy => by
    obtain ⟨i, i1, i2⟩ := List.mem_map.mp hy
    exact List.mem_map.mpr ⟨i, mem i i1, i2⟩
  have qx : mx_sq ((mx_ls ord1 s1).map (mx_A T)) ((mx_st (mx_A T) ord1 (s1 - 1)).2 a) := mx_sq_cg (mx_sq_lin 1 (mx_st (mx_A T) ord1 (s1 - 1)).1 (mx_sq_sub sx sub1) (mx_sq_mem (List.mem_map.mpr ⟨a, am, rfl⟩))) (fun c => by omega)
  have qy := mx_sq_sub sy sub2
  have qz := mx_sq_lin ((mx_st (mx_A T) ord1 (s1 - 1)).2 a a) (-((mx_st (mx_A T) ord2 s2).2 a a)) qy qx
  have z0 := mx_none (h := hh) nd1 g3 (fun i hi j hj hij => (g4 i hi).1 j hj hij) (fun i hi => (g4 i hi).2.2.1) qz (fun j hj => by
    by_cases e : j = a
    · rw [e, Int.neg_mul, Int.mul_comm]; omega
    · have j1 : j ∈ mx_ls ord1 (s1 - 1) := by
        obtain ⟨r, r1, r2⟩ := mx_ls_mem.mp hj
        refine mx_ls_mem.mpr ⟨r, ?_, r2⟩
        by_cases c : r = s1 - 1
        · rw [c, ha1] at r2; exact absurd r2.symm e
        · omega
      rw [zx j j1, zy j (mem' j hj) e, Int.mul_zero, Int.mul_zero]; rfl) 8
  obtain ⟨⟨α, β, a1, a2, a3⟩, -⟩ := hR
  have r1 := a3 s2 (by omega)
  have r2 := a3 t (by omega)
  rw [ha2, show mx_oc ord2 s2 s2 = 8 from if_neg (by omega)] at r1
  rw [ha2, show mx_oc ord2 s2 t = ord2 t from if_pos ht, ha2] at r2
  refine Int.eq_of_mul_eq_mul_left (a := α) (by omega) ?_
  have w1 : α * ((mx_st (mx_A T) ord1 (s1 - 1)).2 a a * R s2) = (mx_st (mx_A T) ord1 (s1 - 1)).2 a a * (α * R s2) := by grind
  have w2 : α * (R t * (mx_st (mx_A T) ord1 (s1 - 1)).2 a 8) = (α * R t) * (mx_st (mx_A T) ord1 (s1 - 1)).2 a 8 := by grind
  rw [w1, w2, r1, r2]
  have z1 : (mx_st (mx_A T) ord1 (s1 - 1)).2 a a * (mx_st (mx_A T) ord2 s2).2 a 8 = (mx_st (mx_A T) ord2 s2).2 a a * (mx_st (mx_A T) ord1 (s1 - 1)).2 a 8 := by
    have := z0
    rw [Int.neg_mul] at this
    omega
  have w3 : (mx_st (mx_A T) ord1 (s1 - 1)).2 a a * (β * (mx_st (mx_A T) ord2 s2).2 a 8) = β * ((mx_st (mx_A T) ord1 (s1 - 1)).2 a a * (mx_st (mx_A T) ord2 s2).2 a 8) := by grind
  rw [w3, z1, Int.mul_assoc]
theorem py_mm (h8 : n ≤ 8) (hc : ∀ i j, i < 8 → j < 8 → ct (8 * i + j) = nI (T i j)) (hm : ∀ i j, i < 8 → j < 8 → mt (8 * i + j) = nI (T i j)) (hz : ∀ i j, n ≤ i ∨ n ≤ j → T i j = 0) (hr : ∀ i, i < n → fb_sm (T i) n = 10) (ha : a < n) (hb : b < n) (c0 : Nat → Int64) (o0 : Nat → Int32) (sz : Int32) (ab be : Int64) (num : Nat → Int32) (w : Nat → Int64) (mu md : Int64) :
    (∃ c' o' s' a' b' num' w' mu' md', zf_X2_solve (nI a) (nI b) ct (nI n) c0 o0 sz ab be = some (0, c', o', s', a', b') ∧ zf_X9_layMean (nI a) (nI b) mt (nI n) num w mu md = some (0, num', w', mu', md')) ∨
    (∃ c' o' s' num' w' A B U D, zf_X2_solve (nI a) (nI b) ct (nI n) c0 o0 sz ab be = some (1, c', o', s', lN A, lN B) ∧ zf_X9_layMean (nI a) (nI b) mt (nI n) num w mu md = some (1, num', w', lN (U / Nat.gcd U D), lN (D / Nat.gcd U D)) ∧ 0 < B ∧ 0 < D ∧ A ≤ 640000000 ∧ B ≤ 640000000 ∧ U ≤ 12800000000 ∧ D ≤ 100000000 ∧ A * D = U * B) := by
  by_cases hab : a = b
  · right
    subst hab
    refine ⟨c0, o0, sz, num, w, 0, 1, 0, 1, ?_, ?_, by omega, by omega, by omega, by omega, by omega, by omega, rfl⟩
    · unfold zf_X2_solve
      rw [if_pos rfl]
      rfl
    · unfold zf_X9_layMean
      rw [if_pos rfl]
      rfl
  · rcases py_solveC h8 hc hz hr ha hb hab c0 o0 sz ab be with ⟨h1, h2⟩ | ⟨h1, c', o', s1, ord1, x1, x2, x3, x4, x5⟩
    · rcases py_meanM h8 hm hz hr ha hb hab num w mu md with ⟨k1, num', k2⟩ | ⟨k1, -⟩
      · left
        exact ⟨_, _, _, _, _, _, _, _, _, h2, k2⟩
      · exact absurd k1 h1
    · rcases py_meanM h8 hm hz hr ha hb hab num w mu md with ⟨k1, -⟩ | ⟨-, num', w', s2, ord2, t, R, y1, y2, y3, y4, y5, y6⟩
      · exact absurd h1 k1
      · right
        have cr := mx_fin x2 y2 x4 y4 x1 x3 y1 y3 y5
        have h7 := x4.1
        have k7 := y4.1
        have bA := mx_bd x4 (k := s1 - 1) (x := s1 - 1) (y := s1) (by omega) (by omega) (by omega)
        have bB := mx_bd x4 (k := s1 - 1) (x := s1 - 1) (y := s1 - 1) (by omega) (by omega) (by omega)
        rw [x3, show mx_oc ord1 s1 s1 = 8 from if_neg (by omega)] at bA
        rw [x3, show mx_oc ord1 s1 (s1 - 1) = ord1 (s1 - 1) from if_pos (by omega), x3] at bB
        have pw := mx_pw6 (s1 - 1) (by omega)
        have hB := (mx_ex x4 (k := s1 - 1) (by omega)).1
        rw [x3] at hB
        have hA : 0 ≤ (mx_st (mx_A T) ord1 (s1 - 1)).2 a 8 := by
          obtain ⟨-, g1, g2, hh, g3, g4⟩ := x4
          have := (mx_all g1 g3 g4 (s1 - 1) (by omega)).2.1 a (mx_ls_mem.mpr ⟨s1 - 1, by omega, x3⟩)
          exact this.2.2.2.2.1
        have rp := mx_Rw_pos y4 (by omega) y1 y5
        have rn := mx_Rw_rhs y4 (by omega) y1 y5
        have rb := mx_Rw_bd y4 (by omega) y1 y5 (show s2 ≤ s2 by omega)
        have pw2 := mx_pw s2 (by omega)
        have rd : (R t).natAbs ≤ 100000000 := by
          rcases mx_Rw_le y5 (show t ≤ s2 by omega) with q | q
          · omega
          · rw [show mx_oc ord2 s2 t = ord2 t from if_pos y1] at q
            have D1 := mx_bdD y4 (k := s2) (by omega)
            obtain ⟨-, g1, g2, hh, g3, g4⟩ := y4
            have hm' := (mx_all g1 g3 g4 s2 (by omega)).2.1
            have q1 := (hm' (ord2 t) (mx_ls_mem.mpr ⟨t, y1, rfl⟩)).2.2.2.1
            have q2 := mx_pos (mx_ls_nd g1) g3 hm' (mx_ls_mem.mpr ⟨t, y1, rfl⟩)
            omega
        refine ⟨c', o', nI s1, num', w', ((mx_st (mx_A T) ord1 (s1 - 1)).2 a 8).natAbs, ((mx_st (mx_A T) ord1 (s1 - 1)).2 a a).natAbs, (R s2).natAbs, (R t).natAbs, ?_, y6, by omega, by omega, by omega, by omega, by omega, rd, ?_⟩
        · rw [x5, ← mx_L_nat, ← mx_L_nat, show ((((mx_st (mx_A T) ord1 (s1 - 1)).2 a 8).natAbs : Nat) : Int) = (mx_st (mx_A T) ord1 (s1 - 1)).2 a 8 by omega, show ((((mx_st (mx_A T) ord1 (s1 - 1)).2 a a).natAbs : Nat) : Int) = (mx_st (mx_A T) ord1 (s1 - 1)).2 a a by omega]
        · rw [← Int.natAbs_mul, ← Int.natAbs_mul, Int.mul_comm ((mx_st (mx_A T) ord1 (s1 - 1)).2 a 8), ← cr, Int.mul_comm (R s2)]
end PYMN
section PYMO
variable {n kd pn : Nat} {T : Nat → Nat → Nat} {ct mt : Nat → Int32} {cs ck cp ms mk mr : Int32}
theorem po_mean (hN : py_RN n T kd pn ct cs ck cp mt ms mk mr) (c0 : Nat → Int64) (o0 : Nat → Int32) (sz : Int32) (ab be : Int64) (num : Nat → Int32) (w : Nat → Int64) (mu md : Int64) (p0 p1 u : Int32) :
    ∃ r c' o' s' a' b' num' w' mu' md', zf_X8_mean p0 p1 u ct cs c0 o0 sz ab be = some (r, c', o', s', a', b') ∧ zf_X9_mean p0 p1 u mt ms num w mu md = some (r, num', w', mu', md') := by
  obtain ⟨h2, h8, -, -, rfl, rfl, -, -, -, -, hc, hm, hz, hr, -⟩ := hN
  unfold zf_X8_mean zf_X9_mean
  rcases tn_seat p0 (n := n) (by omega) with ⟨i, hi, rfl⟩ | h0
  · rw [py_has1 h8 hi, py_isSeat1 (by omega) h8 hi]
    simp only [zb, if_neg zone]
    rcases tn_seat p1 (n := n) (by omega) with ⟨j, hj, rfl⟩ | h1
    · rw [py_has1 h8 hj, py_isSeat1 (by omega) h8 hj]
      simp only [zb, if_neg zone]
      rcases py_mm h8 hc hm hz hr hi hj c0 o0 sz ab be num w mu md with ⟨c', o', s', a', b', num', w', mu', md', g1, g2⟩ | ⟨c', o', s', num', w', A, B, U, D, g1, g2, g3, g4, g5, g6, g7, g8, g9⟩
      · rw [g1, g2]
        exact ⟨_, _, _, _, _, _, _, _, _, _, rfl, rfl⟩
      · rw [g1, g2]
        simp only [zb, if_neg zone]
        rw [py_frC u (by omega) g3 (by omega)]
        simp only [zb]
        refine ⟨_, _, _, _, _, _, num', w', lN (U / Nat.gcd U D), lN (D / Nat.gcd U D), rfl, ?_⟩
        rw [py_fr_cross u g3 g4 g9]
        unfold py_fr
        by_cases c : u = 0
        · rw [if_pos c, if_pos c]
        · rw [if_neg c, if_neg c]
    · rw [py_has0 h1, py_isSeat0 (by omega) h8 h1]
      exact ⟨_, _, _, _, _, _, _, _, _, _, rfl, rfl⟩
  · rw [py_has0 h0, py_isSeat0 (by omega) h8 h0]
    exact ⟨_, _, _, _, _, _, _, _, _, _, rfl, rfl⟩
theorem py_red {A B U D : Nat} (hD : 0 < D) (h : A * D = U * B) : 0 < D / Nat.gcd U D ∧ A * (D / Nat.gcd U D) = U / Nat.gcd U D * B ∧ U / Nat.gcd U D ≤ U ∧ D / Nat.gcd U D ≤ D := by
  have g0 : 0 < Nat.gcd U D := Nat.gcd_pos_of_pos_right _ hD
  have d1 := Nat.div_mul_cancel (Nat.gcd_dvd_left U D)
  have d2 := Nat.div_mul_cancel (Nat.gcd_dvd_right U D)
  refine ⟨Nat.div_pos (Nat.gcd_le_right _ hD) g0, ?_, Nat.div_le_self _ _, Nat.div_le_self _ _⟩
  refine Nat.eq_of_mul_eq_mul_right g0 ?_
  rw [Nat.mul_assoc, d2, Nat.mul_right_comm, d1]
  exact h
theorem po_round (hN : py_RN n T kd pn ct cs ck cp mt ms mk mr) (c0 : Nat → Int64) (o0 : Nat → Int32) (sz : Int32) (ab be : Int64) (num : Nat → Int32) (w : Nat → Int64) (mu md : Int64) (p0 p1 u : Int32) :
    ∃ r c' o' s' a' b' num' w' mu' md', zf_X8_round p0 p1 u ct cs c0 o0 sz ab be = some (r, c', o', s', a', b') ∧ zf_X9_round p0 p1 u mt ms num w mu md = some (r, num', w', mu', md') := by
  obtain ⟨h2, h8, -, -, rfl, rfl, -, -, -, -, hc, hm, hz, hr, -⟩ := hN
  unfold zf_X8_round zf_X9_round
  rcases tn_seat p0 (n := n) (by omega) with ⟨i, hi, rfl⟩ | h0
  · rw [py_has1 h8 hi, py_isSeat1 (by omega) h8 hi]
    simp only [zb, if_neg zone]
    rcases tn_seat p1 (n := n) (by omega) with ⟨j, hj, rfl⟩ | h1
    · rw [py_has1 h8 hj, py_isSeat1 (by omega) h8 hj]
      simp only [zb, if_neg zone]
      rcases py_mm h8 hc hm hz hr hi hj c0 o0 sz ab be num w mu md with ⟨c', o', s', a', b', num', w', mu', md', g1, g2⟩ | ⟨c', o', s', num', w', A, B, U, D, g1, g2, g3, g4, g5, g6, g7, g8, g9⟩
      · rw [g1, g2]
        exact ⟨_, _, _, _, _, _, _, _, _, _, rfl, rfl⟩
      · rw [g1, g2]
        simp only [zb, if_neg zone]
        rcases py_mm h8 hc hm hz hr hj hi c' o' s' (lN A) (lN B) num' w' (lN (U / Nat.gcd U D)) (lN (D / Nat.gcd U D)) with ⟨c2, o2, s2, a2, b2, num2, w2, mu2, md2, k1, k2⟩ | ⟨c2, o2, s2, num2, w2, A2, B2, U2, D2, k1, k2, k3, k4, k5, k6, k7, k8, k9⟩
        · rw [k1, k2]
          exact ⟨_, _, _, _, _, _, _, _, _, _, rfl, rfl⟩
        · rw [k1, k2]
          simp only [zb, if_neg zone]
          obtain ⟨x1, x2, x3, x4⟩ := py_red g4 g9
          obtain ⟨y1, y2, y3, y4⟩ := py_red k4 k9
          obtain ⟨U', hU⟩ : ∃ x, x = U / Nat.gcd U D := ⟨_, rfl⟩
          obtain ⟨D', hD⟩ : ∃ x, x = D / Nat.gcd U D := ⟨_, rfl⟩
          obtain ⟨V', hV⟩ : ∃ x, x = U2 / Nat.gcd U2 D2 := ⟨_, rfl⟩
          obtain ⟨E', hE⟩ : ∃ x, x = D2 / Nat.gcd U2 D2 := ⟨_, rfl⟩
          rw [← hU, ← hD] at x2
          rw [← hD] at x1 x4
          rw [← hU] at x3
          rw [← hV, ← hE] at y2
          rw [← hE] at y1 y4
          rw [← hV] at y3
          rw [← hU, ← hD, ← hV, ← hE]
          have gc : zf_X9_common (lN D') (lN E') = some (lN (Nat.gcd D' E')) := by
            have := py_common (x := (D' : Int)) (y := (E' : Int)) (by omega) (by omega) (by omega) (by omega)
            rw [mx_L_nat, mx_L_nat, Int.natAbs_natCast, Int.natAbs_natCast] at this
            exact this
          have g0 : 0 < Nat.gcd D' E' := Nat.gcd_pos_of_pos_left _ x1
          have gl : Nat.gcd D' E' ≤ D' := Nat.gcd_le_left _ x1
          obtain ⟨q, hq⟩ : ∃ x, x = Nat.gcd D' E' := ⟨_, rfl⟩
          have dv1 := Nat.div_mul_cancel (Nat.gcd_dvd_left D' E')
          have dv2 := Nat.div_mul_cancel (Nat.gcd_dvd_right D' E')
          rw [← hq] at gc g0 gl dv1 dv2
          have l1 : D' / q ≤ D' := Nat.div_le_self _ _
          have l2 : E' / q ≤ E' := Nat.div_le_self _ _
          have p1' : 0 < D' / q := by
            rcases Nat.eq_zero_or_pos (D' / q) with e | e
            · rw [e, Nat.zero_mul] at dv1; omega
            · exact e
          rw [gc]
          simp only [zb]
          rw [if_neg (fun z => absurd ((tl_zero (by omega)).mp z) (by omega)), pk_lDiv (by omega) g0 (by omega), pk_lDiv (by omega) g0 (by omega), tl_mul, tl_mul, tl_mul, tl_mul, tl_mul, tl_mul, tl_add, tl_add]
          have m1 : A * B2 ≤ 640000000 * 640000000 := Nat.mul_le_mul g5 k6
          have m2 : A2 * B ≤ 640000000 * 640000000 := Nat.mul_le_mul k5 g6
          have m3 : B * B2 ≤ 640000000 * 640000000 := Nat.mul_le_mul g6 k6
          have m4 : U' * (E' / q) ≤ 12800000000 * 100000000 := Nat.mul_le_mul (by omega) (by omega)
          have m5 : V' * (D' / q) ≤ 12800000000 * 100000000 := Nat.mul_le_mul (by omega) (by omega)
          have m6 : D' / q * E' ≤ 100000000 * 100000000 := Nat.mul_le_mul (by omega) (by omega)
          have n1 : 0 < B * B2 := Nat.mul_pos g3 k3
          have n2 : 0 < D' / q * E' := Nat.mul_pos p1' y1
          rw [py_frC u (by omega) n1 (by omega), py_frM u (by omega) n2 (by omega)]
          simp only [zb]
          refine ⟨_, _, _, _, _, _, num2, w2, lN V', lN E', rfl, ?_⟩
          rw [py_fr_cross u n1 n2 (A' := U' * (E' / q) + V' * (D' / q)) (by
            obtain ⟨e1, he1⟩ : ∃ x, x = D' / q := ⟨_, rfl⟩
            obtain ⟨e2, he2⟩ : ∃ x, x = E' / q := ⟨_, rfl⟩
            rw [← he1, ← he2]
            rw [← he1] at dv1
            rw [← he2] at dv2
            rw [← dv1] at x2
            rw [← dv2] at y2 ⊢
            have t1 : (A * B2 + A2 * B) * (e1 * (e2 * q)) = (A * (e1 * q)) * (B2 * e2) + (A2 * (e2 * q)) * (B * e1) := by grind
            rw [t1, x2, y2]
            grind)]
    · rw [py_has0 h1, py_isSeat0 (by omega) h8 h1]
      exact ⟨_, _, _, _, _, _, _, _, _, _, rfl, rfl⟩
  · rw [py_has0 h0, py_isSeat0 (by omega) h8 h0]
    exact ⟨_, _, _, _, _, _, _, _, _, _, rfl, rfl⟩
end PYMO
