/-! ===== pennies; the end on a ring ===== -/
def py_pw (k m : Nat) (y : Nat) : Nat := (y + 1) ^ k * (9 - y) ^ m
theorem py_penny {k m x : Nat} (hk : k ≤ 8) (hm : m ≤ 8) (hx : x ≤ 9) (hx1 : 1 ≤ x) (u : Int32) : ∀ (d y q q' : Nat), y + d = 9 → d < q → d < q' →
    zf_X8_penny_41 q (nI x) (nI k) (nI m) u (lN (fb_sm (py_pw k m) y)) (nI (y + 1)) = zf_X8_leastTerms (lN (x ^ k * (10 - x) ^ m)) (lN (fb_sm (py_pw k m) 9)) u ∧ zf_X9_penny_46 q' (nI x) (nI k) (nI m) u (lN (fb_sm (py_pw k m) y)) (nI (y + 1)) = zf_X9_part (lN (x ^ k * (10 - x) ^ m)) (lN (fb_sm (py_pw k m) 9)) u := by
  have hb : ∀ (o : Option Int64), Option.bind o (fun x => some x) = o := fun o => by cases o <;> rfl
  intro d
  induction d with
  | zero =>
    intro y q q' h1 h2 h3
    obtain ⟨q, rfl⟩ : ∃ z, q = z + 1 := ⟨q - 1, by omega⟩
    obtain ⟨q', rfl⟩ : ∃ z, q' = z + 1 := ⟨q' - 1, by omega⟩
    have : y = 9 := by omega
    subst this
    have g : (10 : Int32) ≤ nI (9 + 1) := by decide
    constructor
    · show zf_X8_penny_41_b _ _ _ _ _ _ _ = _
      unfold zf_X8_penny_41_b
      rw [if_pos g, tl_i (by omega), tp_c (by omega), show (10 : Int32) - nI x = nI (10 - x) from pk_sub (a := 10) (b := x) (by omega), tl_i (by omega), tp_c (by omega)]
      simp only [zb, tl_mul, hb]
    · show zf_X9_penny_46_b _ _ _ _ _ _ _ = _
      unfold zf_X9_penny_46_b
      rw [if_pos g, tp_m (by omega) (by omega), show (10 : Int32) - nI x = nI (10 - x) from pk_sub (a := 10) (b := x) (by omega), tp_m (by omega) (by omega)]
      simp only [zb, tl_mul, hb]
  | succ d ih =>
    intro y q q' h1 h2 h3
    obtain ⟨q, rfl⟩ : ∃ z, q = z + 1 := ⟨q - 1, by omega⟩
    obtain ⟨q', rfl⟩ : ∃ z, q' = z + 1 := ⟨q' - 1, by omega⟩
    have g : ¬ (10 : Int32) ≤ nI (y + 1) := nI_ge (a := y + 1) (b := 10) (by omega) (by decide)
    have e10 : (10 : Int32) - nI (y + 1) = nI (9 - y) := by
      rw [show (10 : Int32) = nI 10 from rfl, pk_sub (by omega)]; congr 1; omega
    obtain ⟨g1, g2⟩ := ih (y + 1) q q' (by omega) (by omega) (by omega)
    rw [fb_sm_succ, ← tl_add] at g1 g2
    constructor
    · rw [← g1]
      show zf_X8_penny_41_b _ _ _ _ _ _ _ = _
      unfold zf_X8_penny_41_b
      rw [if_neg g, tl_i (by omega), tp_c (by omega), e10, tl_i (by omega), tp_c (by omega), show nI (y + 1) + (1 : Int32) = nI (y + 1 + 1) from nI_1 _]
      simp only [zb, tl_mul]
      rfl
    · rw [← g2]
      show zf_X9_penny_46_b _ _ _ _ _ _ _ = _
      unfold zf_X9_penny_46_b
      rw [if_neg g, tp_m (by omega) (by omega), e10, tp_m (by omega) (by omega), show nI (y + 1) + (1 : Int32) = nI (y + 1 + 1) from nI_1 _]
      simp only [zb, tl_mul]
      rfl
theorem py_pw9 {a k : Nat} (ha : a ≤ 9) (hk : k ≤ 8) : a ^ k ≤ 9 ^ 8 := Nat.le_trans (Nat.pow_le_pow_left ha k) (Nat.pow_le_pow_right (by decide) hk)
theorem po_penny (p0 p1 p2 u : Int32) : ∃ r, zf_X8_penny p0 p1 p2 u = some r ∧ zf_X9_penny p0 p1 p2 u = some r := by
  unfold zf_X8_penny zf_X9_penny
  rw [py_rng (lo := 1) (hi := 9) (lo' := 1) (hi' := 9) (by decide) (by decide), py_rng (x := p1) (lo := 0) (hi := 8) (lo' := 0) (hi' := 8) (by decide) (by decide), py_rng (x := p2) (lo := 0) (hi := 8) (lo' := 0) (hi' := 8) (by decide) (by decide)]
  simp only [zb]
  by_cases a1 : p0 < 1
  · rw [if_pos a1, if_pos (Or.inl a1), if_pos rfl]; exact ⟨_, rfl, rfl⟩
  · rw [if_neg a1]
    by_cases a2 : 9 < p0
    · rw [if_pos a2, if_pos (Or.inr a2), if_pos rfl]; exact ⟨_, rfl, rfl⟩
    · rw [if_neg a2, if_neg (show ¬ (p0 < 1 ∨ 9 < p0) from fun q => q.elim a1 a2), if_neg zone]
      by_cases b1 : p1 < 0
      · rw [if_pos b1, if_pos (Or.inl b1), if_pos rfl]; exact ⟨_, rfl, rfl⟩
      · rw [if_neg b1]
        by_cases b2 : 8 < p1
        · rw [if_pos b2, if_pos (Or.inr b2), if_pos rfl]; exact ⟨_, rfl, rfl⟩
        · rw [if_neg b2, if_neg (show ¬ (p1 < 0 ∨ 8 < p1) from fun q => q.elim b1 b2), if_neg zone]
          by_cases c1 : p2 < 0
          · rw [if_pos c1, if_pos (Or.inl c1), if_pos rfl]; exact ⟨_, rfl, rfl⟩
          · rw [if_neg c1]
            by_cases c2 : p2 ≤ 8
            · rw [if_pos c2, if_neg (show ¬ (p2 < 0 ∨ 8 < p2) from fun q => q.elim c1 (fun q => absurd c2 (Int32.not_le.mpr q))), if_neg zone]
              obtain ⟨x, hx, rfl⟩ := nI_of2 (x := p0) (M := 9) (n := 9) (by decide) (fun q => a1 (by rw [fa_lt] at q ⊢; have : (0 : Int32).toInt = 0 := rfl; have : (1 : Int32).toInt = 1 := rfl; omega)) (Int32.not_lt.mp a2)
              obtain ⟨k, hk, rfl⟩ := nI_of2 (x := p1) (M := 8) (n := 8) (by decide) b1 (Int32.not_lt.mp b2)
              obtain ⟨m, hm, rfl⟩ := nI_of2 (x := p2) (M := 8) (n := 8) (by decide) c1 c2
              have hx1 : 1 ≤ x := by
                rcases Nat.eq_zero_or_pos x with e | e
                · subst e; exact absurd (by decide) a1
                · exact e
              obtain ⟨g1, g2⟩ := py_penny hk hm hx hx1 u 9 0 zfuel zfuel (by omega) (by unfold zfuel; omega) (by unfold zfuel; omega)
              have hA : x ^ k * (10 - x) ^ m < 2 ^ 63 := Nat.lt_of_le_of_lt (Nat.mul_le_mul (py_pw9 hx hk) (py_pw9 (by omega) hm)) (by decide)
              have hB : fb_sm (py_pw k m) 9 < 2 ^ 63 := by
                refine Nat.lt_of_le_of_lt (fb_sm_bound (c := 9 ^ 8 * 9 ^ 8) (fun y hy => Nat.mul_le_mul (py_pw9 (by omega) hk) (py_pw9 (by omega) hm))) (by decide)
              have hB0 : 0 < fb_sm (py_pw k m) 9 := by
                have := fb_sm_part (py_pw k m) (i := 0) (n := 9) (by decide)
                have h3 : 0 < py_pw k m 0 := Nat.mul_pos (Nat.pow_pos (by decide)) (Nat.pow_pos (by decide))
                omega
              rw [show zf_X8_penny_41 zfuel (nI x) (nI k) (nI m) u 0 1 = _ from g1, show zf_X9_penny_46 zfuel (nI x) (nI k) (nI m) u 0 1 = _ from g2, py_frC u hA hB0 hB, py_frM u hA hB0 hB]
              exact ⟨_, rfl, rfl⟩
            · rw [if_neg c2, if_pos (Or.inr (py_nle c2)), if_pos rfl]; exact ⟨_, rfl, rfl⟩
/-- a ring by p tenths: the weights -/
def py_rw (n p k : Nat) : Nat := p ^ (k - 1) * (10 - p) ^ (n - 1 - k)
def py_rs (p q m : Nat) : Nat := fb_sm (fun k => p ^ (m - 1 - k) * q ^ k) m
theorem py_ring {n p k : Nat} (hn : n ≤ 8) (hp : p ≤ 9) (hk1 : 1 ≤ k) (hk : k < n) : zf_X8_ringWeight (nI k) (nI n) (nI p) = some (lN (py_rw n p k)) := by
  unfold zf_X8_ringWeight
  rw [show nI k - (1 : Int32) = nI (k - 1) from pk_sub (a := k) (b := 1) hk1, show nI n - (1 : Int32) = nI (n - 1) from pk_sub (a := n) (b := 1) (by omega), pk_sub (by omega), show (10 : Int32) - nI p = nI (10 - p) from pk_sub (a := 10) (b := p) (by omega), tl_i (by omega), tl_i (by omega), tp_c (by omega), tp_c (by omega)]
  simp only [zb, tl_mul]
  rfl
theorem py_rises {p q m : Nat} (hp : p ≤ 9) (hq : q ≤ 10) (hm : m ≤ 8) : ∀ (d y f : Nat), y + d = m → d < f → zf_X9_rises_5 f (nI p) (nI q) (nI m) (lN (fb_sm (fun k => p ^ (m - 1 - k) * q ^ k) y)) (nI y) = some (lN (py_rs p q m)) := by
  intro d
  induction d with
  | zero =>
    intro y f h1 h2
    obtain ⟨f, rfl⟩ : ∃ z, f = z + 1 := ⟨f - 1, by omega⟩
    have : y = m := by omega
    subst this
    show zf_X9_rises_5_b _ _ _ _ _ _ = _
    unfold zf_X9_rises_5_b
    rw [if_pos ((tn_le (by omega) (by omega)).mpr (by omega))]
    rfl
  | succ d ih =>
    intro y f h1 h2
    obtain ⟨f, rfl⟩ : ∃ z, f = z + 1 := ⟨f - 1, by omega⟩
    have g := ih (y + 1) f (by omega) (by omega)
    rw [fb_sm_succ, ← tl_add] at g
    rw [← g]
    show zf_X9_rises_5_b _ _ _ _ _ _ = _
    unfold zf_X9_rises_5_b
    rw [if_neg (nI_ge (by omega) (by omega)), show nI m - (1 : Int32) = nI (m - 1) from pk_sub (a := m) (b := 1) (by omega), pk_sub (by omega), tp_m (by omega) (by omega), tp_m (by omega) (by omega), show nI y + (1 : Int32) = nI (y + 1) from nI_1 _]
    simp only [zb, tl_mul]
theorem py_rises0 {p q m : Nat} (hp : p ≤ 9) (hq : q ≤ 10) (hm : m ≤ 8) : zf_X9_rises (nI p) (nI q) (nI m) = some (lN (py_rs p q m)) := py_rises hp hq hm m 0 zfuel (by omega) (by unfold zfuel; omega)
def py_eA (n p k : Nat) : Nat := p ^ (k - 1) * py_rs p (10 - p) (n - k - 1)
def py_eU (n p k : Nat) : Nat := py_eA n p k * (10 - p) ^ (n - 2) + (py_rs p (10 - p) (n - 2) - py_eA n p k) * p ^ (n - 2)
def py_eD (n p : Nat) : Nat := py_rs p (10 - p) (n - 2) * py_rs p (10 - p) (n - 1)
def py_eB (n p : Nat) : Nat := fb_sm (fun o => py_rw n p (o + 1)) (n - 1)
def py_ec (n p k : Nat) : Bool := decide (py_eA n p k ≤ py_rs p (10 - p) (n - 2)) && (decide (py_rw n p k * py_eD n p = py_eU n p k * py_eB n p) && (decide (0 < py_eB n p) && (decide (0 < py_eD n p) && (decide (py_eU n p k < 2 ^ 63) && (decide (py_eD n p < 2 ^ 63) && (decide (py_rw n p k < 2 ^ 63) && decide (py_eB n p < 2 ^ 63)))))))
set_option maxRecDepth 100000 in
theorem py_end_all : ((List.range 9).all fun n => (List.range 10).all fun p => (List.range 9).all fun k => (decide (n < 3) || (decide (p < 1) || (decide (k < 1) || decide (n ≤ k)))) || py_ec n p k) = true := by decide +kernel
theorem py_end_fin (n : Nat) (h1 : n < 9) (h2 : 3 ≤ n) (p : Nat) (h3 : p < 10) (h4 : 1 ≤ p) (k : Nat) (h5 : k < n) (h6 : 1 ≤ k) : py_eA n p k ≤ py_rs p (10 - p) (n - 2) ∧ py_rw n p k * py_eD n p = py_eU n p k * py_eB n p ∧ 0 < py_eB n p ∧ 0 < py_eD n p ∧ py_eU n p k < 2 ^ 63 ∧ py_eD n p < 2 ^ 63 ∧ py_rw n p k < 2 ^ 63 ∧ py_eB n p < 2 ^ 63 := by
  have a := List.all_eq_true.mp py_end_all n (List.mem_range.mpr h1)
  have b := List.all_eq_true.mp a p (List.mem_range.mpr h3)
  have c := List.all_eq_true.mp b k (List.mem_range.mpr (by omega))
  simp only [py_ec, Bool.or_eq_true, Bool.and_eq_true, decide_eq_true_eq] at c
  rcases c with c | c
  · omega
  · exact c
theorem py_endsum {n p : Nat} (hn : n ≤ 8) (hp : p ≤ 9) (kd stt u v3 : Int32) : ∀ (d o f : Nat), o + d + 1 = n → d < f → zf_X8_end_81 (nI n) kd (nI p) stt f u v3 (lN (fb_sm (fun o => py_rw n p (o + 1)) o)) (nI (o + 1)) = (if v3 = 0 then zf_X8_end_123 (nI n) kd (nI p) stt u (lN (py_eB n p)) 0 else Option.bind (zf_X8_ringWeight v3 (nI n) (nI p)) (fun x => zf_X8_end_123 (nI n) kd (nI p) stt u (lN (py_eB n p)) x)) := by
  intro d
  induction d with
  | zero =>
    intro o f h1 h2
    obtain ⟨f, rfl⟩ : ∃ z, f = z + 1 := ⟨f - 1, by omega⟩
    have : o = n - 1 := by omega
    subst this
    show zf_X8_end_81_b _ kd _ stt _ _ _ _ _ = _
    unfold zf_X8_end_81_b
    rw [if_pos ((tn_le (by omega) (by omega)).mpr (by omega))]
    rfl
  | succ d ih =>
    intro o f h1 h2
    obtain ⟨f, rfl⟩ : ∃ z, f = z + 1 := ⟨f - 1, by omega⟩
    have g := ih (o + 1) f (by omega) (by omega)
    rw [fb_sm_succ, ← tl_add] at g
    rw [← g]
    show zf_X8_end_81_b _ kd _ stt _ _ _ _ _ = _
    unfold zf_X8_end_81_b
    rw [if_neg (nI_ge (by omega) (by omega)), py_ring hn hp (by omega) (by omega), show nI (o + 1) + (1 : Int32) = nI (o + 1 + 1) from nI_1 _]
    simp only [zb]
section PYF
variable {n kd pn b h sc : Nat} {T : Nat → Nat → Nat} {hs st ss : Nat → Nat} {sd : Int64}
variable {ct mt xh xt xs ma mw mt' ms' : Nat → Int32} {cs ck cp ms mk mr x0 x1 x2 x3 x4 mp mf mh mn mc : Int32} {x5 md : Int64}
theorem po_end (hN : py_RN n T kd pn ct cs ck cp mt ms mk mr) (hG : py_RG n b h hs sc st ss sd xh xt xs x0 x1 x2 x3 x4 x5 mp mf mh mn ma mw mc mt' ms' md) (p0 u : Int32) : ∃ r, zf_X8_end p0 u cs ck cp x0 = some r ∧ zf_X9_end p0 u ms mk mr mf = some r := by
  obtain ⟨h2, h8, hkd, hpn, rfl, rfl, rfl, rfl, rfl, rfl, -⟩ := hN
  obtain ⟨hb, -, -, -, -, -, -, -, -, -, -, -, rfl, -, -, -, -, -, -, rfl, -, -, -, -⟩ := hG
  unfold zf_X8_end zf_X9_end
  rcases tn_seat p0 (n := n) (by omega) with ⟨j, hj, rfl⟩ | h0
  · rw [py_has1 h8 hj, py_isSeat1 (by omega) h8 hj]
    simp only [zb, if_neg zone]
    by_cases hk0 : nI kd = 0
    · rw [if_pos hk0, if_pos hk0]
      by_cases hp0 : pn = 0
      · subst hp0
        rw [if_pos (by decide)]
        by_cases hn3 : nI n < 3
        · rw [if_pos hn3]; exact ⟨_, rfl, rfl⟩
        · rw [if_neg hn3, if_pos (show nI 0 = 0 from rfl)]; exact ⟨_, rfl, rfl⟩
      · rw [if_neg (show ¬ nI pn < (1 : Int32) from nI_nlt (a := pn) (b := 1) (by omega) (by omega))]
        by_cases hn3 : 3 ≤ n
        · rw [if_pos (show (3 : Int32) ≤ nI n from nI_le (a := 3) (b := n) hn3 (by omega)), if_neg (show ¬ nI n < (3 : Int32) from nI_nlt (a := n) (b := 3) hn3 (by omega)), if_neg (show ¬ nI pn = 0 from nI_ne0 (by omega) (by omega)), if_neg (show ¬ nI n = 0 from nI_ne0 (by omega) (by omega))]
          have hkk : ∃ k, k < n ∧ (nI j + nI n) - nI b - ((nI j + nI n) - nI b) / nI n * nI n = nI k ∧ (if 0 ≤ nI j - nI b then zf_X8_end_75 (nI n) (nI kd) (nI pn) (nI b) u (nI j - nI b) else zf_X8_end_75 (nI n) (nI kd) (nI pn) (nI b) u (nI j - nI b + nI n)) = zf_X8_end_75 (nI n) (nI kd) (nI pn) (nI b) u (nI k) := by
            rw [nI_add, pk_sub (show b ≤ j + n by omega), pk_rem (by omega) (by omega) (by omega)]
            by_cases hbj : b ≤ j
            · refine ⟨j - b, by omega, ?_, ?_⟩
              · congr 1
                rw [show j + n - b = (j - b) + n by omega, Nat.add_mod_right, Nat.mod_eq_of_lt (by omega)]
              · rw [pk_sub hbj, if_pos (tn_p0 (by omega))]
            · refine ⟨j + n - b, by omega, ?_, ?_⟩
              · congr 1
                exact Nat.mod_eq_of_lt (by omega)
              · have hneg : nI j - nI b < 0 := pk_sneg (by omega) (by omega)
                rw [if_neg (fun z => absurd hneg (Int32.not_lt.mpr z)), show nI j - nI b + nI n = nI (j + n - b) from by
                  rw [← pk_sub (show b ≤ j + n by omega), ← nI_add, Int32.sub_eq_add_neg, Int32.sub_eq_add_neg, Int32.add_assoc, Int32.add_assoc, Int32.add_comm (-nI b)]]
          obtain ⟨k, hk, e1, e2⟩ := hkk
          rw [e1, e2]
          unfold zf_X8_end_75
          have es := py_endsum (p := pn) h8 hpn (nI kd) (nI b) u (nI k) (n - 1) 0 zfuel (by omega) (by unfold zfuel; omega)
          rw [show zf_X8_end_81 (nI n) (nI kd) (nI pn) (nI b) zfuel u (nI k) 0 1 = _ from es]
          unfold zf_X8_end_123
          have hfin1 := py_end_fin n (by omega) hn3 pn (by omega) (by omega) 1 (by omega) (by omega)
          by_cases hk00 : k = 0
          · subst hk00
            rw [if_pos (show nI 0 = 0 from rfl), if_pos (show nI 0 = 0 from rfl), show (0 : Int64) = lN 0 from rfl, py_frC u (by decide) hfin1.2.2.1 hfin1.2.2.2.2.2.2.2]
            refine ⟨_, rfl, ?_⟩
            unfold py_fr
            rw [Nat.gcd_zero_left, Nat.div_self hfin1.2.2.1, Nat.zero_div]
            by_cases hu : u = 0
            · rw [if_pos hu, if_pos hu]; rfl
            · rw [if_neg hu, if_neg hu]
          · obtain ⟨f1, f2, f3, f4, f5, f6, f7, f8⟩ := py_end_fin n (by omega) hn3 pn (by omega) (by omega) k hk (by omega)
            rw [if_neg (show ¬ nI k = 0 from nI_ne0 (by omega) (by omega)), if_neg (show ¬ nI k = 0 from nI_ne0 (by omega) (by omega)), py_ring h8 hpn (by omega) hk,
              show (10 : Int32) - nI pn = nI (10 - pn) from pk_sub (a := 10) (b := pn) (by omega), show nI n - (2 : Int32) = nI (n - 2) from pk_sub (a := n) (b := 2) (by omega), show nI k - (1 : Int32) = nI (k - 1) from pk_sub (a := k) (b := 1) (by omega), pk_sub (show k ≤ n by omega), show nI (n - k) - (1 : Int32) = nI (n - k - 1) from pk_sub (a := n - k) (b := 1) (by omega), show nI n - (1 : Int32) = nI (n - 1) from pk_sub (a := n) (b := 1) (by omega),
              py_rises0 hpn (by omega) (by omega), py_rises0 hpn (by omega) (by omega), py_rises0 hpn (by omega) (by omega), tp_m (by omega) (by omega), tp_m (by omega) (by omega), tp_m (by omega) (by omega)]
            simp only [zb]
            rw [tl_mul, show lN (pn ^ (k - 1) * py_rs pn (10 - pn) (n - k - 1)) = lN (py_eA n pn k) from rfl, lN_sub f1, tl_mul, tl_mul, tl_mul, tl_add, show lN (py_eA n pn k * (10 - pn) ^ (n - 2) + (py_rs pn (10 - pn) (n - 2) - py_eA n pn k) * pn ^ (n - 2)) = lN (py_eU n pn k) from rfl, show lN (py_rs pn (10 - pn) (n - 2) * py_rs pn (10 - pn) (n - 1)) = lN (py_eD n pn) from rfl, py_frC u f7 f3 f8, py_frM u f5 f4 f6]
            refine ⟨_, rfl, ?_⟩
            simp only [zb]
            rw [py_fr_cross u f3 f4 f2]
        · rw [if_neg (show ¬ (3 : Int32) ≤ nI n from nI_ge (a := n) (b := 3) (by omega) (by decide)), if_pos (show nI n < (3 : Int32) from nI_lt (a := n) (b := 3) (by omega) (by decide))]
          exact ⟨_, rfl, rfl⟩
    · rw [if_neg hk0, if_neg hk0]
      exact ⟨_, rfl, rfl⟩
  · rw [py_has0 h0, py_isSeat0 (by omega) h8 h0]
    exact ⟨_, rfl, rfl⟩
end PYF
