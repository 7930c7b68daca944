/-! ===== reading the text: bytes, figures, sets of figures ===== -/
def py_mask (c : Nat → Bool) : Nat → Nat
  | 0 => 0
  | q + 1 => if c q = true then py_mask c q ||| 2 ^ q else py_mask c q
theorem py_mask_lt (c : Nat → Bool) : ∀ q, py_mask c q < 2 ^ q
  | 0 => by show 0 < 1; omega
  | q + 1 => by
    have h := py_mask_lt c q
    have h1 : 2 ^ q < 2 ^ (q + 1) := Nat.pow_lt_pow_right (by decide) (by omega)
    show (if c q = true then py_mask c q ||| 2 ^ q else py_mask c q) < _
    by_cases e : c q = true
    · rw [if_pos e]; exact Nat.or_lt_two_pow (by omega) h1
    · rw [if_neg e]; omega
theorem py_mask_bit (c : Nat → Bool) (i : Nat) : ∀ q, (py_mask c q).testBit i = (decide (i < q) && c i)
  | 0 => by
    show (0 : Nat).testBit i = _
    rw [Nat.zero_testBit]
    simp
  | q + 1 => by
    show (if c q = true then py_mask c q ||| 2 ^ q else py_mask c q).testBit i = _
    by_cases e : c q = true
    · rw [if_pos e, fb_bit_set, py_mask_bit c i q]
      by_cases e2 : i = q
      · subst e2
        simp [e]
      · have : decide (i < q + 1) = decide (i < q) := by
          by_cases e3 : i < q
          · rw [decide_eq_true e3, decide_eq_true (by omega)]
          · rw [decide_eq_false e3, decide_eq_false (by omega)]
        rw [this]
        simp [e2]
    · rw [if_neg e, py_mask_bit c i q]
      by_cases e2 : i = q
      · subst e2
        have : c i = false := by cases h : c i <;> simp_all
        rw [this, Bool.and_false, Bool.and_false]
      · have : decide (i < q + 1) = decide (i < q) := by
          by_cases e3 : i < q
          · rw [decide_eq_true e3, decide_eq_true (by omega)]
          · rw [decide_eq_false e3, decide_eq_false (by omega)]
        rw [this]
theorem py_mask_0 {c : Nat → Bool} {q : Nat} : py_mask c q = 0 ↔ ∀ i, i < q → c i = false := by
  constructor
  · intro h i hi
    have := py_mask_bit c i q
    rw [h, Nat.zero_testBit, decide_eq_true hi, Bool.true_and] at this
    exact this.symm
  · intro h
    apply Nat.eq_of_testBit_eq
    intro i
    rw [py_mask_bit, Nat.zero_testBit]
    by_cases e : i < q
    · rw [h i e, Bool.and_false]
    · rw [decide_eq_false e, Bool.false_and]
theorem py_and1 (y : Int32) : (y &&& 1) = 0 ↔ bt y 0 = false := by
  constructor
  · intro h
    have h2 := b_and y 1 0
    rw [h, b_0] at h2
    have h3 : bt 1 0 = true := by decide
    rw [h3, Bool.and_true] at h2
    exact h2.symm
  · intro h
    apply b_ext
    intro i hi
    rw [b_and, b_0]
    by_cases e : i = 0
    · rw [e, h, Bool.false_and]
    · have : ∀ i, i < 32 → i ≠ 0 → bt 1 i = false := by decide
      rw [this i hi e, Bool.and_false]
theorem py_btN {M i : Nat} (hi : i < 32) : bt (nI M) i = M.testBit i := by
  show (BitVec.ofNat 32 M).getLsbD i = _
  rw [BitVec.getLsbD_ofNat, decide_eq_true hi, Bool.true_and]
theorem py_pick {M f : Nat} (hf : f < 10) : ((nI M >>> (nI f &&& 31)) &&& 1) = 0 ↔ M.testBit f = false := by
  rw [py_and1, b_sshr f (by omega) (nI M) (by omega), if_pos (by omega), Nat.add_zero, py_btN (by omega)]
/-- there is a figure at p -/
def py_dg (len : Nat) (tx : Nat → Nat) (p : Nat) : Bool := decide (p < len ∧ 48 ≤ tx p ∧ tx p ≤ 57)
/-- and it is one of these -/
def py_on (len : Nat) (tx : Nat → Nat) (p M : Nat) : Bool := py_dg len tx p && M.testBit (tx p - 48)
theorem py_dgE {len : Nat} {tx : Nat → Nat} {p : Nat} (h : py_dg len tx p = true) : p < len ∧ 48 ≤ tx p ∧ tx p ≤ 57 := of_decide_eq_true h
theorem py_dgN {len : Nat} {tx : Nat → Nat} {p : Nat} (h : ¬ py_dg len tx p = true) : ¬ (p < len ∧ 48 ≤ tx p ∧ tx p ≤ 57) := fun z => h (decide_eq_true z)
section PYTX
variable {len : Nat} {tx : Nat → Nat} {xb mt : Nat → Int32}
theorem py_byteAt (hl : len ≤ 98) (h : ∀ i, i < len → tx i < 256 ∧ xb i = nI (tx i)) {p : Nat} (hp : p < 1000) : zf_X7_byteAt (nI p) xb (nI len) = some (if p < len then nI (tx p) else -1) := by
  unfold zf_X7_byteAt
  rw [if_neg (tn_n0 (by omega))]
  by_cases e : p < len
  · rw [if_neg (nI_ge (a := p) (b := len) (by omega) (by omega)), if_pos (show nI p < (98 : Int32) from nI_lt (a := p) (b := 98) (by omega) (by decide)), if_neg (tn_in (a := p) (N := 98) (by omega) (by decide)), tn_cl (by omega), if_pos e, (h p e).2]
  · rw [if_pos ((tn_le (by omega) (by omega)).mpr (by omega)), if_neg e]
theorem py_figAt (hl : len ≤ 98) (h : ∀ i, i < len → tx i < 256 ∧ xb i = nI (tx i)) {p : Nat} (hp : p < 1000) : zf_X7_figureAt (nI p) xb (nI len) = some (if py_dg len tx p = true then nI (tx p - 48) else -1) := by
  unfold zf_X7_figureAt
  rw [py_byteAt hl h hp]
  simp only [zb]
  by_cases e : p < len
  · have h2 := (h p e).1
    rw [if_pos e]
    by_cases e1 : tx p < 48
    · rw [if_pos (show nI (tx p) < (48 : Int32) from nI_lt (a := tx p) (b := 48) e1 (by decide)), if_neg (fun z => absurd (py_dgE z) (by omega))]
    · rw [if_neg (show ¬ nI (tx p) < (48 : Int32) from nI_nlt (a := tx p) (b := 48) (by omega) (by omega))]
      by_cases e2 : 57 < tx p
      · rw [if_pos (show (57 : Int32) < nI (tx p) from nI_lt (a := 57) (b := tx p) e2 (by omega)), if_neg (fun z => absurd (py_dgE z) (by omega))]
      · rw [if_neg (show ¬ (57 : Int32) < nI (tx p) from nI_nlt (a := 57) (b := tx p) (by omega) (by omega)), if_pos (show py_dg len tx p = true from decide_eq_true (by omega)), show nI (tx p) - (48 : Int32) = nI (tx p - 48) from pk_sub (a := tx p) (b := 48) (by omega)]
  · rw [if_neg e, if_pos (by decide), if_neg (fun z => absurd (py_dgE z) (by omega))]
theorem py_fig57 (q : Int32) (hq : ¬ q = -9) (M : Nat) (p : Int32) : zf_X9_figure (nI M) mt (nI len) p q = some (0, p, q) := by
  unfold zf_X9_figure zf_X9_figure_35 zf_X9_figure_36 zf_X9_figure_57
  rw [if_neg hq, py_in0 (l := 0) (Or.inl (by decide))]
  simp only [zb]
  rw [if_pos trivial, if_neg hq]
theorem py_figM (hl : len ≤ 98) (h : ∀ i, i < len → tx i < 256 ∧ mt i = nI (tx i)) {p : Nat} (hp : p < 1000) (M : Nat) : zf_X9_figure (nI M) mt (nI len) (nI p) (-9) = some (if py_on len tx p M = true then (nI (tx p - 48), nI (p + 1), -9) else (0, nI p, nI p)) := by
  have bad : zf_X9_figure_57 mt (nI len) (nI p) (-9) = some ((0 : Int32), nI p, nI p) := by
    unfold zf_X9_figure_57
    rw [if_pos rfl]
  unfold zf_X9_figure
  rw [if_pos rfl]
  by_cases e : p < len
  · have h2 := (h p e).1
    rw [if_neg (nI_ge (a := p) (b := len) (by omega) (by omega)), if_neg (tn_in (a := p) (N := 98) (by omega) (by decide)), tn_cl (by omega), (h p e).2]
    unfold zf_X9_figure_36
    by_cases e1 : tx p < 48
    · have c1 : nI (tx p) - (48 : Int32) < 0 := by
        rw [fa_lt]
        have : (nI (tx p) - (48 : Int32)).toInt = (nI (tx p)).toInt - (48 : Int32).toInt := fb_subI (by rw [nI_toInt (by omega), show (48 : Int32).toInt = 48 from rfl]; omega) (by rw [nI_toInt (by omega), show (48 : Int32).toInt = 48 from rfl]; omega)
        rw [this, nI_toInt (by omega), show (48 : Int32).toInt = 48 from rfl, show (0 : Int32).toInt = 0 from rfl]
        omega
      rw [py_in0 (l := 0) (Or.inl ((fa_wide_lt _ 0).mpr c1))]
      simp only [zb]
      rw [if_pos trivial, bad, if_neg (by unfold py_on; rw [show py_dg len tx p = false from decide_eq_false (by omega), Bool.false_and]; decide)]
    · rw [show nI (tx p) - (48 : Int32) = nI (tx p - 48) from pk_sub (a := tx p) (b := 48) (by omega)]
      by_cases e2 : 57 < tx p
      · rw [tl_i (by omega), py_in0 (l := 0) (m := 9) (Or.inr ((pk_lLT (a := 9) (b := tx p - 48) (by decide) (by omega)).mpr (by omega)))]
        simp only [zb]
        rw [if_pos trivial, bad, if_neg (by unfold py_on; rw [show py_dg len tx p = false from decide_eq_false (by omega), Bool.false_and]; decide)]
      · rw [tl_i (by omega), py_in1 (l := 0) (m := 9) (fun z => absurd ((pk_lLT (a := tx p - 48) (b := 0) (by omega) (by decide)).mp z) (by omega)) (fun z => absurd ((pk_lLT (a := 9) (b := tx p - 48) (by decide) (by omega)).mp z) (by omega))]
        simp only [zb]
        rw [if_neg zone]
        have d1 : py_dg len tx p = true := decide_eq_true (by omega)
        unfold py_on
        rw [d1, Bool.true_and]
        by_cases e3 : M.testBit (tx p - 48) = true
        · rw [if_neg (fun z => by rw [(py_pick (by omega)).mp z] at e3; exact absurd e3 (by decide)), if_pos e3, show nI p + (1 : Int32) = nI (p + 1) from nI_1 p]
        · rw [if_pos ((py_pick (by omega)).mpr (by simpa using e3)), bad, if_neg e3]
  · rw [if_pos ((tn_le (by omega) (by omega)).mpr (by omega))]
    unfold zf_X9_figure_35 zf_X9_figure_36
    rw [py_in0 (l := 0) (Or.inl (by decide))]
    simp only [zb]
    rw [if_pos trivial, bad, if_neg (by unfold py_on; rw [show py_dg len tx p = false from decide_eq_false (by omega), Bool.false_and]; decide)]
end PYTX
