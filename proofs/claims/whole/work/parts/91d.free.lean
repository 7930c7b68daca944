/-! ===== the hands of the text, one by one ===== -/
section PYRO
variable {n len p : Nat} {D : Nat → Nat → Nat} {tx : Nat → Nat} {xb mt rt ct to wc : Nat → Int32}
theorem py_roomAt (h8 : n ≤ 8) (hd : py_DD n D) (hC : py_CD D ct to wc) (q : Nat) : zf_X3_hasRoomFrom (if py_dg len tx q = true then nI (tx q - 48) else -1) to (nI n) = some (if py_on len tx q (py_op n D) = true then 1 else 0) := by
  unfold py_on
  by_cases c : py_dg len tx q = true
  · have := py_dgE c
    rw [if_pos c, py_roomFrom hd h8 hC (by omega), c, Bool.true_and]
  · rw [if_neg c]
    have c' : py_dg len tx q = false := by simpa using c
    rw [c', Bool.false_and, if_neg (by decide)]
    unfold zf_X3_hasRoomFrom
    rw [py_hasM]
    rfl
theorem py_freeAt (h8 : n ≤ 8) (hd : py_DD n D) (hC : py_CD D ct to wc) (q : Nat) {i : Nat} (hi : i < n) : zf_X3_isFree (nI i) (if py_dg len tx q = true then nI (tx q - 48) else -1) ct (nI n) = some (if py_on len tx q (py_un n D i) = true then 1 else 0) := by
  unfold py_on
  by_cases c : py_dg len tx q = true
  · have := py_dgE c
    rw [if_pos c, py_free h8 hd hC hi (by omega), c, Bool.true_and]
  · rw [if_neg c]
    have c' : py_dg len tx q = false := by simpa using c
    rw [c', Bool.false_and, if_neg (by decide)]
    unfold zf_X3_isFree
    rw [py_hasM, py_has1 h8 hi]
    rfl
theorem py_readOne (h8 : n ≤ 8) (hd : py_DD n D) (hC : py_CD D ct to wc) (hl : len ≤ 98) (h : ∀ i, i < len → tx i < 256 ∧ xb i = nI (tx i)) (hp : p < 100) (hA : p < len ∧ tx p = 72 ∧ ¬ py_op n D = 0) :
    (py_out n len tx D p = p + 4 ∧ tx (p + 1) - 48 < n ∧ (tx (p + 2) - 48 < n ∧ ¬ tx (p + 2) - 48 = tx (p + 1) - 48 ∧ D (tx (p + 1) - 48) (tx (p + 2) - 48) = 0) ∧ p + 4 ≤ len ∧ py_S D (tx (p + 1) - 48) + (if tx (p + 3) - 48 = 0 then 10 else tx (p + 3) - 48) ≤ 10 ∧
      ∃ ct' to' wc', zf_X7_readOne (nI p) xb (nI len) (nI n) ct to wc = some (-9, ct', to', wc') ∧ py_CD (py_pt D (tx (p + 1) - 48) (tx (p + 2) - 48) (if tx (p + 3) - 48 = 0 then 10 else tx (p + 3) - 48)) ct' to' wc') ∨
    (¬ py_out n len tx D p = p + 4 ∧ zf_X7_readOne (nI p) xb (nI len) (nI n) ct to wc = some (nI (py_out n len tx D p), ct, to, wc)) := by
  unfold zf_X7_readOne
  rw [py_byteAt hl h (p := p) (by omega), if_pos hA.1, hA.2.1]
  simp only [zb]
  rw [if_pos (show nI 72 = 72 from rfl), py_room hd h8 hC, if_neg hA.2.2]
  simp only [zb, if_neg zone]
  rw [show nI p + (1 : Int32) = nI (p + 1) from nI_1 p, show nI p + (2 : Int32) = nI (p + 2) from nI_add p 2, show nI p + (3 : Int32) = nI (p + 3) from nI_add p 3, py_figAt hl h (p := p + 1) (by omega)]
  simp only [zb]
  rw [py_roomAt h8 hd hC]
  simp only [zb]
  by_cases c1 : py_on len tx (p + 1) (py_op n D) = true
  · have hb := c1
    unfold py_on at hb
    rw [Bool.and_eq_true, py_op_bit, decide_eq_true_iff] at hb
    have hi : tx (p + 1) - 48 < n := hb.2.1
    rw [if_pos c1, if_neg zone, py_figAt hl h (p := p + 2) (by omega), if_pos hb.1]
    simp only [zb]
    rw [py_freeAt h8 hd hC _ hi]
    simp only [zb]
    by_cases c2 : py_on len tx (p + 2) (py_un n D (tx (p + 1) - 48)) = true
    · have hb2 := c2
      unfold py_on at hb2
      rw [Bool.and_eq_true, py_un_bit, decide_eq_true_iff] at hb2
      have hj := hb2.2
      rw [if_pos c2, if_neg zone, py_figAt hl h (p := p + 3) (by omega), if_pos hb2.1]
      simp only [zb]
      unfold zf_X7_readOne_83
      rw [show nI p + (3 : Int32) = nI (p + 3) from nI_add p 3]
      have hout : py_out n len tx D p = if py_on len tx (p + 3) (py_lm n D (tx (p + 1) - 48) (tx (p + 2) - 48)) = true then p + 4 else p + 3 := by unfold py_out; rw [if_pos c1, if_pos c2]
      by_cases d3 : py_dg len tx (p + 3) = true
      · have hb3 := py_dgE d3
        have hf : tx (p + 3) - 48 < 10 := by omega
        rw [if_pos d3]
        have can := py_can (f := tx (p + 3) - 48) h8 hd hC hi hj hf rfl
        have hon : py_on len tx (p + 3) (py_lm n D (tx (p + 1) - 48) (tx (p + 2) - 48)) = (py_lm n D (tx (p + 1) - 48) (tx (p + 2) - 48)).testBit (tx (p + 3) - 48) := by unfold py_on; rw [d3, Bool.true_and]
        have hP : ∀ x : Int32, x = nI (if tx (p + 3) - 48 = 0 then 10 else tx (p + 3) - 48) → (py_out n len tx D p = p + 4 ∧ tx (p + 1) - 48 < n ∧ (tx (p + 2) - 48 < n ∧ ¬ tx (p + 2) - 48 = tx (p + 1) - 48 ∧ D (tx (p + 1) - 48) (tx (p + 2) - 48) = 0) ∧ p + 4 ≤ len ∧ py_S D (tx (p + 1) - 48) + (if tx (p + 3) - 48 = 0 then 10 else tx (p + 3) - 48) ≤ 10 ∧
      ∃ ct' to' wc', Option.bind (zf_X3_canTell (nI (tx (p + 1) - 48)) x to wc (nI n)) (fun x_1 => if x_1 = 0 then some (nI (p + 3), ct, to, wc) else Option.bind (zf_X3_tell (nI (tx (p + 1) - 48)) (nI (tx (p + 2) - 48)) x (nI n) ct to wc) (fun x_4 => some (-9, x_4.1, x_4.2.1, x_4.2.2))) = some (-9, ct', to', wc') ∧ py_CD (py_pt D (tx (p + 1) - 48) (tx (p + 2) - 48) (if tx (p + 3) - 48 = 0 then 10 else tx (p + 3) - 48)) ct' to' wc') ∨
    (¬ py_out n len tx D p = p + 4 ∧ Option.bind (zf_X3_canTell (nI (tx (p + 1) - 48)) x to wc (nI n)) (fun x_1 => if x_1 = 0 then some (nI (p + 3), ct, to, wc) else Option.bind (zf_X3_tell (nI (tx (p + 1) - 48)) (nI (tx (p + 2) - 48)) x (nI n) ct to wc) (fun x_4 => some (-9, x_4.1, x_4.2.1, x_4.2.2))) = some (nI (py_out n len tx D p), ct, to, wc)) := by
          intro x hx
          subst hx
          rw [can, hout, hon]
          simp only [zb]
          by_cases c3 : (py_lm n D (tx (p + 1) - 48) (tx (p + 2) - 48)).testBit (tx (p + 3) - 48) = true
          · left
            rw [if_pos c3, if_pos c3, if_neg zone]
            have hp1 : 1 ≤ (if tx (p + 3) - 48 = 0 then 10 else tx (p + 3) - 48) := by
              by_cases e : tx (p + 3) - 48 = 0
              · rw [if_pos e]; omega
              · rw [if_neg e]; omega
            obtain ⟨ct', to', wc', t1, t2⟩ := py_tell (p := if tx (p + 3) - 48 = 0 then 10 else tx (p + 3) - 48) h8 hC hi hj hp1
            refine ⟨rfl, hi, hj, by omega, ?_, ct', to', wc', ?_, t2⟩
            · unfold py_lm at c3
              rw [py_mask_bit, decide_eq_true hf, Bool.true_and] at c3
              unfold py_lf at c3
              have hS := hd.2 (tx (p + 1) - 48)
              by_cases e : tx (p + 3) - 48 = 0
              · rw [if_pos e] at c3
                have := of_decide_eq_true c3
                rw [if_pos e]
                omega
              · rw [if_neg e] at c3
                have := of_decide_eq_true c3
                rw [if_neg e]
                rcases this with this | this <;> omega
            · rw [t1]
              rfl
          · right
            rw [if_neg c3, if_neg c3, if_pos rfl]
            exact ⟨by omega, rfl⟩
        by_cases e : tx (p + 3) - 48 = 0
        · rw [if_pos (show nI (tx (p + 3) - 48) = 0 from by rw [e]; rfl)]
          exact hP 10 (by rw [if_pos e]; rfl)
        · rw [if_neg (show ¬ nI (tx (p + 3) - 48) = 0 from nI_ne0 (by omega) (by omega))]
          exact hP _ (by rw [if_neg e])
      · right
        have d3' : py_dg len tx (p + 3) = false := by simpa using d3
        have hout3 : py_out n len tx D p = p + 3 := by
          rw [hout]
          unfold py_on
          rw [d3', Bool.false_and, if_neg (by decide)]
        rw [if_neg d3, if_neg (show ¬ (-1 : Int32) = 0 by decide), hout3]
        refine ⟨by omega, ?_⟩
        unfold zf_X3_canTell
        rw [py_has1 h8 hi]
        simp only [zb, if_neg zone]
        rw [if_neg (show ¬ (1 : Int32) ≤ -1 by decide)]
        simp only [zb]
        rw [if_pos trivial]
    · right
      have hout : py_out n len tx D p = p + 2 := by unfold py_out; rw [if_pos c1, if_neg c2]
      rw [if_neg c2, if_pos rfl, hout]
      exact ⟨by omega, rfl⟩
  · right
    have hout : py_out n len tx D p = p + 1 := by unfold py_out; rw [if_neg c1]
    rw [if_neg c1, if_pos rfl, hout]
    exact ⟨by omega, rfl⟩
theorem py_readOne0 (h8 : n ≤ 8) (hd : py_DD n D) (hC : py_CD D ct to wc) (hl : len ≤ 98) (h : ∀ i, i < len → tx i < 256 ∧ xb i = nI (tx i)) (hp : p < len) (hA : ¬ (tx p = 72 ∧ ¬ py_op n D = 0)) :
    zf_X7_readOne (nI p) xb (nI len) (nI n) ct to wc = some (nI p, ct, to, wc) := by
  have h2 := (h p hp).1
  unfold zf_X7_readOne
  rw [py_byteAt hl h (p := p) (by omega), if_pos hp]
  simp only [zb]
  by_cases c : tx p = 72
  · rw [if_pos (show nI (tx p) = 72 from by rw [c]; rfl), py_room hd h8 hC, if_pos (by
      by_cases c2 : py_op n D = 0
      · exact c2
      · exact absurd ⟨c, c2⟩ hA)]
    rfl
  · rw [if_neg (show ¬ nI (tx p) = 72 from fun z => c ((tn_eq (a := tx p) (b := 72) (by omega) (by decide)).mp z))]
/-! all told, or nothing -/
def py_whole (n : Nat) (D : Nat → Nat → Nat) : Prop := ∀ i, i < n → py_S D i = 0 ∨ py_S D i = 10
theorem py_wholeC (h8 : n ≤ 8) (hd : py_DD n D) (hC : py_CD D ct to wc) : (py_whole n D ∧ zf_X3_isWhole to (nI n) = some 1) ∨ (¬ py_whole n D ∧ zf_X3_isWhole to (nI n) = some 0) := by
  have A : ∀ (d q m : Nat), q + d = n → d < m → (∀ i, i < q → py_S D i = 0 ∨ py_S D i = 10) → (py_whole n D ∧ zf_X3_isWhole_2 to (nI n) m (nI q) = some 1) ∨ (¬ py_whole n D ∧ zf_X3_isWhole_2 to (nI n) m (nI q) = some 0) := by
    intro d
    induction d with
    | zero =>
      intro q m e1 e2 h
      obtain ⟨f, rfl⟩ : ∃ f, m = f + 1 := ⟨m - 1, by omega⟩
      have : q = n := by omega
      subst this
      left
      refine ⟨h, ?_⟩
      show zf_X3_isWhole_2_b _ _ _ _ = _
      unfold zf_X3_isWhole_2_b
      rw [if_pos ((tn_le (by omega) (by omega)).mpr (by omega))]
    | succ d ih =>
      intro q m e1 e2 h
      obtain ⟨f, rfl⟩ : ∃ f, m = f + 1 := ⟨m - 1, by omega⟩
      have hS := hd.2 q
      have e0 : zf_X3_isWhole_2 to (nI n) (f + 1) (nI q) = if nI (py_S D q) ≤ 0 then zf_X3_isWhole_2 to (nI n) f (nI (q + 1)) else if (10 : Int32) ≤ nI (py_S D q) then zf_X3_isWhole_2 to (nI n) f (nI (q + 1)) else some 0 := by
        show zf_X3_isWhole_2_b _ _ _ _ = _
        unfold zf_X3_isWhole_2_b zf_X3_isWhole_40
        rw [if_neg (nI_ge (a := q) (b := n) (by omega) (by omega)), py_has1 h8 (show q < n by omega)]
        simp only [zb, if_neg zone]
        rw [if_neg (tn_in (a := q) (N := 8) (by omega) (by decide)), tn_cl (by omega), (hC.2 q (by omega)).1, show nI q + (1 : Int32) = nI (q + 1) from nI_1 q]
      rw [e0]
      have nxt : (py_S D q = 0 ∨ py_S D q = 10) → (∀ i, i < q + 1 → py_S D i = 0 ∨ py_S D i = 10) := fun hq i hi => by
        by_cases e : i = q
        · rw [e]; exact hq
        · exact h i (by omega)
      by_cases c1 : py_S D q = 0
      · rw [if_pos ((py_z0 (by omega)).mpr c1)]
        exact ih (q + 1) f (by omega) (by omega) (nxt (Or.inl c1))
      · rw [if_neg (fun z => c1 ((py_z0 (by omega)).mp z))]
        by_cases c2 : py_S D q = 10
        · rw [if_pos (show (10 : Int32) ≤ nI (py_S D q) from nI_le (a := 10) (b := py_S D q) (by omega) (by omega))]
          exact ih (q + 1) f (by omega) (by omega) (nxt (Or.inr c2))
        · rw [if_neg (show ¬ (10 : Int32) ≤ nI (py_S D q) from nI_ge (a := py_S D q) (b := 10) (by omega) (by decide))]
          right
          exact ⟨fun z => by rcases z q (by omega) with z | z <;> omega, rfl⟩
  exact A n 0 zfuel (by omega) (by unfold zfuel; omega) (fun i hi => absurd hi (by omega))
theorem py_wholeM (h8 : n ≤ 8) (hd : py_DD n D) (hM : py_MD D rt) : (py_whole n D ∧ zf_X9_isWhole rt (nI n) = some 1) ∨ (¬ py_whole n D ∧ zf_X9_isWhole rt (nI n) = some 0) := by
  have B : ∀ (d q m : Nat), q + d = n → d < m → zf_X9_isWhole_4 rt (nI n) m 0 (nI q) = some 0 := by
    intro d
    induction d with
    | zero =>
      intro q m e1 e2
      obtain ⟨f, rfl⟩ : ∃ f, m = f + 1 := ⟨m - 1, by omega⟩
      have : q = n := by omega
      subst this
      show zf_X9_isWhole_4_b _ _ _ _ _ = _
      unfold zf_X9_isWhole_4_b
      rw [if_pos ((tn_le (by omega) (by omega)).mpr (by omega)), if_pos (Or.inl rfl)]
    | succ d ih =>
      intro q m e1 e2
      obtain ⟨f, rfl⟩ : ∃ f, m = f + 1 := ⟨m - 1, by omega⟩
      show zf_X9_isWhole_4_b _ _ _ _ _ = _
      unfold zf_X9_isWhole_4_b zf_X9_isWhole_38 zf_X9_isWhole_39
      rw [if_neg (nI_ge (a := q) (b := n) (by omega) (by omega)), if_pos rfl, show nI q + (1 : Int32) = nI (q + 1) from nI_1 q]
      exact ih (q + 1) f (by omega) (by omega)
  have A : ∀ (d q m : Nat), q + d = n → d < m → (∀ i, i < q → py_S D i = 0 ∨ py_S D i = 10) → (py_whole n D ∧ zf_X9_isWhole_4 rt (nI n) m 1 (nI q) = some 1) ∨ (¬ py_whole n D ∧ zf_X9_isWhole_4 rt (nI n) m 1 (nI q) = some 0) := by
    intro d
    induction d with
    | zero =>
      intro q m e1 e2 h
      obtain ⟨f, rfl⟩ : ∃ f, m = f + 1 := ⟨m - 1, by omega⟩
      have : q = n := by omega
      subst this
      left
      refine ⟨h, ?_⟩
      show zf_X9_isWhole_4_b _ _ _ _ _ = _
      unfold zf_X9_isWhole_4_b
      rw [if_pos ((tn_le (by omega) (by omega)).mpr (by omega)), if_pos (Or.inr rfl)]
    | succ d ih =>
      intro q m e1 e2 h
      obtain ⟨f, rfl⟩ : ∃ f, m = f + 1 := ⟨m - 1, by omega⟩
      have hS := hd.2 q
      have e0 : zf_X9_isWhole_4 rt (nI n) (f + 1) 1 (nI q) = if nI (py_S D q) = 0 then zf_X9_isWhole_4 rt (nI n) f 1 (nI (q + 1)) else if nI (py_S D q) = 10 then zf_X9_isWhole_4 rt (nI n) f 1 (nI (q + 1)) else zf_X9_isWhole_4 rt (nI n) f 0 (nI (q + 1)) := by
        show zf_X9_isWhole_4_b _ _ _ _ _ = _
        unfold zf_X9_isWhole_4_b zf_X9_isWhole_34 zf_X9_isWhole_38 zf_X9_isWhole_39
        rw [if_neg (nI_ge (a := q) (b := n) (by omega) (by omega)), if_neg zone, py_sumM hM (by omega), show nI q + (1 : Int32) = nI (q + 1) from nI_1 q]
        rfl
      rw [e0]
      have nxt : (py_S D q = 0 ∨ py_S D q = 10) → (∀ i, i < q + 1 → py_S D i = 0 ∨ py_S D i = 10) := fun hq i hi => by
        by_cases e : i = q
        · rw [e]; exact hq
        · exact h i (by omega)
      by_cases c1 : py_S D q = 0
      · rw [if_pos (show nI (py_S D q) = 0 from by rw [c1]; rfl)]
        exact ih (q + 1) f (by omega) (by omega) (nxt (Or.inl c1))
      · rw [if_neg (show ¬ nI (py_S D q) = 0 from nI_ne0 (by omega) (by omega))]
        by_cases c2 : py_S D q = 10
        · rw [if_pos (show nI (py_S D q) = 10 from by rw [c2]; rfl)]
          exact ih (q + 1) f (by omega) (by omega) (nxt (Or.inr c2))
        · rw [if_neg (show ¬ nI (py_S D q) = 10 from fun z => c2 ((tn_eq (a := py_S D q) (b := 10) (by omega) (by decide)).mp z)), B d (q + 1) f (by omega) (by omega)]
          right
          exact ⟨fun z => by rcases z q (by omega) with z | z <;> omega, rfl⟩
  exact A n 0 zfuel (by omega) (by unfold zfuel; omega) (fun i hi => absurd hi (by omega))
end PYRO
