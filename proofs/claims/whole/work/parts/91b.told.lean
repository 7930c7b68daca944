/-! ===== what is told so far ===== -/
def py_S (D : Nat → Nat → Nat) (i : Nat) : Nat := fb_sm (D i) 8
def py_wc (D : Nat → Nat → Nat) (i : Nat) : Nat := fb_sm (fun j => if D i j = 0 then 0 else 1) 8
def py_DD (n : Nat) (D : Nat → Nat → Nat) : Prop := (∀ i j, (n ≤ i ∨ n ≤ j ∨ i = j) → D i j = 0) ∧ ∀ i, py_S D i ≤ 10
def py_CD (D : Nat → Nat → Nat) (ct to wc : Nat → Int32) : Prop := (∀ i j, i < 8 → j < 8 → ct (8 * i + j) = nI (D i j)) ∧ ∀ i, i < 8 → to i = nI (py_S D i) ∧ wc i = nI (py_wc D i)
def py_MD (D : Nat → Nat → Nat) (rt : Nat → Int32) : Prop := ∀ i j, i < 8 → j < 8 → rt (8 * i + j) = nI (D i j)
def py_op (n : Nat) (D : Nat → Nat → Nat) : Nat := py_mask (fun i => decide (py_S D i < 10)) n
def py_un (n : Nat) (D : Nat → Nat → Nat) (i : Nat) : Nat := py_mask (fun j => decide (¬ j = i ∧ D i j = 0)) n
def py_lf (n : Nat) (D : Nat → Nat → Nat) (i j f : Nat) : Bool := if f = 0 then decide (10 - py_S D i = 10) else decide (f = 10 - py_S D i ∨ (f < 10 - py_S D i ∧ ¬ (py_un n D i = 0 ∨ py_un n D i = 2 ^ j)))
def py_lm (n : Nat) (D : Nat → Nat → Nat) (i j : Nat) : Nat := py_mask (py_lf n D i j) 10
theorem py_D_le {n : Nat} {D : Nat → Nat → Nat} (h : py_DD n D) (i : Nat) {j : Nat} (hj : j < 8) : D i j ≤ 10 := by
  have h1 := fb_sm_part (D i) hj
  have h2 := h.2 i
  unfold py_S at h2
  omega
theorem py_wc_le (D : Nat → Nat → Nat) (i : Nat) : py_wc D i ≤ 8 := by
  have := fb_sm_bound (f := fun j => if D i j = 0 then 0 else 1) (c := 1) (n := 8) (fun k _ => by
    show (if D i k = 0 then 0 else 1) ≤ 1
    by_cases e : D i k = 0
    · rw [if_pos e]; omega
    · rw [if_neg e]; omega)
  unfold py_wc
  omega
theorem py_op_lt {n : Nat} (h8 : n ≤ 8) (D : Nat → Nat → Nat) : py_op n D < 256 := Nat.lt_of_lt_of_le (py_mask_lt _ n) (py_pow8 h8)
theorem py_un_lt {n : Nat} (h8 : n ≤ 8) (D : Nat → Nat → Nat) (i : Nat) : py_un n D i < 256 := Nat.lt_of_lt_of_le (py_mask_lt _ n) (py_pow8 h8)
theorem py_op_bit {n : Nat} {D : Nat → Nat → Nat} {i : Nat} : (py_op n D).testBit i = decide (i < n ∧ py_S D i < 10) := by
  unfold py_op
  rw [py_mask_bit, ← Bool.decide_and]
theorem py_un_bit {n : Nat} {D : Nat → Nat → Nat} {i j : Nat} : (py_un n D i).testBit j = decide (j < n ∧ ¬ j = i ∧ D i j = 0) := by
  unfold py_un
  rw [py_mask_bit, ← Bool.decide_and]
/-- untold others than j: by count -/
theorem py_cnt_un {n : Nat} {D : Nat → Nat → Nat} (h : py_DD n D) (h8 : n ≤ 8) {i : Nat} (hi : i < n) : py_wc D i + fb_sm (fun j => if j < n ∧ ¬ j = i ∧ D i j = 0 then 1 else 0) 8 + 1 = n := by
  have e1 : fb_sm (fun j => if j = i then 1 else 0) 8 = 1 := py_sm_one (by omega)
  unfold py_wc
  have e2 : fb_sm (fun j => (if D i j = 0 then 0 else 1) + (if j < n ∧ ¬ j = i ∧ D i j = 0 then 1 else 0) + (if j = i then 1 else 0)) 8 = fb_sm (fun j => if j < n then 1 else 0) 8 := fb_sm_cong (fun j _ => by
    show (if D i j = 0 then 0 else 1) + (if j < n ∧ ¬ j = i ∧ D i j = 0 then 1 else 0) + (if j = i then 1 else 0) = if j < n then 1 else 0
    by_cases c1 : j < n
    · by_cases c2 : j = i
      · rw [if_pos (h.1 i j (by omega)), if_neg (fun z => z.2.1 c2), if_pos c2, if_pos c1]
      · by_cases c3 : D i j = 0
        · rw [if_pos c3, if_pos ⟨c1, c2, c3⟩, if_neg c2, if_pos c1]
        · rw [if_neg c3, if_neg (fun z => c3 z.2.2), if_neg c2, if_pos c1]
    · rw [if_pos (h.1 i j (by omega)), if_neg (fun z => c1 z.1), if_neg (by omega), if_neg c1])
  have e3 : fb_sm (fun j => if j < n then 1 else 0) 8 = n := by
    rw [py_sm_ext (n := n) (fun k hk => if_neg (by omega)) h8, fb_sm_cong (g := fun _ => 1) (fun k hk => if_pos hk), fb_sm_const, Nat.mul_one]
  rw [fb_sm_add, fb_sm_add] at e2
  omega
theorem py_un_two {n : Nat} {D : Nat → Nat → Nat} (h : py_DD n D) (h8 : n ≤ 8) {i j : Nat} (hi : i < n) (hj : j < n ∧ ¬ j = i ∧ D i j = 0) : (py_un n D i = 0 ∨ py_un n D i = 2 ^ j) ↔ n ≤ py_wc D i + 2 := by
  have hc := py_cnt_un h h8 hi
  have hj8 : j < 8 := by omega
  have h1 := fb_sm_upd (fun j => if j < n ∧ ¬ j = i ∧ D i j = 0 then 1 else 0) 0 hj8
  have h1' : (if j < n ∧ ¬ j = i ∧ D i j = 0 then 1 else 0) = 1 := if_pos hj
  simp only [h1'] at h1
  constructor
  · intro z
    have hno : ∀ k, k < 8 → (fun k => if k = j then 0 else (if k < n ∧ ¬ k = i ∧ D i k = 0 then 1 else 0)) k = 0 := by
      intro k hk
      show (if k = j then 0 else (if k < n ∧ ¬ k = i ∧ D i k = 0 then 1 else 0)) = 0
      by_cases e : k = j
      · rw [if_pos e]
      · rw [if_neg e]
        refine if_neg (fun q => ?_)
        have hb := py_un_bit (n := n) (D := D) (i := i) (j := k)
        rw [decide_eq_true q] at hb
        rcases z with z | z
        · rw [z, Nat.zero_testBit] at hb
          exact absurd hb (by decide)
        · rw [z, Nat.testBit_two_pow] at hb
          exact e (of_decide_eq_true hb).symm
    rw [fb_sm_cong (g := fun _ => 0) hno, fb_sm_const] at h1
    omega
  · intro z
    right
    have hs : fb_sm (fun k => if k = j then 0 else (if k < n ∧ ¬ k = i ∧ D i k = 0 then 1 else 0)) 8 = 0 := by omega
    have hz := fb_sm_zero hs
    apply Nat.eq_of_testBit_eq
    intro k
    rw [py_un_bit, Nat.testBit_two_pow]
    by_cases e : k = j
    · subst e
      rw [decide_eq_true hj, decide_eq_true rfl]
    · rw [decide_eq_false (fun q : j = k => e q.symm)]
      refine decide_eq_false (fun q => ?_)
      have := hz k (by omega)
      rw [if_neg e, if_pos q] at this
      omega
theorem py_and_out : ∀ U, U < 256 → ∀ j, j < 10 → ((nI U &&& ((1 <<< (nI j &&& 31)) ^^^ (-1))) = 0 ↔ (U = 0 ∨ U = 2 ^ j)) := by decide +kernel
section PYTO
variable {n : Nat} {D : Nat → Nat → Nat} {ct to wc rt : Nat → Int32}
/-! the class -/
theorem py_has {i : Nat} (h8 : n ≤ 8) (hi : i < 100) : zf_X3_has (nI i) (nI n) = some (if i < n then 1 else 0) := by
  by_cases e : i < n
  · rw [py_has1 h8 e, if_pos e]
  · rw [py_has0 (Or.inr ((tn_le (by omega) (by omega)).mpr (by omega))), if_neg e]
theorem py_hasM : zf_X3_has (-1) (nI n) = some 0 := py_has0 (Or.inl (by decide))
theorem py_roomFrom (hd : py_DD n D) (h8 : n ≤ 8) (hC : py_CD D ct to wc) {i : Nat} (hi : i < 100) : zf_X3_hasRoomFrom (nI i) to (nI n) = some (if (py_op n D).testBit i = true then 1 else 0) := by
  unfold zf_X3_hasRoomFrom
  rw [py_has h8 hi, py_op_bit]
  simp only [zb]
  by_cases e : i < n
  · have h1 := hd.2 i
    rw [if_pos e, if_neg zone, if_neg (tn_in (a := i) (N := 8) (by omega) (by decide)), tn_cl (by omega), (hC.2 i (by omega)).1]
    by_cases e2 : py_S D i < 10
    · rw [if_neg (show ¬ (10 : Int32) ≤ nI (py_S D i) from nI_ge (a := py_S D i) (b := 10) (by omega) (by decide)), decide_eq_true ⟨e, e2⟩, if_pos rfl]
    · rw [if_pos (show (10 : Int32) ≤ nI (py_S D i) from nI_le (a := 10) (b := py_S D i) (by omega) (by omega)), decide_eq_false (fun z => e2 z.2), if_neg (by decide)]
  · rw [if_neg e, if_pos rfl, decide_eq_false (fun z => e z.1), if_neg (by decide)]
theorem py_room (hd : py_DD n D) (h8 : n ≤ 8) (hC : py_CD D ct to wc) : zf_X3_hasRoom to (nI n) = some (if py_op n D = 0 then 0 else 1) := by
  have A : ∀ (d q m : Nat), q + d = n → d < m → (∀ i, i < q → ¬ py_S D i < 10) → zf_X3_hasRoom_2 to (nI n) m (nI q) = some (if py_op n D = 0 then 0 else 1) := by
    intro d
    induction d with
    | zero =>
      intro q m e1 e2 h
      obtain ⟨f, rfl⟩ : ∃ f, m = f + 1 := ⟨m - 1, by omega⟩
      have : q = n := by omega
      subst this
      show zf_X3_hasRoom_2_b _ _ _ _ = _
      unfold zf_X3_hasRoom_2_b
      rw [if_pos ((tn_le (by omega) (by omega)).mpr (by omega)), if_pos (show py_op q D = 0 from py_mask_0.mpr (fun i hi => decide_eq_false (h i hi)))]
    | succ d ih =>
      intro q m e1 e2 h
      obtain ⟨f, rfl⟩ : ∃ f, m = f + 1 := ⟨m - 1, by omega⟩
      show zf_X3_hasRoom_2_b _ _ _ _ = _
      unfold zf_X3_hasRoom_2_b
      rw [if_neg (nI_ge (a := q) (b := n) (by omega) (by omega)), py_roomFrom hd h8 hC (by omega), py_op_bit]
      simp only [zb]
      by_cases c : py_S D q < 10
      · rw [decide_eq_true (show q < n ∧ py_S D q < 10 from ⟨by omega, c⟩), if_pos rfl, if_neg zone, if_neg (fun z => by
          have := py_mask_0.mp z q (by omega)
          rw [decide_eq_true c] at this
          exact absurd this (by decide))]
      · rw [decide_eq_false (fun z : q < n ∧ py_S D q < 10 => c z.2), if_neg (show ¬ false = true by decide), if_pos rfl, show nI q + (1 : Int32) = nI (q + 1) from nI_1 q]
        exact ih (q + 1) f (by omega) (by omega) (fun i hi => by
          by_cases e : i = q
          · rw [e]; exact c
          · exact h i (by omega))
  exact A n 0 zfuel (by omega) (by unfold zfuel; omega) (fun i hi => absurd hi (by omega))
theorem py_free (h8 : n ≤ 8) (hd : py_DD n D) (hC : py_CD D ct to wc) {i j : Nat} (hi : i < n) (hj : j < 100) : zf_X3_isFree (nI i) (nI j) ct (nI n) = some (if (py_un n D i).testBit j = true then 1 else 0) := by
  unfold zf_X3_isFree
  rw [py_has1 h8 hi, py_has h8 hj, py_un_bit]
  simp only [zb, if_neg zone]
  by_cases e : j < n
  · have h1 := py_D_le hd i (j := j) (by omega)
    rw [if_pos e, if_neg zone]
    by_cases e2 : i = j
    · rw [if_pos (by rw [e2]), decide_eq_false (fun z => z.2.1 e2.symm), if_neg (by decide)]
    · rw [if_neg (fun z => e2 ((tn_eq (by omega) (by omega)).mp z)), py_ten h8 hC.1 hi e]
      simp only [zb]
      by_cases e3 : D i j = 0
      · rw [if_pos (by rw [e3]; rfl), decide_eq_true ⟨e, fun z => e2 z.symm, e3⟩, if_pos rfl]
      · rw [if_neg (show ¬ nI (D i j) = 0 from nI_ne0 (by omega) (by omega)), decide_eq_false (fun z => e3 z.2.2), if_neg (by decide)]
  · rw [if_neg e, if_pos rfl, decide_eq_false (fun z => e z.1), if_neg (by decide)]
theorem py_can (h8 : n ≤ 8) (hd : py_DD n D) (hC : py_CD D ct to wc) {i j f p : Nat} (hi : i < n) (hj : j < n ∧ ¬ j = i ∧ D i j = 0) (hf : f < 10) (hp : p = if f = 0 then 10 else f) : zf_X3_canTell (nI i) (nI p) to wc (nI n) = some (if (py_lm n D i j).testBit f = true then 1 else 0) := by
  have h1 := hd.2 i
  have h2 := py_wc_le D i
  have hp1 : 1 ≤ p ∧ p ≤ 10 := by
    rw [hp]
    by_cases e : f = 0
    · rw [if_pos e]; omega
    · rw [if_neg e]; omega
  have hu := py_un_two hd h8 hi hj
  unfold zf_X3_canTell zf_X3_canTell_53 py_lm
  rw [py_mask_bit, decide_eq_true hf, Bool.true_and, py_has1 h8 hi]
  simp only [zb, if_neg zone]
  rw [if_pos (show (1 : Int32) ≤ nI p from nI_le (a := 1) (b := p) (by omega) (by omega)), if_neg (tn_in (a := i) (N := 8) (by omega) (by decide)), tn_cl (by omega), (hC.2 i (by omega)).1, (hC.2 i (by omega)).2, nI_add, show nI n - (1 : Int32) = nI (n - 1) from pk_sub (a := n) (b := 1) (by omega), show nI (py_wc D i) + (1 : Int32) = nI (py_wc D i + 1) from nI_1 _]
  unfold py_lf
  by_cases c1 : py_S D i + p = 10
  · rw [if_pos (show nI (py_S D i + p) = 10 from by rw [c1]; rfl)]
    by_cases e : f = 0
    · rw [if_pos e, if_pos (decide_eq_true (by rw [if_pos e] at hp; omega))]
    · rw [if_neg e, if_pos (decide_eq_true (Or.inl (by rw [if_neg e] at hp; omega)))]
  · rw [if_neg (show ¬ nI (py_S D i + p) = 10 from fun z => c1 ((tn_eq (a := py_S D i + p) (b := 10) (by omega) (by decide)).mp z))]
    by_cases c2 : 10 ≤ py_S D i + p
    · rw [if_pos (show (10 : Int32) ≤ nI (py_S D i + p) from nI_le (a := 10) (b := py_S D i + p) (by omega) (by omega))]
      by_cases e : f = 0
      · rw [if_pos e, if_neg (fun z => absurd (of_decide_eq_true z) (by rw [if_pos e] at hp; omega))]
      · rw [if_neg e, if_neg (fun z => absurd (of_decide_eq_true z) (by rw [if_neg e] at hp; omega))]
    · have ef : ¬ f = 0 := fun e => by rw [if_pos e] at hp; omega
      rw [if_neg ef] at hp
      rw [if_neg (show ¬ (10 : Int32) ≤ nI (py_S D i + p) from nI_ge (a := py_S D i + p) (b := 10) (by omega) (by decide)), if_neg ef]
      by_cases c3 : n ≤ py_wc D i + 2
      · rw [if_pos ((tn_le (by omega) (by omega)).mpr (by omega)), if_neg (fun z => by
          rcases of_decide_eq_true z with z | z
          · omega
          · exact z.2 (hu.mpr c3))]
      · rw [if_neg (fun z => c3 (by have := (tn_le (by omega) (by omega)).mp z; omega)), if_pos (decide_eq_true (Or.inr ⟨by omega, fun z => c3 (hu.mp z)⟩))]
/-- the table with one more told -/
def py_pt (D : Nat → Nat → Nat) (i j p : Nat) : Nat → Nat → Nat := fun a b => if a = i ∧ b = j then p else D a b
theorem py_pt_S {i j p : Nat} (hj : j < 8) (h0 : D i j = 0) (a : Nat) : py_S (py_pt D i j p) a = if a = i then py_S D i + p else py_S D a := by
  unfold py_S
  by_cases e : a = i
  · subst e
    rw [if_pos rfl]
    have h1 := fb_sm_upd (D a) p hj
    have h2 : fb_sm (py_pt D a j p a) 8 = fb_sm (fun k => if k = j then p else D a k) 8 := fb_sm_cong (fun k _ => by
      show (if a = a ∧ k = j then p else D a k) = _
      by_cases c : k = j
      · rw [if_pos ⟨rfl, c⟩, if_pos c]
      · rw [if_neg (fun z => c z.2), if_neg c])
    rw [h2]
    omega
  · rw [if_neg e]
    exact fb_sm_cong (fun k _ => if_neg (fun z => e z.1))
theorem py_pt_w {i j p : Nat} (hj : j < 8) (h0 : D i j = 0) (hp : 1 ≤ p) (a : Nat) : py_wc (py_pt D i j p) a = if a = i then py_wc D i + 1 else py_wc D a := by
  unfold py_wc
  by_cases e : a = i
  · subst e
    rw [if_pos rfl]
    have h1 := fb_sm_upd (fun k => if D a k = 0 then 0 else 1) 1 hj
    have h2 : fb_sm (fun k => if py_pt D a j p a k = 0 then 0 else 1) 8 = fb_sm (fun k => if k = j then 1 else (if D a k = 0 then 0 else 1)) 8 := fb_sm_cong (fun k _ => by
      show (if (if a = a ∧ k = j then p else D a k) = 0 then 0 else 1) = _
      by_cases c : k = j
      · rw [if_pos (show a = a ∧ k = j from ⟨rfl, c⟩), if_neg (by omega), if_pos c]
      · rw [if_neg (show ¬ (a = a ∧ k = j) from fun z => c z.2), if_neg c])
    rw [h2]
    have h3 : (if D a j = 0 then 0 else 1) = 0 := if_pos h0
    simp only [h3] at h1
    omega
  · rw [if_neg e]
    exact fb_sm_cong (fun k _ => by
      show (if (if a = i ∧ k = j then p else D a k) = 0 then 0 else 1) = _
      rw [if_neg (show ¬ (a = i ∧ k = j) from fun z => e z.1)])
theorem py_pt_DD (hd : py_DD n D) {i j p : Nat} (hi : i < n) (h8 : n ≤ 8) (hj : j < n ∧ ¬ j = i ∧ D i j = 0) (hp : py_S D i + p ≤ 10) : py_DD n (py_pt D i j p) := by
  refine ⟨fun a b h => ?_, fun a => ?_⟩
  · show (if a = i ∧ b = j then p else D a b) = 0
    rw [if_neg (by omega)]
    exact hd.1 a b h
  · rw [py_pt_S (by omega) hj.2.2]
    by_cases e : a = i
    · rw [if_pos e]; exact hp
    · rw [if_neg e]; exact hd.2 a
theorem py_tell (h8 : n ≤ 8) (hC : py_CD D ct to wc) {i j p : Nat} (hi : i < n) (hj : j < n ∧ ¬ j = i ∧ D i j = 0) (hp : 1 ≤ p) : ∃ ct' to' wc', zf_X3_tell (nI i) (nI j) (nI p) (nI n) ct to wc = some (ct', to', wc') ∧ py_CD (py_pt D i j p) ct' to' wc' := by
  refine ⟨upd ct (8 * i + j) (nI (D i j) + nI p), upd to i (nI (py_S D i) + nI p), upd wc i (nI (py_wc D i) + 1), ?_, fun a b ha hb => ?_, fun a ha => ?_⟩
  · unfold zf_X3_tell
    rw [py_has1 h8 hi, py_has1 h8 hj.1]
    simp only [zb, if_neg zone]
    rw [py_ix, if_neg (tn_in (a := 8 * i + j) (N := 64) (by omega) (by decide)), if_neg (tn_in (a := i) (N := 8) (by omega) (by decide)), tn_cl (by omega), tn_cl (by omega), hC.1 i j (by omega) (by omega), (hC.2 i (by omega)).1, (hC.2 i (by omega)).2]
  · show _ = nI (if a = i ∧ b = j then p else D a b)
    by_cases e : a = i ∧ b = j
    · rw [if_pos e, e.1, e.2, pk_us, hj.2.2, nI_add, Nat.zero_add]
    · rw [if_neg e, pk_un (by omega)]
      exact hC.1 a b ha hb
  · rw [py_pt_S (by omega) hj.2.2, py_pt_w (by omega) hj.2.2 hp]
    by_cases e : a = i
    · rw [if_pos e, if_pos e, e, pk_us, pk_us, nI_add]
      exact ⟨rfl, nI_1 _⟩
    · rw [if_neg e, if_neg e, pk_un e, pk_un e]
      exact hC.2 a ha
end PYTO
