/-! ===== one hand of the text ===== -/
section PYHD
variable {n : Nat} {D : Nat → Nat → Nat} {rt : Nat → Int32}
theorem py_sumM (hM : py_MD D rt) {i : Nat} (hi : i < 8) : zf_X9_sum (nI i) rt = some (nI (py_S D i)) := by
  have A : ∀ (d q m : Nat), q + d = 8 → d < m → zf_X9_sum_4 rt m (nI i) (nI (fb_sm (D i) q)) (nI q) = some (nI (py_S D i)) := by
    intro d
    induction d with
    | zero =>
      intro q m e1 e2
      obtain ⟨f, rfl⟩ : ∃ f, m = f + 1 := ⟨m - 1, by omega⟩
      have : q = 8 := by omega
      subst this
      show zf_X9_sum_4_b _ _ _ _ _ = _
      unfold zf_X9_sum_4_b
      rw [if_pos (by decide)]
      rfl
    | succ d ih =>
      intro q m e1 e2
      obtain ⟨f, rfl⟩ : ∃ f, m = f + 1 := ⟨m - 1, by omega⟩
      rw [← ih (q + 1) f (by omega) (by omega)]
      show zf_X9_sum_4_b _ _ _ _ _ = _
      unfold zf_X9_sum_4_b
      rw [if_neg (show ¬ (8 : Int32) ≤ nI q from nI_ge (a := q) (b := 8) (by omega) (by decide)), py_ix', if_neg (tn_in (a := 8 * i + q) (N := 64) (by omega) (by decide)), tn_cl (by omega), hM i q hi (by omega), nI_add, show nI q + (1 : Int32) = nI (q + 1) from nI_1 q]
      rfl
  exact A 8 0 zfuel (by omega) (by unfold zfuel; omega)
theorem py_openM (h8 : n ≤ 8) (hd : py_DD n D) (hM : py_MD D rt) : zf_X9_open rt (nI n) = some (nI (py_op n D)) := by
  have A : ∀ (d q m : Nat), q + d = n → d < m → zf_X9_open_4 rt (nI n) m (nI (py_mask (fun i => decide (py_S D i < 10)) q)) (nI q) = some (nI (py_op n D)) := by
    intro d
    induction d with
    | zero =>
      intro q m e1 e2
      obtain ⟨f, rfl⟩ : ∃ f, m = f + 1 := ⟨m - 1, by omega⟩
      have : q = n := by omega
      subst this
      show zf_X9_open_4_b _ _ _ _ _ = _
      unfold zf_X9_open_4_b
      rw [if_pos ((tn_le (by omega) (by omega)).mpr (by omega))]
      rfl
    | succ d ih =>
      intro q m e1 e2
      obtain ⟨f, rfl⟩ : ∃ f, m = f + 1 := ⟨m - 1, by omega⟩
      have hS := hd.2 q
      rw [← ih (q + 1) f (by omega) (by omega)]
      show zf_X9_open_4_b _ _ _ _ _ = _
      unfold zf_X9_open_4_b zf_X9_open_30
      rw [if_neg (nI_ge (a := q) (b := n) (by omega) (by omega)), py_sumM hM (by omega), show nI q + (1 : Int32) = nI (q + 1) from nI_1 q]
      simp only [zb]
      show _ = zf_X9_open_4 rt (nI n) f (nI (if decide (py_S D q < 10) = true then py_mask (fun i => decide (py_S D i < 10)) q ||| 2 ^ q else py_mask (fun i => decide (py_S D i < 10)) q)) (nI (q + 1))
      by_cases c : py_S D q < 10
      · rw [if_neg (show ¬ (10 : Int32) ≤ nI (py_S D q) from nI_ge (a := py_S D q) (b := 10) (by omega) (by decide)), if_pos (decide_eq_true c), tb_sh q (by omega), fa_or]
      · rw [if_pos (show (10 : Int32) ≤ nI (py_S D q) from nI_le (a := 10) (b := py_S D q) (by omega) (by omega)), if_neg (fun z => c (of_decide_eq_true z)), Int32.or_zero]
  exact A n 0 zfuel (by omega) (by unfold zfuel; omega)
theorem py_untoldM (h8 : n ≤ 8) (hd : py_DD n D) (hM : py_MD D rt) {i : Nat} (hi : i < 8) : zf_X9_untold (nI i) rt (nI n) = some (nI (py_un n D i)) := by
  have A : ∀ (d q m : Nat), q + d = n → d < m → zf_X9_untold_4 rt (nI n) m (nI i) (nI (py_mask (fun j => decide (¬ j = i ∧ D i j = 0)) q)) (nI q) = some (nI (py_un n D i)) := by
    intro d
    induction d with
    | zero =>
      intro q m e1 e2
      obtain ⟨f, rfl⟩ : ∃ f, m = f + 1 := ⟨m - 1, by omega⟩
      have : q = n := by omega
      subst this
      show zf_X9_untold_4_b _ _ _ _ _ _ = _
      unfold zf_X9_untold_4_b
      rw [if_pos ((tn_le (by omega) (by omega)).mpr (by omega))]
      rfl
    | succ d ih =>
      intro q m e1 e2
      obtain ⟨f, rfl⟩ : ∃ f, m = f + 1 := ⟨m - 1, by omega⟩
      have hD := py_D_le hd i (j := q) (by omega)
      rw [← ih (q + 1) f (by omega) (by omega)]
      show zf_X9_untold_4_b _ _ _ _ _ _ = _
      unfold zf_X9_untold_4_b zf_X9_untold_38 zf_X9_untold_39
      rw [if_neg (nI_ge (a := q) (b := n) (by omega) (by omega)), py_ix', if_neg (tn_in (a := 8 * i + q) (N := 64) (by omega) (by decide)), tn_cl (by omega), hM i q hi (by omega), show nI q + (1 : Int32) = nI (q + 1) from nI_1 q]
      show _ = zf_X9_untold_4 rt (nI n) f (nI i) (nI (if decide (¬ q = i ∧ D i q = 0) = true then py_mask (fun j => decide (¬ j = i ∧ D i j = 0)) q ||| 2 ^ q else py_mask (fun j => decide (¬ j = i ∧ D i j = 0)) q)) (nI (q + 1))
      by_cases c : q = i
      · rw [if_pos (by rw [c]), if_neg (fun z => (of_decide_eq_true z).1 c), Int32.or_zero]
      · rw [if_neg (fun z => c ((tn_eq (by omega) (by omega)).mp z))]
        by_cases c2 : D i q = 0
        · rw [if_pos (show nI (D i q) = 0 from by rw [c2]; rfl), if_pos (decide_eq_true ⟨c, c2⟩), tb_sh q (by omega), fa_or]
        · rw [if_neg (show ¬ nI (D i q) = 0 from nI_ne0 (by omega) (by omega)), if_neg (fun z => c2 (of_decide_eq_true z).2), Int32.or_zero]
  exact A n 0 zfuel (by omega) (by unfold zfuel; omega)
/-- the end of a hand: the figure of the chance -/
def py_hz (mt : Nat → Int32) (len : Nat) (rt : Nat → Int32) (i j M : Nat) (pos q : Int32) : Option ((Nat → Int32) × Int32 × Int32) :=
  Option.bind (zf_X9_figure (nI M) mt (nI len) pos q) (fun x => if x.2.2 = -9 then (if x.1 = 0 then some (upd rt (8 * i + j) 10, x.2.1, x.2.2) else some (upd rt (8 * i + j) x.1, x.2.1, x.2.2)) else some (rt, x.2.1, x.2.2))
theorem py_rh75 (h8 : n ≤ 8) (hd : py_DD n D) {mt : Nat → Int32} {len i j : Nat} (hi : i < 8) (hj : j < 8) (pos q : Int32) (v4 : Int32) (hv : v4 = 0 ↔ (py_un n D i = 0 ∨ py_un n D i = 2 ^ j)) : ∀ (d f m : Nat), f + d = 10 → 1 ≤ f → d < m →
    zf_X9_readHand_75 (nI n) mt (nI len) m rt pos q (nI i) (nI j) (nI (10 - py_S D i)) v4 (nI (py_mask (py_lf n D i j) f)) (nI f) = py_hz mt len rt i j (py_lm n D i j) pos q := by
  have hS := hd.2 i
  intro d
  induction d with
  | zero =>
    intro f m e1 e2 e3
    obtain ⟨g, rfl⟩ : ∃ g, m = g + 1 := ⟨m - 1, by omega⟩
    have : f = 10 := by omega
    subst this
    show zf_X9_readHand_75_b _ _ _ _ _ _ _ _ _ _ _ _ _ = _
    unfold zf_X9_readHand_75_b py_hz
    have hin2 : ¬ (nI (8 * i + j) < 0 ∨ 64 ≤ 8 * i + j) := fun z => z.elim (tn_n0 (by omega)) (by omega)
    rw [if_pos (by decide), py_ix']
    simp only [tn_cl (show 8 * i + j < 2 ^ 31 by omega), if_neg hin2]
    rfl
  | succ d ih =>
    intro f m e1 e2 e3
    obtain ⟨g, rfl⟩ : ∃ g, m = g + 1 := ⟨m - 1, by omega⟩
    rw [← ih (f + 1) g (by omega) (by omega) (by omega)]
    show zf_X9_readHand_75_b _ _ _ _ _ _ _ _ _ _ _ _ _ = _
    unfold zf_X9_readHand_75_b zf_X9_readHand_101 zf_X9_readHand_108 zf_X9_readHand_109
    rw [if_neg (show ¬ (10 : Int32) ≤ nI f from nI_ge (a := f) (b := 10) (by omega) (by decide)), show nI f + (1 : Int32) = nI (f + 1) from nI_1 f, Int32.or_zero]
    have hsh : (1 : Int32) <<< (nI f &&& 31) = nI (2 ^ f) := by
      have : ∀ b, b < 10 → (1 : Int32) <<< (nI b &&& 31) = nI (2 ^ b) := by decide
      exact this f (by omega)
    rw [hsh, fa_or]
    show _ = zf_X9_readHand_75 (nI n) mt (nI len) g rt pos q (nI i) (nI j) (nI (10 - py_S D i)) v4 (nI (if py_lf n D i j f = true then py_mask (py_lf n D i j) f ||| 2 ^ f else py_mask (py_lf n D i j) f)) (nI (f + 1))
    have hlf : py_lf n D i j f = decide (f = 10 - py_S D i ∨ (f < 10 - py_S D i ∧ ¬ (py_un n D i = 0 ∨ py_un n D i = 2 ^ j))) := if_neg (by omega)
    rw [hlf]
    by_cases c1 : f = 10 - py_S D i
    · rw [if_pos (by rw [← c1]), if_pos (decide_eq_true (Or.inl c1))]
    · rw [if_neg (fun z => c1 ((tn_eq (by omega) (by omega)).mp z))]
      by_cases c2 : 10 - py_S D i ≤ f
      · rw [if_pos ((tn_le (by omega) (by omega)).mpr c2), if_neg (fun z => by rcases of_decide_eq_true z with z | z <;> omega)]
      · rw [if_neg (fun z => c2 ((tn_le (by omega) (by omega)).mp z))]
        by_cases c3 : v4 = 0
        · rw [if_pos c3, if_neg (fun z => by
            rcases of_decide_eq_true z with z | z
            · exact c1 z
            · exact z.2 (hv.mp c3))]
        · rw [if_neg c3, if_pos (decide_eq_true (Or.inr ⟨by omega, fun z => c3 (hv.mpr z)⟩))]
theorem py_rh57 (h8 : n ≤ 8) (hd : py_DD n D) {mt : Nat → Int32} {len i j : Nat} (hi : i < 8) (hj : j < 8) (pos q : Int32) :
    (if (nI (py_un n D i) &&& ((1 <<< (nI j &&& 31)) ^^^ (-1))) = 0 then zf_X9_readHand_57 (nI n) mt (nI len) rt pos q (nI i) (nI j) ((10 : Int32) - nI (py_S D i)) 0 else zf_X9_readHand_57 (nI n) mt (nI len) rt pos q (nI i) (nI j) ((10 : Int32) - nI (py_S D i)) 1) = py_hz mt len rt i j (py_lm n D i j) pos q := by
  have hS := hd.2 i
  have hu := py_and_out (py_un n D i) (py_un_lt h8 D i) j (by omega)
  have B : ∀ v4 : Int32, (v4 = 0 ↔ (py_un n D i = 0 ∨ py_un n D i = 2 ^ j)) → zf_X9_readHand_57 (nI n) mt (nI len) rt pos q (nI i) (nI j) (nI (10 - py_S D i)) v4 = py_hz mt len rt i j (py_lm n D i j) pos q := by
    intro v4 hv
    have a := py_rh75 h8 hd (rt := rt) (mt := mt) (len := len) hi hj pos q v4 hv 9 1 zfuel (by omega) (by omega) (by unfold zfuel; omega)
    have e0 : py_mask (py_lf n D i j) 1 = if decide (10 - py_S D i = 10) = true then 1 else 0 := by
      show (if py_lf n D i j 0 = true then 0 ||| 2 ^ 0 else 0) = _
      rfl
    rw [e0] at a
    unfold zf_X9_readHand_57 zf_X9_readHand_70
    by_cases c : 10 - py_S D i = 10
    · rw [if_pos (show nI (10 - py_S D i) = 10 from by rw [c]; rfl)]
      rw [if_pos (decide_eq_true c)] at a
      exact a
    · rw [if_neg (show ¬ nI (10 - py_S D i) = 10 from fun z => c ((tn_eq (a := 10 - py_S D i) (b := 10) (by omega) (by decide)).mp z))]
      rw [if_neg (fun z => c (of_decide_eq_true z))] at a
      exact a
  rw [show (10 : Int32) - nI (py_S D i) = nI (10 - py_S D i) from pk_sub (a := 10) (b := py_S D i) hS]
  by_cases c : (nI (py_un n D i) &&& ((1 <<< (nI j &&& 31)) ^^^ (-1))) = 0
  · rw [if_pos c]
    exact B 0 ⟨fun _ => hu.mp c, fun _ => rfl⟩
  · rw [if_neg c]
    exact B 1 ⟨fun z => absurd z zone, fun z => absurd (hu.mpr z) c⟩
end PYHD
section PYHD2
variable {n len p : Nat} {D : Nat → Nat → Nat} {tx : Nat → Nat} {xb mt rt ct to wc : Nat → Int32}
theorem py_m9' {q : Nat} (h : q < 1000) : ¬ nI q = (-9 : Int32) := by
  intro e
  have h1 : ¬ nI q < 0 := tn_n0 (by omega)
  rw [e] at h1
  exact h1 (by decide)
/-- what both make of a hand at p -/
def py_out (n len : Nat) (tx : Nat → Nat) (D : Nat → Nat → Nat) (p : Nat) : Nat :=
  if py_on len tx (p + 1) (py_op n D) = true then (if py_on len tx (p + 2) (py_un n D (tx (p + 1) - 48)) = true then (if py_on len tx (p + 3) (py_lm n D (tx (p + 1) - 48) (tx (p + 2) - 48)) = true then p + 4 else p + 3) else p + 2) else p + 1
theorem py_readHand (h8 : n ≤ 8) (hd : py_DD n D) (hM : py_MD D rt) (hl : len ≤ 98) (h : ∀ i, i < len → tx i < 256 ∧ mt i = nI (tx i)) (hp : p < 100) :
    zf_X9_readHand (nI n) mt (nI len) rt (nI p) (-9) = (if py_out n len tx D p = p + 4 then some (upd rt (8 * (tx (p + 1) - 48) + (tx (p + 2) - 48)) (nI (if tx (p + 3) - 48 = 0 then 10 else tx (p + 3) - 48)), nI (p + 4), -9) else some (rt, nI (py_out n len tx D p), nI (py_out n len tx D p))) := by
  unfold zf_X9_readHand
  rw [py_openM h8 hd hM, show nI p + (1 : Int32) = nI (p + 1) from nI_1 p]
  simp only [zb]
  rw [py_figM hl h (p := p + 1) (by omega)]
  simp only [zb]
  by_cases c1 : py_on len tx (p + 1) (py_op n D) = true
  · have hb := c1
    unfold py_on at hb
    rw [Bool.and_eq_true, py_op_bit, decide_eq_true_iff] at hb
    have hi : tx (p + 1) - 48 < n := hb.2.1
    rw [if_pos c1]
    simp only []
    rw [py_untoldM h8 hd hM (by omega)]
    simp only [zb]
    rw [py_figM hl h (p := p + 2) (by omega), py_sumM hM (by omega)]
    simp only [zb]
    by_cases c2 : py_on len tx (p + 2) (py_un n D (tx (p + 1) - 48)) = true
    · have hb2 := c2
      unfold py_on at hb2
      rw [Bool.and_eq_true, py_un_bit, decide_eq_true_iff] at hb2
      have hj : tx (p + 2) - 48 < n := hb2.2.1
      rw [if_pos c2]
      simp only []
      rw [py_rh57 h8 hd (by omega) (by omega)]
      unfold py_hz
      rw [py_figM hl h (p := p + 3) (by omega)]
      simp only [zb]
      by_cases c3 : py_on len tx (p + 3) (py_lm n D (tx (p + 1) - 48) (tx (p + 2) - 48)) = true
      · have hout : py_out n len tx D p = p + 4 := by unfold py_out; rw [if_pos c1, if_pos c2, if_pos c3]
        rw [if_pos c3, if_pos hout]
        simp only []
        rw [if_pos trivial]
        have hb3 := c3
        unfold py_on at hb3
        rw [Bool.and_eq_true] at hb3
        have hb4 := py_dgE hb3.1
        by_cases c4 : tx (p + 3) - 48 = 0
        · rw [if_pos (show nI (tx (p + 3) - 48) = 0 from by rw [c4]; rfl), if_pos c4]
          rfl
        · rw [if_neg (show ¬ nI (tx (p + 3) - 48) = 0 from nI_ne0 (by omega) (by omega)), if_neg c4]
      · have hout : py_out n len tx D p = p + 3 := by unfold py_out; rw [if_pos c1, if_pos c2, if_neg c3]
        rw [if_neg c3, if_neg (show ¬ py_out n len tx D p = p + 4 by omega), hout]
        simp only []
        rw [if_neg (py_m9' (by omega))]
    · have hout : py_out n len tx D p = p + 2 := by unfold py_out; rw [if_pos c1, if_neg c2]
      rw [if_neg c2, if_neg (show ¬ py_out n len tx D p = p + 4 by omega), hout]
      simp only []
      refine Eq.trans (py_rh57 (i := tx (p + 1) - 48) (j := 0) (mt := mt) (len := len) (rt := rt) h8 hd (by omega) (by omega) (nI (p + 2)) (nI (p + 2))) ?_
      unfold py_hz
      rw [py_fig57 (nI (p + 2)) (py_m9' (by omega))]
      simp only [zb]
      rw [if_neg (py_m9' (by omega))]
  · have hout : py_out n len tx D p = p + 1 := by unfold py_out; rw [if_neg c1]
    rw [if_neg c1, if_neg (show ¬ py_out n len tx D p = p + 4 by omega), hout]
    simp only []
    rw [show zf_X9_untold 0 rt (nI n) = _ from py_untoldM (i := 0) h8 hd hM (by omega), show zf_X9_sum 0 rt = _ from py_sumM (i := 0) hM (by omega)]
    simp only [zb]
    rw [py_fig57 (nI (p + 1)) (py_m9' (by omega))]
    simp only [zb]
    refine Eq.trans (py_rh57 (i := 0) (j := 0) (mt := mt) (len := len) (rt := rt) h8 hd (by omega) (by omega) (nI (p + 1)) (nI (p + 1))) ?_
    unfold py_hz
    rw [py_fig57 (nI (p + 1)) (py_m9' (by omega))]
    simp only [zb]
    rw [if_neg (py_m9' (by omega))]
end PYHD2
