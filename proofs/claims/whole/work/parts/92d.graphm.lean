/-! ===== how both find the seats that are met ===== -/
theorem py_and1' (y : Int32) : (y &&& 1) = 1 ↔ bt y 0 = true := by
  constructor
  · intro h
    have h2 := b_and y 1 0
    rw [h, show bt 1 0 = true from by decide, Bool.and_true] at h2
    exact h2.symm
  · intro h
    apply b_ext
    intro i hi
    rw [b_and]
    by_cases e : i = 0
    · rw [e, h, Bool.true_and]
    · have : ∀ i, i < 32 → i ≠ 0 → bt 1 i = false := by decide
      rw [this i hi e, Bool.and_false]
theorem py_pick1 {M f : Nat} (hf : f < 10) : ((nI M >>> (nI f &&& 31)) &&& 1) = 1 ↔ M.testBit f = true := by
  rw [py_and1', b_sshr f (by omega) (nI M) (by omega), if_pos (by omega), Nat.add_zero, py_btN (by omega)]
section PYGR
variable {n a b : Nat} {T : Nat → Nat → Nat} {ct mt : Nat → Int32}
theorem py_nextC (h8 : n ≤ 8) (hc : ∀ i j, i < 8 → j < 8 → ct (8 * i + j) = nI (T i j)) (hT : ∀ i j, T i j ≤ 10) {q : Nat} (hq : q < n) : zf_X2_nextBits (nI q) ct (nI n) = some (nI (pg_sc T n q)) := by
  have A : ∀ (d j m : Nat), j + d = n → d < m → zf_X2_nextBits_5 ct (nI n) m (nI q) (nI (py_mask (fun j => decide (0 < T q j)) j)) (nI j) = some (nI (pg_sc T n q)) := by
    intro d
    induction d with
    | zero =>
      intro j m e1 e2
      obtain ⟨f, rfl⟩ : ∃ f, m = f + 1 := ⟨m - 1, by omega⟩
      have : j = n := by omega
      subst this
      show zf_X2_nextBits_5_b _ _ _ _ _ _ = _
      unfold zf_X2_nextBits_5_b
      rw [if_pos ((tn_le (by omega) (by omega)).mpr (by omega))]
      rfl
    | succ d ih =>
      intro j m e1 e2
      obtain ⟨f, rfl⟩ : ∃ f, m = f + 1 := ⟨m - 1, by omega⟩
      have hD := hT q j
      rw [← ih (j + 1) f (by omega) (by omega)]
      show zf_X2_nextBits_5_b _ _ _ _ _ _ = _
      unfold zf_X2_nextBits_5_b zf_X2_nextBits_31
      rw [if_neg (nI_ge (a := j) (b := n) (by omega) (by omega)), py_ten h8 hc hq (by omega), show nI j + (1 : Int32) = nI (j + 1) from nI_1 j]
      simp only [zb]
      show _ = zf_X2_nextBits_5 ct (nI n) f (nI q) (nI (if decide (0 < T q j) = true then py_mask (fun j => decide (0 < T q j)) j ||| 2 ^ j else py_mask (fun j => decide (0 < T q j)) j)) (nI (j + 1))
      by_cases c : 0 < T q j
      · rw [if_neg (fun z => absurd ((py_z0 (by omega)).mp z) (by omega)), if_pos (decide_eq_true c), tb_sh j (by omega), fa_or]
      · rw [if_pos ((py_z0 (by omega)).mpr (by omega)), if_neg (fun z => c (of_decide_eq_true z))]
  exact A n 0 zfuel (by omega) (by unfold zfuel; omega)
theorem py_met20 (h8 : n ≤ 8) (hc : ∀ i j, i < 8 → j < 8 → ct (8 * i + j) = nI (T i j)) (hT : ∀ i j, T i j ≤ 10) (hb : b < n) (M : Nat) (v5 : Int32) (k8 : Int32 → Int32 → Int32 → Option Int32) : ∀ (d q m : Nat), q + d = n → d < m → zf_X2_seatsMet_20 ct (nI n) k8 m (nI b) (nI (pg_rd T n b q M)) v5 (nI q) = k8 (nI b) (nI (pg_rd T n b n M)) (v5 + 1) := by
  intro d
  induction d with
  | zero =>
    intro q m e1 e2
    obtain ⟨f, rfl⟩ : ∃ f, m = f + 1 := ⟨m - 1, by omega⟩
    have : q = n := by omega
    subst this
    show zf_X2_seatsMet_20_b _ _ _ _ _ _ _ _ = _
    unfold zf_X2_seatsMet_20_b
    rw [if_pos ((tn_le (by omega) (by omega)).mpr (by omega))]
  | succ d ih =>
    intro q m e1 e2
    obtain ⟨f, rfl⟩ : ∃ f, m = f + 1 := ⟨m - 1, by omega⟩
    rw [← ih (q + 1) f (by omega) (by omega)]
    show zf_X2_seatsMet_20_b _ _ _ _ _ _ _ _ = _
    unfold zf_X2_seatsMet_20_b zf_X2_seatsMet_58
    rw [if_neg (nI_ge (a := q) (b := n) (by omega) (by omega)), py_nextC h8 hc hT (show q < n by omega), show nI q + (1 : Int32) = nI (q + 1) from nI_1 q]
    simp only [zb]
    show _ = zf_X2_seatsMet_20 ct (nI n) k8 f (nI b) (nI (pg_rs T n b q (pg_rd T n b q M))) v5 (nI (q + 1))
    unfold pg_rs
    by_cases c1 : (pg_rd T n b q M).testBit q = true
    · rw [if_pos ((py_pick1 (by omega)).mpr c1)]
      by_cases c2 : q = b
      · rw [if_pos (show nI q = nI b from by rw [c2]), if_neg (fun z => z.2 c2)]
      · rw [if_neg (fun z => c2 ((tn_eq (by omega) (by omega)).mp z)), if_pos ⟨c1, c2⟩, fa_or]
    · rw [if_neg (fun z => c1 ((py_pick1 (by omega)).mp z)), if_neg (fun z => c1 z.1)]
theorem py_metC (h8 : n ≤ 8) (hc : ∀ i j, i < 8 → j < 8 → ct (8 * i + j) = nI (T i j)) (hT : ∀ i j, T i j ≤ 10) (ha : a < n) (hb : b < n) : zf_X2_seatsMet (nI a) (nI b) ct (nI n) = some (nI (pg_it T n b n (2 ^ a))) := by
  have A : ∀ (d t m : Nat), t + d = n → d < m → zf_X2_seatsMet_8 ct (nI n) m (nI b) (nI (pg_it T n b t (2 ^ a))) (nI t) = some (nI (pg_it T n b n (2 ^ a))) := by
    intro d
    induction d with
    | zero =>
      intro t m e1 e2
      obtain ⟨f, rfl⟩ : ∃ f, m = f + 1 := ⟨m - 1, by omega⟩
      have : t = n := by omega
      subst this
      show zf_X2_seatsMet_8_b _ _ _ _ _ _ = _
      unfold zf_X2_seatsMet_8_b
      rw [if_pos ((tn_le (by omega) (by omega)).mpr (by omega))]
    | succ d ih =>
      intro t m e1 e2
      obtain ⟨f, rfl⟩ : ∃ f, m = f + 1 := ⟨m - 1, by omega⟩
      rw [← ih (t + 1) f (by omega) (by omega)]
      show zf_X2_seatsMet_8_b _ _ _ _ _ _ = _
      unfold zf_X2_seatsMet_8_b
      have := py_met20 h8 hc hT hb (pg_it T n b t (2 ^ a)) (nI t) (zf_X2_seatsMet_8 ct (nI n) f) n 0 zfuel (by omega) (by unfold zfuel; omega)
      rw [if_neg (nI_ge (a := t) (b := n) (by omega) (by omega)), show zf_X2_seatsMet_20 ct (nI n) (zf_X2_seatsMet_8 ct (nI n) f) zfuel (nI b) (nI (pg_it T n b t (2 ^ a))) (nI t) 0 = _ from this, show nI t + (1 : Int32) = nI (t + 1) from nI_1 t]
      rfl
  unfold zf_X2_seatsMet
  rw [tb_sh a (by omega)]
  exact A n 0 zfuel (by omega) (by unfold zfuel; omega)
theorem py_leadC (h8 : n ≤ 8) (hc : ∀ i j, i < 8 → j < 8 → ct (8 * i + j) = nI (T i j)) (hT : ∀ i j, T i j ≤ 10) (hb : b < n) : zf_X2_seatsLeadingTo (nI b) ct (nI n) = some (nI (pg_lt T n n (2 ^ b))) := by
  have hp := py_pow8 h8
  have B : ∀ (M : Nat) (v4 : Int32) (k7 : Int32 → Int32 → Option Int32) (d q m : Nat), q + d = n → d < m → zf_X2_seatsLeadingTo_19 ct (nI n) k7 m (nI (pg_lr T n q M)) v4 (nI q) = k7 (nI (pg_lr T n n M)) (v4 + 1) := by
    intro M v4 k7 d
    induction d with
    | zero =>
      intro q m e1 e2
      obtain ⟨f, rfl⟩ : ∃ f, m = f + 1 := ⟨m - 1, by omega⟩
      have : q = n := by omega
      subst this
      show zf_X2_seatsLeadingTo_19_b _ _ _ _ _ _ _ = _
      unfold zf_X2_seatsLeadingTo_19_b
      rw [if_pos ((tn_le (by omega) (by omega)).mpr (by omega))]
    | succ d ih =>
      intro q m e1 e2
      obtain ⟨f, rfl⟩ : ∃ f, m = f + 1 := ⟨m - 1, by omega⟩
      rw [← ih (q + 1) f (by omega) (by omega)]
      show zf_X2_seatsLeadingTo_19_b _ _ _ _ _ _ _ = _
      unfold zf_X2_seatsLeadingTo_19_b zf_X2_seatsLeadingTo_47
      rw [if_neg (nI_ge (a := q) (b := n) (by omega) (by omega)), py_nextC h8 hc hT (show q < n by omega), show nI q + (1 : Int32) = nI (q + 1) from nI_1 q]
      simp only [zb]
      show _ = zf_X2_seatsLeadingTo_19 ct (nI n) k7 f (nI (pg_ls T n q (pg_lr T n q M))) v4 (nI (q + 1))
      unfold pg_ls
      have hle : (pg_sc T n q &&& pg_lr T n q M) < 2 ^ 31 := by
        have h1 : (pg_sc T n q &&& pg_lr T n q M) ≤ pg_sc T n q := Nat.and_le_left
        have h2 : pg_sc T n q < 2 ^ n := py_mask_lt _ n
        omega
      rw [fa_and]
      by_cases c : (pg_sc T n q &&& pg_lr T n q M) = 0
      · rw [if_pos (show nI (pg_sc T n q &&& pg_lr T n q M) = 0 from by rw [c]; rfl), if_pos c]
      · rw [if_neg (show ¬ nI (pg_sc T n q &&& pg_lr T n q M) = 0 from nI_ne0 (by omega) hle), if_neg c, tb_sh q (by omega), fa_or]
  have A : ∀ (d t m : Nat), t + d = n → d < m → zf_X2_seatsLeadingTo_7 ct (nI n) m (nI (pg_lt T n t (2 ^ b))) (nI t) = some (nI (pg_lt T n n (2 ^ b))) := by
    intro d
    induction d with
    | zero =>
      intro t m e1 e2
      obtain ⟨f, rfl⟩ : ∃ f, m = f + 1 := ⟨m - 1, by omega⟩
      have : t = n := by omega
      subst this
      show zf_X2_seatsLeadingTo_7_b _ _ _ _ _ = _
      unfold zf_X2_seatsLeadingTo_7_b
      rw [if_pos ((tn_le (by omega) (by omega)).mpr (by omega))]
    | succ d ih =>
      intro t m e1 e2
      obtain ⟨f, rfl⟩ : ∃ f, m = f + 1 := ⟨m - 1, by omega⟩
      rw [← ih (t + 1) f (by omega) (by omega)]
      show zf_X2_seatsLeadingTo_7_b _ _ _ _ _ = _
      unfold zf_X2_seatsLeadingTo_7_b
      have := B (pg_lt T n t (2 ^ b)) (nI t) (zf_X2_seatsLeadingTo_7 ct (nI n) f) n 0 zfuel (by omega) (by unfold zfuel; omega)
      rw [if_neg (nI_ge (a := t) (b := n) (by omega) (by omega)), show zf_X2_seatsLeadingTo_19 ct (nI n) (zf_X2_seatsLeadingTo_7 ct (nI n) f) zfuel (nI (pg_lt T n t (2 ^ b))) (nI t) 0 = _ from this, show nI t + (1 : Int32) = nI (t + 1) from nI_1 t]
      rfl
  unfold zf_X2_seatsLeadingTo
  rw [tb_sh b (by omega)]
  exact A n 0 zfuel (by omega) (by unfold zfuel; omega)
/-! the reference -/
theorem py_rch29 (h8 : n ≤ 8) (hm : ∀ i j, i < 8 → j < 8 → mt (8 * i + j) = nI (T i j)) (hT : ∀ i j, T i j ≤ 10) (hb : b < n) {i : Nat} (hi : i < n) (M : Nat) (v4 : Int32) (k7 : Int32 → Int32 → Int32 → Option Int32) (k17 : Int32 → Int32 → Int32 → Int32 → Option Int32) :
    zf_X9_reach_29 mt (nI n) k7 k17 zfuel (nI b) (nI M) v4 (nI i) 0 = k17 (nI b) (nI (pg_rs T n b i M)) v4 (nI (i + 1)) := by
  have A : M.testBit i = true → ¬ i = b → ∀ (d j m : Nat), j + d = n → d < m → zf_X9_reach_29 mt (nI n) k7 k17 m (nI b) (nI (M ||| py_mask (fun j => decide (0 < T i j)) j)) v4 (nI i) (nI j) = k17 (nI b) (nI (M ||| pg_sc T n i)) v4 (nI (i + 1)) := by
    intro c1 c2 d
    induction d with
    | zero =>
      intro j m e1 e2
      obtain ⟨f, rfl⟩ : ∃ f, m = f + 1 := ⟨m - 1, by omega⟩
      have : j = n := by omega
      subst this
      show zf_X9_reach_29_b _ _ _ _ _ _ _ _ _ _ = _
      unfold zf_X9_reach_29_b zf_X9_reach_87
      rw [if_pos ((tn_le (by omega) (by omega)).mpr (by omega)), show nI i + (1 : Int32) = nI (i + 1) from nI_1 i]
      rfl
    | succ d ih =>
      intro j m e1 e2
      obtain ⟨f, rfl⟩ : ∃ f, m = f + 1 := ⟨m - 1, by omega⟩
      have hD := hT i j
      rw [← ih (j + 1) f (by omega) (by omega)]
      show zf_X9_reach_29_b _ _ _ _ _ _ _ _ _ _ = _
      unfold zf_X9_reach_29_b zf_X9_reach_79
      rw [if_neg (nI_ge (a := j) (b := n) (by omega) (by omega)), if_neg (fun z => c2 ((tn_eq (by omega) (by omega)).mp z)), if_pos ((py_pick1 (by omega)).mpr (by rw [Nat.testBit_or, c1, Bool.true_or])), py_ix', if_neg (tn_in (a := 8 * i + j) (N := 64) (by omega) (by decide)), tn_cl (by omega), hm i j (by omega) (by omega), show nI j + (1 : Int32) = nI (j + 1) from nI_1 j]
      show _ = zf_X9_reach_29 mt (nI n) k7 k17 f (nI b) (nI (M ||| (if decide (0 < T i j) = true then py_mask (fun j => decide (0 < T i j)) j ||| 2 ^ j else py_mask (fun j => decide (0 < T i j)) j))) v4 (nI i) (nI (j + 1))
      by_cases c : 0 < T i j
      · rw [if_neg (fun z => absurd ((py_z0 (by omega)).mp z) (by omega)), if_pos (decide_eq_true c), tb_sh j (by omega), fa_or, Nat.or_assoc]
      · rw [if_pos ((py_z0 (by omega)).mpr (by omega)), if_neg (fun z => c (of_decide_eq_true z)), Int32.or_zero]
  unfold pg_rs
  by_cases c : M.testBit i = true ∧ ¬ i = b
  · rw [if_pos c]
    have := A c.1 c.2 n 0 zfuel (by omega) (by unfold zfuel; omega)
    rw [show M ||| py_mask (fun j => decide (0 < T i j)) 0 = M from Nat.or_zero M] at this
    exact this
  · rw [if_neg c]
    have B : ∀ m, 0 < m → zf_X9_reach_29 mt (nI n) k7 k17 m (nI b) (nI M) v4 (nI i) 0 = k17 (nI b) (nI M) v4 (nI (i + 1)) := by
      intro m hm'
      obtain ⟨f, rfl⟩ : ∃ f, m = f + 1 := ⟨m - 1, by omega⟩
      show zf_X9_reach_29_b _ _ _ _ _ _ _ _ _ _ = _
      unfold zf_X9_reach_29_b zf_X9_reach_87
      rw [if_neg (show ¬ nI n ≤ 0 from nI_ge (a := 0) (b := n) (by omega) (by omega)), show nI i + (1 : Int32) = nI (i + 1) from nI_1 i]
      by_cases c2 : i = b
      · rw [if_pos (show nI i = nI b from by rw [c2])]
      · rw [if_neg (fun z => c2 ((tn_eq (by omega) (by omega)).mp z)), if_neg (fun z => c ⟨(py_pick1 (by omega)).mp z, c2⟩)]
    exact B zfuel (by unfold zfuel; omega)
theorem py_rchM (h8 : n ≤ 8) (hm : ∀ i j, i < 8 → j < 8 → mt (8 * i + j) = nI (T i j)) (hT : ∀ i j, T i j ≤ 10) (ha : a < n) (hb : b < n) : zf_X9_reach (nI a) (nI b) mt (nI n) = some (nI (pg_it T n b 8 (2 ^ a))) := by
  have B : ∀ (M : Nat) (v4 : Int32) (k7 : Int32 → Int32 → Int32 → Option Int32) (d q m : Nat), q + d = n → d < m → zf_X9_reach_17 mt (nI n) k7 m (nI b) (nI (pg_rd T n b q M)) v4 (nI q) = k7 (nI b) (nI (pg_rd T n b n M)) (v4 + 1) := by
    intro M v4 k7 d
    induction d with
    | zero =>
      intro q m e1 e2
      obtain ⟨f, rfl⟩ : ∃ f, m = f + 1 := ⟨m - 1, by omega⟩
      have : q = n := by omega
      subst this
      show zf_X9_reach_17_b _ _ _ _ _ _ _ _ = _
      unfold zf_X9_reach_17_b
      rw [if_pos ((tn_le (by omega) (by omega)).mpr (by omega))]
    | succ d ih =>
      intro q m e1 e2
      obtain ⟨f, rfl⟩ : ∃ f, m = f + 1 := ⟨m - 1, by omega⟩
      rw [← ih (q + 1) f (by omega) (by omega)]
      show zf_X9_reach_17_b _ _ _ _ _ _ _ _ = _
      unfold zf_X9_reach_17_b
      rw [if_neg (nI_ge (a := q) (b := n) (by omega) (by omega)), py_rch29 h8 hm hT hb (show q < n by omega)]
      rfl
  have A : ∀ (d t m : Nat), t + d = 8 → d < m → zf_X9_reach_7 mt (nI n) m (nI b) (nI (pg_it T n b t (2 ^ a))) (nI t) = some (nI (pg_it T n b 8 (2 ^ a))) := by
    intro d
    induction d with
    | zero =>
      intro t m e1 e2
      obtain ⟨f, rfl⟩ : ∃ f, m = f + 1 := ⟨m - 1, by omega⟩
      have : t = 8 := by omega
      subst this
      show zf_X9_reach_7_b _ _ _ _ _ _ = _
      unfold zf_X9_reach_7_b
      rw [if_pos (by decide)]
    | succ d ih =>
      intro t m e1 e2
      obtain ⟨f, rfl⟩ : ∃ f, m = f + 1 := ⟨m - 1, by omega⟩
      rw [← ih (t + 1) f (by omega) (by omega)]
      show zf_X9_reach_7_b _ _ _ _ _ _ = _
      unfold zf_X9_reach_7_b
      have := B (pg_it T n b t (2 ^ a)) (nI t) (zf_X9_reach_7 mt (nI n) f) n 0 zfuel (by omega) (by unfold zfuel; omega)
      rw [if_neg (show ¬ (8 : Int32) ≤ nI t from nI_ge (a := t) (b := 8) (by omega) (by decide)), show zf_X9_reach_17 mt (nI n) (zf_X9_reach_7 mt (nI n) f) zfuel (nI b) (nI (pg_it T n b t (2 ^ a))) (nI t) 0 = _ from this, show nI t + (1 : Int32) = nI (t + 1) from nI_1 t]
      rfl
  unfold zf_X9_reach
  rw [tb_sh a (by omega)]
  exact A 8 0 zfuel (by omega) (by unfold zfuel; omega)
end PYGR
