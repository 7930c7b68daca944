/-! ===== the state, in numbers: what class and reference share ===== -/
theorem zb {α β : Type} (a : α) (f : α → Option β) : Option.bind (some a) f = f a := rfl
theorem zone : ¬ (1 : Int32) = 0 := by decide
theorem zzero : (0 : Int32) = 0 := rfl
theorem tb_sh : ∀ b, b < 9 → (1 : Int32) <<< (nI b &&& 31) = nI (2 ^ b) := by decide
/-- where the plate is behind i hands, who had it then -/
def py_pl (b : Nat) (hs : Nat → Nat) : Nat → Nat
  | 0 => b
  | i + 1 => hs i
def py_hd (b : Nat) (hs : Nat → Nat) : Nat → Nat
  | 0 => 2 ^ b
  | i + 1 => py_hd b hs i ||| 2 ^ hs i
theorem py_pl_lt {n b : Nat} {hs : Nat → Nat} (hb : b < n) : ∀ {h : Nat}, (∀ i, i < h → hs i < n) → py_pl b hs h < n
  | 0, _ => hb
  | i + 1, hh => hh i (by omega)
theorem py_hd_lt {n b : Nat} {hs : Nat → Nat} (hb : b < n) : ∀ {h : Nat}, (∀ i, i < h → hs i < n) → py_hd b hs h < 2 ^ n
  | 0, _ => Nat.pow_lt_pow_right (by decide) hb
  | i + 1, hh => Nat.or_lt_two_pow (py_hd_lt hb (fun k hk => hh k (by omega))) (Nat.pow_lt_pow_right (by decide) (hh i (by omega)))
theorem py_pl_cong {b : Nat} {hs hs' : Nat → Nat} : ∀ {h : Nat}, (∀ i, i < h → hs i = hs' i) → py_pl b hs h = py_pl b hs' h
  | 0, _ => rfl
  | i + 1, hh => hh i (by omega)
theorem py_hd_cong {b : Nat} {hs hs' : Nat → Nat} : ∀ {h : Nat}, (∀ i, i < h → hs i = hs' i) → py_hd b hs h = py_hd b hs' h
  | 0, _ => rfl
  | i + 1, hh => by
    show py_hd b hs i ||| 2 ^ hs i = py_hd b hs' i ||| 2 ^ hs' i
    rw [py_hd_cong (fun k hk => hh k (by omega)), hh i (by omega)]
theorem py_pow8 {n : Nat} (hn : n ≤ 8) : 2 ^ n ≤ 256 := Nat.pow_le_pow_right (n := 2) (by decide) hn
/-- the table -/
def py_RN (n : Nat) (T : Nat → Nat → Nat) (kd pn : Nat) (ct : Nat → Int32) (cs ck cp : Int32) (mt : Nat → Int32) (ms mk mr : Int32) : Prop :=
  2 ≤ n ∧ n ≤ 8 ∧ kd ≤ 2 ∧ pn ≤ 9 ∧ cs = nI n ∧ ms = nI n ∧ ck = nI kd ∧ mk = nI kd ∧ cp = nI pn ∧ mr = nI pn ∧
  (∀ i j, i < 8 → j < 8 → ct (8 * i + j) = nI (T i j)) ∧ (∀ i j, i < 8 → j < 8 → mt (8 * i + j) = nI (T i j)) ∧
  (∀ i j, n ≤ i ∨ n ≤ j → T i j = 0) ∧ (∀ i, i < n → fb_sm (T i) n = 10) ∧ (∀ i, i < n → T i i = 0 ∨ T i i = 10)
/-- the evening so far, what is seen, the seed -/
def py_RG (n b h : Nat) (hs : Nat → Nat) (sc : Nat) (st ss : Nat → Nat) (sd : Int64) (xh xt xs : Nat → Int32) (x0 x1 x2 x3 x4 : Int32) (x5 : Int64) (mp mf mh mn : Int32) (ma mw : Nat → Int32) (mc : Int32) (mt ms : Nat → Int32) (md : Int64) : Prop :=
  b < n ∧ h ≤ 30 ∧ sc ≤ 8 ∧ (∀ i, i < h → hs i < n) ∧ (∀ i, i < sc → 1 ≤ st i ∧ st i ≤ 9 ∧ ss i < n) ∧
  (∀ i, i < h → xh i = nI (hs i)) ∧ (∀ i, i < h → ma i = nI (py_pl b hs i)) ∧ (∀ i, i < h → mw i = nI (py_hd b hs i)) ∧
  (∀ i, i < sc → xt i = nI (st i)) ∧ (∀ i, i < sc → xs i = nI (ss i)) ∧ (∀ i, i < sc → mt i = nI (st i)) ∧ (∀ i, i < sc → ms i = nI (ss i)) ∧
  x0 = nI b ∧ x1 = nI (py_pl b hs h) ∧ x2 = nI (py_hd b hs h) ∧ x3 = nI h ∧ x4 = nI sc ∧ x5 = sd ∧
  mp = nI (py_pl b hs h) ∧ mf = nI b ∧ mh = nI (py_hd b hs h) ∧ mn = nI h ∧ mc = nI sc ∧ md = sd
/-- is a place a seat: the class, the reference -/
theorem py_has1 {n j : Nat} (hn : n ≤ 8) (hj : j < n) : zf_X3_has (nI j) (nI n) = some 1 := by
  unfold zf_X3_has
  rw [if_neg (tn_n0 (by omega)), if_neg (nI_ge hj (by omega)), if_neg (show ¬ (8 : Int32) ≤ nI j from nI_ge (a := j) (b := 8) (by omega) (by decide))]
theorem py_has0 {n : Nat} {x : Int32} (h : x < 0 ∨ nI n ≤ x) : zf_X3_has x (nI n) = some 0 := by
  unfold zf_X3_has
  by_cases h0 : x < 0
  · rw [if_pos h0]
  · rcases h with h | h
    · exact absurd h h0
    · rw [if_neg h0, if_pos h]
theorem py_in1 {a l m : Int64} (h1 : ¬ a < l) (h2 : ¬ m < a) : zf_X9_in a l m = some 1 := by
  unfold zf_X9_in
  rw [if_neg (fun q => h1 ((tl_cmp_lt _ _).mp q)), if_neg (fun q => h2 ((tl_cmp_gt _ _).mp q))]
theorem py_in0 {a l m : Int64} (h : a < l ∨ m < a) : zf_X9_in a l m = some 0 := by
  unfold zf_X9_in
  by_cases h0 : a < l
  · rw [if_pos ((tl_cmp_lt _ _).mpr h0)]
  · rcases h with h | h
    · exact absurd h h0
    · rw [if_neg (fun q => h0 ((tl_cmp_lt _ _).mp q)), if_pos ((tl_cmp_gt _ _).mpr h)]
theorem py_isSeat1 {n j : Nat} (hn0 : 1 ≤ n) (hn : n ≤ 8) (hj : j < n) : zf_X9_isSeat (nI j) (nI n) = some 1 := by
  unfold zf_X9_isSeat
  rw [show nI n - (1 : Int32) = nI (n - 1) from pk_sub (a := n) (b := 1) hn0, tl_i (by omega), tl_i (by omega),
    py_in1 (l := 0) (fun q => absurd ((pk_lLT (a := j) (b := 0) (by omega) (by decide)).mp q) (by omega)) (fun q => absurd ((pk_lLT (by omega) (by omega)).mp q) (by omega))]
  rfl
theorem py_isSeat0 {n : Nat} {x : Int32} (hn0 : 1 ≤ n) (hn : n ≤ 8) (h : x < 0 ∨ nI n ≤ x) : zf_X9_isSeat x (nI n) = some 0 := by
  unfold zf_X9_isSeat
  rw [show nI n - (1 : Int32) = nI (n - 1) from pk_sub (a := n) (b := 1) hn0]
  have hh : x.toInt64 < (0 : Int64) ∨ (nI (n - 1)).toInt64 < x.toInt64 := by
    rcases h with h | h
    · exact Or.inl ((fa_wide_lt x 0).mpr h)
    · refine Or.inr ((fa_wide_lt _ _).mpr ?_)
      have h1 := (fa_le _ _).mp h
      rw [nI_toInt (by omega)] at h1
      rw [fa_lt, nI_toInt (by omega)]
      omega
  rw [py_in0 hh]
  rfl
/-- the tenths: the class's, wherever asked -/
theorem py_ten {n i j : Nat} {T : Nat → Nat → Nat} {ct : Nat → Int32} (hn : n ≤ 8) (hc : ∀ i j, i < 8 → j < 8 → ct (8 * i + j) = nI (T i j)) (hi : i < n) (hj : j < n) : zf_X3_tenthsOf (nI i) (nI j) ct (nI n) = some (nI (T i j)) := by
  unfold zf_X3_tenthsOf
  rw [py_has1 hn hi, py_has1 hn hj]
  simp only [zb, if_neg zone]
  rw [show nI i * (8 : Int32) + nI j = nI (8 * i + j) from by rw [show (8 : Int32) = nI 8 from rfl, pk_mul, nI_add, Nat.mul_comm],
    if_neg (tn_in (by omega) (by decide)), tn_cl (by omega), hc i j (by omega) (by omega)]
theorem py_ten0 {n : Nat} {x y : Int32} {ct : Nat → Int32} (hn : n ≤ 8) (h : (x < 0 ∨ nI n ≤ x) ∨ (y < 0 ∨ nI n ≤ y)) : zf_X3_tenthsOf x y ct (nI n) = some 0 := by
  unfold zf_X3_tenthsOf
  rcases tn_seat x (n := n) (by omega) with ⟨i, hi, rfl⟩ | hx
  · rw [py_has1 hn hi]
    simp only [zb, if_neg zone]
    rcases h with h | h
    · rcases h with h | h
      · exact absurd h (tn_n0 (by omega))
      · exact absurd h (nI_ge hi (by omega))
    · rw [py_has0 h]
      rfl
  · rw [py_has0 hx]
    rfl
