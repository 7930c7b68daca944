/-! ===== numbers: what the walks' functions reckon with ===== -/
theorem tn_le {a b : Nat} (ha : a < 2 ^ 31) (hb : b < 2 ^ 31) : (nI a ≤ nI b) ↔ a ≤ b := nI_leI ha hb
theorem tn_lt {a b : Nat} (ha : a < 2 ^ 31) (hb : b < 2 ^ 31) : (nI a < nI b) ↔ a < b := nI_ltI ha hb
theorem tn_eq {a b : Nat} (ha : a < 2 ^ 31) (hb : b < 2 ^ 31) : (nI a = nI b) ↔ a = b := nI_eq ha hb
theorem tn_cl {a : Nat} (ha : a < 2 ^ 31) : (nI a).toNatClampNeg = a := nI_clamp ha
theorem tn_n0 {a : Nat} (ha : a < 2 ^ 31) : ¬ nI a < 0 := nI_pos ha
theorem tn_p0 {a : Nat} (ha : a < 2 ^ 31) : 0 ≤ nI a := nI_pos' ha
/-- an index in its row -/
theorem tn_in {a N : Nat} (h : a < N) (hN : N < 2 ^ 31) : ¬ (nI a < 0 ∨ N ≤ (nI a).toNatClampNeg) := nI_in h hN
/-- a place is a seat or none -/
theorem tn_seat (x : Int32) {n : Nat} (hn : n < 2 ^ 31) : (∃ j : Nat, j < n ∧ x = nI j) ∨ (x < 0 ∨ nI n ≤ x) := by
  rcases pk_ix x hn with h | h | h
  · exact Or.inr (Or.inl h)
  · exact Or.inr (Or.inr h)
  · exact Or.inl h
theorem tn_notboth {x : Int32} {n : Nat} (h0 : ¬ x < 0) (h : nI n ≤ x) {j : Nat} (hj : j < n) (hn : n < 2 ^ 31) : ¬ x = nI j := by
  intro e
  rw [e] at h
  exact nI_ge hj hn h
/-- longs over Nat: sums and products without bounds -/
theorem tl_0 : lN 0 = 0 := rfl
theorem tl_1 : lN 1 = 1 := rfl
theorem tl_add (a b : Nat) : lN a + lN b = lN (a + b) := lN_add a b
theorem tl_mul (a b : Nat) : lN a * lN b = lN (a * b) := lN_mul a b
theorem tl_i {n : Nat} (h : n < 2 ^ 31) : (nI n).toInt64 = lN n := nI_l h
theorem tl_cmp_eq (x y : Int64) : lg_cmp x y = 0 ↔ x = y := by
  unfold lg_cmp
  by_cases h : x > y
  · rw [if_pos h]
    constructor
    · intro e; exact absurd e (by decide)
    · intro e; subst e; exact absurd h (by simp [GT.gt, Int64.lt_irrefl])
  · rw [if_neg h]
    by_cases e : x = y
    · rw [if_pos e]; exact ⟨fun _ => e, fun _ => rfl⟩
    · rw [if_neg e]
      exact ⟨fun q => absurd q (by decide), fun q => absurd q e⟩
theorem tl_cmp_le (x y : Int64) : lg_cmp x y ≤ 0 ↔ ¬ y < x := by
  unfold lg_cmp
  by_cases h : x > y
  · rw [if_pos h]
    exact ⟨fun q => absurd q (by decide), fun q => absurd h q⟩
  · rw [if_neg h]
    by_cases e : x = y
    · rw [if_pos e]; exact ⟨fun _ => h, fun _ => by decide⟩
    · rw [if_neg e]; exact ⟨fun _ => h, fun _ => by decide⟩
theorem tl_cmp_gt (x y : Int64) : 0 < lg_cmp x y ↔ y < x := by
  unfold lg_cmp
  by_cases h : x > y
  · rw [if_pos h]; exact ⟨fun _ => h, fun _ => by decide⟩
  · rw [if_neg h]
    by_cases e : x = y
    · rw [if_pos e]; exact ⟨fun q => absurd q (by decide), fun q => absurd q h⟩
    · rw [if_neg e]; exact ⟨fun q => absurd q (by decide), fun q => absurd q h⟩
theorem tl_cmp_lt (x y : Int64) : lg_cmp x y < 0 ↔ x < y := by
  unfold lg_cmp
  by_cases h : x > y
  · rw [if_pos h]
    refine ⟨fun q => absurd q (by decide), fun q => absurd (Int64.lt_asymm q) (fun k => k h)⟩
  · rw [if_neg h]
    by_cases e : x = y
    · rw [if_pos e]; subst e; exact ⟨fun q => absurd q (by decide), fun q => absurd q Int64.lt_irrefl⟩
    · rw [if_neg e]
      refine ⟨fun _ => ?_, fun _ => by decide⟩
      have h1 : ¬ y.toInt < x.toInt := fun q => h ((fa_lt64 y x).mpr q)
      have h2 : ¬ x.toInt = y.toInt := fun q => e ((fa_eq64 x y).mpr q)
      exact (fa_lt64 x y).mpr (by omega)
theorem tl_cmp_ge (x y : Int64) : 0 ≤ lg_cmp x y ↔ ¬ x < y := by
  rw [← tl_cmp_lt]
  constructor
  · intro h q; exact absurd h (by rw [Int32.not_le]; exact q)
  · intro h; exact Int32.not_lt.mp h
theorem tl_pos {a : Nat} (h : a < 2 ^ 63) : (0 : Int64) < lN a ↔ 0 < a := pk_lLT (a := 0) (b := a) (by decide) h
theorem tl_zero {a : Nat} (h : a < 2 ^ 63) : lN a = 0 ↔ a = 0 := pk_lEQ (a := a) (b := 0) h (by decide)
/-- the class's power, the reference's -/
theorem tp_c5 (b : Int64) (t : Nat) (ht : t < 2 ^ 31) : ∀ (d i n : Nat) (pr : Int64), i + d = t → d < n → ∃ r, zf_X8_power_5 n b (nI t) pr (nI i) = some r ∧ ∀ (B P : Nat), b = lN B → pr = lN P → r = lN (P * B ^ d) := by
  intro d
  induction d with
  | zero =>
    intro i n pr h hn
    obtain ⟨k, rfl⟩ : ∃ k, n = k + 1 := ⟨n - 1, by omega⟩
    refine ⟨pr, ?_, fun B P _ hP => by rw [hP]; simp⟩
    show zf_X8_power_5_b _ _ _ _ _ = _
    unfold zf_X8_power_5_b
    rw [if_pos ((tn_le ht (by omega)).mpr (by omega))]
  | succ d ih =>
    intro i n pr h hn
    obtain ⟨k, rfl⟩ : ∃ k, n = k + 1 := ⟨n - 1, by omega⟩
    obtain ⟨r, h1, h2⟩ := ih (i + 1) k (pr * b) (by omega) (by omega)
    refine ⟨r, ?_, fun B P hB hP => ?_⟩
    · show zf_X8_power_5_b _ _ _ _ _ = _
      unfold zf_X8_power_5_b
      rw [if_neg (fun q => absurd ((tn_le ht (by omega)).mp q) (by omega)), show nI i + (1 : Int32) = nI (i + 1) from nI_1 i]
      exact h1
    · rw [h2 B (P * B) hB (by rw [hP, hB, tl_mul]), Nat.pow_succ, Nat.mul_assoc, Nat.mul_comm B]
theorem tp_c {B t : Nat} (ht : t < 2000) : zf_X8_power (lN B) (nI t) = some (lN (B ^ t)) := by
  obtain ⟨r, h1, h2⟩ := tp_c5 (lN B) t (by omega) t 0 zfuel 1 (by omega) (by unfold zfuel; omega)
  unfold zf_X8_power
  rw [show (0 : Int32) = nI 0 from rfl, h1, h2 B 1 rfl rfl, Nat.one_mul]
theorem tp_m5 (b : Nat) (hb : b < 2 ^ 31) (t : Nat) (ht : t < 2 ^ 31) : ∀ (d i n P : Nat), i + d = t → d < n → zf_X9_power_5 n (nI b) (nI t) (lN P) (nI i) = some (lN (P * b ^ d)) := by
  intro d
  induction d with
  | zero =>
    intro i n P h hn
    obtain ⟨k, rfl⟩ : ∃ k, n = k + 1 := ⟨n - 1, by omega⟩
    show zf_X9_power_5_b _ _ _ _ _ = _
    unfold zf_X9_power_5_b
    rw [if_pos ((tn_le ht (by omega)).mpr (by omega))]
    simp
  | succ d ih =>
    intro i n P h hn
    obtain ⟨k, rfl⟩ : ∃ k, n = k + 1 := ⟨n - 1, by omega⟩
    show zf_X9_power_5_b _ _ _ _ _ = _
    unfold zf_X9_power_5_b
    rw [if_neg (fun q => absurd ((tn_le ht (by omega)).mp q) (by omega)), show nI i + (1 : Int32) = nI (i + 1) from nI_1 i, tl_i hb, tl_mul, ih (i + 1) k (P * b) (by omega) (by omega), Nat.pow_succ, Nat.mul_assoc, Nat.mul_comm b]
theorem tp_m {b t : Nat} (hb : b < 2 ^ 31) (ht : t < 2000) : zf_X9_power (nI b) (nI t) = some (lN (b ^ t)) := by
  unfold zf_X9_power
  rw [show (0 : Int32) = nI 0 from rfl, show (1 : Int64) = lN 1 from rfl, tp_m5 b hb t (by omega) t 0 zfuel 1 (by omega) (by unfold zfuel; omega), Nat.one_mul]
/-! fractions in least terms -/
def py_fr (A B : Nat) (u : Int32) : Int64 := if u = 0 then lN (B / Nat.gcd A B) else lN (A / Nat.gcd A B)
theorem py_fr_sc {A B k : Nat} (u : Int32) (hk : 0 < k) : py_fr (A * k) (B * k) u = py_fr A B u := by
  unfold py_fr
  rw [Nat.gcd_mul_right, Nat.mul_div_mul_right _ _ hk, Nat.mul_div_mul_right _ _ hk]
theorem py_fr_cross {A B A' B' : Nat} (u : Int32) (hB : 0 < B) (hB' : 0 < B') (h : A * B' = A' * B) : py_fr A B u = py_fr A' B' u := by
  rw [← py_fr_sc u hB', h, Nat.mul_comm B B', py_fr_sc u hB]
theorem py_gcd_step (A B : Nat) : Nat.gcd A B = Nat.gcd B (A % B) := by
  rw [Nat.gcd_comm A B, Nat.gcd_rec B A, Nat.gcd_comm]
theorem py_half {A B : Nat} (hB : 0 < B) (hR : 0 < A % B) {d : Nat} (h : B < 2 ^ (d + 1)) : B % (A % B) < 2 ^ d := by
  have h1 : A % B < B := Nat.mod_lt _ hB
  have h2 : B % (A % B) < A % B := Nat.mod_lt _ hR
  have h3 : B % (A % B) ≤ B - A % B := by
    have e : B = A % B + (B - A % B) := by omega
    have := Nat.mod_le (B - A % B) (A % B)
    rw [Nat.mod_eq_sub_mod (by omega : A % B ≤ B)]
    exact Nat.le_trans (Nat.mod_le _ _) (Nat.le_refl _)
  have h4 : 2 ^ (d + 1) = 2 * 2 ^ d := by rw [Nat.pow_succ, Nat.mul_comm]
  omega
theorem tg_c0 {n st A : Nat} (hst : st < 200) : zf_X8_sharedDivisor_9 (n + 1) (lN A) (lN 0) (nI st) = some (lN A) := by
  show zf_X8_sharedDivisor_9_b _ _ _ _ = _
  unfold zf_X8_sharedDivisor_9_b
  rw [if_neg (show ¬ (200 : Int32) ≤ nI st from nI_ge hst (by decide)), if_pos ((tl_cmp_eq (lN 0) 0).mpr rfl)]
theorem tg_cs {n st A B : Nat} (hst : st < 200) (hA : A < 2 ^ 63) (hB : B < 2 ^ 63) (h0 : 0 < B) : zf_X8_sharedDivisor_9 (n + 1) (lN A) (lN B) (nI st) = zf_X8_sharedDivisor_9 n (lN B) (lN (A % B)) (nI (st + 1)) := by
  have hz : ¬ lN B = 0 := fun e => absurd ((tl_zero hB).mp e) (by omega)
  show zf_X8_sharedDivisor_9_b _ _ _ _ = _
  unfold zf_X8_sharedDivisor_9_b
  rw [if_neg (show ¬ (200 : Int32) ≤ nI st from nI_ge hst (by decide)), if_neg (fun e => hz ((tl_cmp_eq _ _).mp e)), if_neg hz, pk_lRem hA h0 hB, show nI st + (1 : Int32) = nI (st + 1) from nI_1 st]
theorem tg_c : ∀ (d A B st n : Nat), B < 2 ^ d → A < 2 ^ 63 → B < 2 ^ 63 → st + 2 * d < 199 → 2 * d + 1 < n → zf_X8_sharedDivisor_9 n (lN A) (lN B) (nI st) = some (lN (Nat.gcd A B)) := by
  intro d
  induction d with
  | zero =>
    intro A B st n h _ _ hst hn
    obtain ⟨k, rfl⟩ : ∃ k, n = k + 1 := ⟨n - 1, by omega⟩
    have e : B = 0 := by have : B < 1 := h; omega
    subst e
    rw [tg_c0 (by omega), Nat.gcd_zero_right]
  | succ d ih =>
    intro A B st n h hA hB hst hn
    obtain ⟨k, rfl⟩ : ∃ k, n = k + 2 := ⟨n - 2, by omega⟩
    rcases Nat.eq_zero_or_pos B with e | h0
    · subst e
      rw [tg_c0 (by omega), Nat.gcd_zero_right]
    · rw [tg_cs (by omega) hA hB h0, py_gcd_step A B]
      have hR : A % B < B := Nat.mod_lt _ h0
      rcases Nat.eq_zero_or_pos (A % B) with e | h1
      · rw [e, tg_c0 (by omega), Nat.gcd_zero_right]
      · rw [tg_cs (by omega) hB (by omega) h1, py_gcd_step B (A % B)]
        have hR2 : B % (A % B) < A % B := Nat.mod_lt _ h1
        exact ih _ _ _ _ (py_half h0 h1 h) (by omega) (by omega) (by omega) (by omega)
theorem py_frC {A B : Nat} (u : Int32) (hA : A < 2 ^ 63) (h0 : 0 < B) (hB : B < 2 ^ 63) : zf_X8_leastTerms (lN A) (lN B) u = some (py_fr A B u) := by
  have hg : 0 < Nat.gcd A B := Nat.gcd_pos_of_pos_right A h0
  have hgB : Nat.gcd A B ≤ B := Nat.le_of_dvd h0 (Nat.gcd_dvd_right A B)
  have hz : ¬ lN (Nat.gcd A B) = 0 := fun e => absurd ((tl_zero (by omega)).mp e) (by omega)
  have h1 : ¬ lN (Nat.gcd A B) < 1 := fun e => absurd ((pk_lLT (a := Nat.gcd A B) (b := 1) (by omega) (by decide)).mp e) (by omega)
  unfold zf_X8_leastTerms zf_X8_sharedDivisor
  rw [show zf_X8_sharedDivisor_9 zfuel (lN A) (lN B) 0 = _ from tg_c 63 A B 0 zfuel hB hA hB (by omega) (by unfold zfuel; omega)]
  show (if 0 ≤ lg_cmp (lN (Nat.gcd A B)) 1 then _ else _) = _
  rw [if_pos ((tl_cmp_ge _ _).mpr h1), if_neg hz, if_neg hz, pk_lDiv hB hg (by omega), pk_lDiv hA hg (by omega)]
  unfold py_fr
  by_cases hu : u = 0
  · rw [if_pos hu, if_pos hu]
  · rw [if_neg hu, if_neg hu]
theorem tg_m0 {n A B A0 B0 : Nat} (u : Int32) (h : B = 0) (hA : 0 < A) (hA2 : A < 2 ^ 63) (hA0 : A0 < 2 ^ 63) (hB0 : B0 < 2 ^ 63) : zf_X9_part_6 (n + 1) (lN A0) (lN B0) u (lN A) (lN B) = some (if u = 0 then lN (B0 / A) else lN (A0 / A)) := by
  subst h
  have hz : ¬ lN A = 0 := fun e => absurd ((tl_zero hA2).mp e) (by omega)
  show zf_X9_part_6_b _ _ _ _ _ _ = _
  unfold zf_X9_part_6_b
  rw [if_pos ((tl_cmp_eq (lN 0) 0).mpr rfl), if_neg hz, if_neg hz, pk_lDiv hB0 hA hA2, pk_lDiv hA0 hA hA2]
  by_cases hu : u = 0
  · rw [if_pos hu, if_pos hu]
  · rw [if_neg hu, if_neg hu]
theorem tg_ms {n A B A0 B0 : Nat} (u : Int32) (hA : A < 2 ^ 63) (hB : B < 2 ^ 63) (h0 : 0 < B) : zf_X9_part_6 (n + 1) (lN A0) (lN B0) u (lN A) (lN B) = zf_X9_part_6 n (lN A0) (lN B0) u (lN B) (lN (A % B)) := by
  have hz : ¬ lN B = 0 := fun e => absurd ((tl_zero hB).mp e) (by omega)
  show zf_X9_part_6_b _ _ _ _ _ _ = _
  unfold zf_X9_part_6_b
  rw [if_neg (fun e => hz ((tl_cmp_eq _ _).mp e)), if_neg hz, pk_lRem hA h0 hB]
theorem tg_m {A0 B0 : Nat} (u : Int32) (hA0 : A0 < 2 ^ 63) (hB0 : B0 < 2 ^ 63) : ∀ (d A B n : Nat), B < 2 ^ d → A < 2 ^ 63 → B < 2 ^ 63 → 0 < Nat.gcd A B → 2 * d + 1 < n → zf_X9_part_6 n (lN A0) (lN B0) u (lN A) (lN B) = some (if u = 0 then lN (B0 / Nat.gcd A B) else lN (A0 / Nat.gcd A B)) := by
  intro d
  induction d with
  | zero =>
    intro A B n h hA _ hg hn
    obtain ⟨k, rfl⟩ : ∃ k, n = k + 1 := ⟨n - 1, by omega⟩
    have e : B = 0 := by have : B < 1 := h; omega
    subst e
    rw [Nat.gcd_zero_right] at hg ⊢
    exact tg_m0 u rfl hg hA hA0 hB0
  | succ d ih =>
    intro A B n h hA hB hg hn
    obtain ⟨k, rfl⟩ : ∃ k, n = k + 2 := ⟨n - 2, by omega⟩
    rcases Nat.eq_zero_or_pos B with e | h0
    · subst e
      rw [Nat.gcd_zero_right] at hg ⊢
      exact tg_m0 u rfl hg hA hA0 hB0
    · rw [py_gcd_step A B] at hg ⊢
      rw [tg_ms u hA hB h0]
      have hR : A % B < B := Nat.mod_lt _ h0
      rcases Nat.eq_zero_or_pos (A % B) with e | h1
      · rw [e] at hg ⊢
        rw [Nat.gcd_zero_right] at hg ⊢
        exact tg_m0 u rfl h0 hB hA0 hB0
      · rw [py_gcd_step B (A % B)] at hg ⊢
        rw [tg_ms u hB (by omega) h1]
        have hR2 : B % (A % B) < A % B := Nat.mod_lt _ h1
        exact ih _ _ _ (py_half h0 h1 h) (by omega) (by omega) hg (by omega)
theorem py_frM {A B : Nat} (u : Int32) (hA : A < 2 ^ 63) (h0 : 0 < B) (hB : B < 2 ^ 63) : zf_X9_part (lN A) (lN B) u = some (py_fr A B u) := by
  unfold zf_X9_part py_fr
  exact tg_m u hA hB 63 A B zfuel hB hA hB (Nat.gcd_pos_of_pos_right A h0) (by unfold zfuel; omega)
