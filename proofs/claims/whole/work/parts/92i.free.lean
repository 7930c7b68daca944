/-! ===== the reference: common parts, one row cleared ===== -/
theorem py_cm0 {n A : Nat} : zf_X9_common_28 (n + 1) (lN A) (lN 0) = some (lN A) := by
  show zf_X9_common_28_b _ _ _ = _
  unfold zf_X9_common_28_b
  rw [if_pos ((tl_cmp_eq (lN 0) 0).mpr rfl)]
theorem py_cms {n A B : Nat} (hA : A < 2 ^ 63) (hB : B < 2 ^ 63) (h0 : 0 < B) : zf_X9_common_28 (n + 1) (lN A) (lN B) = zf_X9_common_28 n (lN B) (lN (A % B)) := by
  have hz : ¬ lN B = 0 := fun e => absurd ((tl_zero hB).mp e) (by omega)
  show zf_X9_common_28_b _ _ _ = _
  unfold zf_X9_common_28_b
  rw [if_neg (fun e => hz ((tl_cmp_eq _ _).mp e)), if_neg hz, pk_lRem hA h0 hB]
theorem py_cm : ∀ (d A B n : Nat), B < 2 ^ d → A < 2 ^ 63 → B < 2 ^ 63 → 2 * d + 1 < n → zf_X9_common_28 n (lN A) (lN B) = some (lN (Nat.gcd A B)) := by
  intro d
  induction d with
  | zero =>
    intro A B n h hA _ hn
    obtain ⟨k, rfl⟩ : ∃ k, n = k + 1 := ⟨n - 1, by omega⟩
    have e : B = 0 := by have : B < 1 := h; omega
    subst e
    rw [Nat.gcd_zero_right]
    exact py_cm0
  | succ d ih =>
    intro A B n h hA hB hn
    obtain ⟨k, rfl⟩ : ∃ k, n = k + 2 := ⟨n - 2, by omega⟩
    rcases Nat.eq_zero_or_pos B with e | h0
    · subst e
      rw [Nat.gcd_zero_right]
      exact py_cm0
    · rw [py_gcd_step A B, py_cms hA hB h0]
      have hR : A % B < B := Nat.mod_lt _ h0
      rcases Nat.eq_zero_or_pos (A % B) with e | h1
      · rw [e, Nat.gcd_zero_right]
        exact py_cm0
      · rw [py_gcd_step B (A % B), py_cms hB (by omega) h1]
        have hR2 : B % (A % B) < A % B := Nat.mod_lt _ h1
        exact ih (A % B) (B % (A % B)) k (py_half h0 h1 h) (by omega) (by omega) (by omega)
theorem mx_abs {x : Int} (h1 : -9223372036854775808 < x) (h2 : x < 9223372036854775808) {α : Type} (F : Int64 → α) : (if 0 ≤ lg_cmp (mx_L x) 0 then F (mx_L x) else F (-mx_L x)) = F (lN x.natAbs) := by
  have q : mx_L x < 0 ↔ x < 0 := mx_L_lt (y := 0) (by omega) (by omega) (by decide) (by decide)
  by_cases c : x < 0
  · rw [if_neg (fun z => (tl_cmp_ge _ _).mp z (q.mpr c)), mx_L_neg, ← mx_L_nat, show ((x.natAbs : Nat) : Int) = -x by omega]
  · rw [if_pos ((tl_cmp_ge _ _).mpr (fun z => c (q.mp z))), ← mx_L_nat, show ((x.natAbs : Nat) : Int) = x by omega]
theorem py_common {x y : Int} (h1 : -9223372036854775808 < x) (h2 : x < 9223372036854775808) (h3 : -9223372036854775808 < y) (h4 : y < 9223372036854775808) : zf_X9_common (mx_L x) (mx_L y) = some (lN (Nat.gcd x.natAbs y.natAbs)) := by
  unfold zf_X9_common
  rw [mx_abs h1 h2 (fun z => zf_X9_common_12 (mx_L y) z)]
  unfold zf_X9_common_12
  rw [mx_abs h3 h4 (fun z => zf_X9_common_26 (lN x.natAbs) z)]
  unfold zf_X9_common_26
  exact py_cm 63 _ _ zfuel (by omega) (by omega) (by omega) (by unfold zfuel; omega)
theorem mx_gc_lt {Q : Nat → Int} {N : Nat} (hN : 0 < N) : ∀ m, (∀ y, y < m → (Q y).natAbs < N) → mx_gc Q m < N
  | 0, _ => hN
  | m + 1, h => by
    show Nat.gcd (mx_gc Q m) (Q m).natAbs < N
    rcases Nat.eq_zero_or_pos (Q m).natAbs with e | e
    · rw [e, Nat.gcd_zero_right]
      exact mx_gc_lt hN m (fun y hy => h y (by omega))
    · exact Nat.lt_of_le_of_lt (Nat.gcd_le_right _ e) (h m (by omega))
theorem mx_gc_ex {Q : Nat → Int} {m y : Nat} (hy : y < m) : (mx_gc Q m : Int) * (Q y / (mx_gc Q m : Int)) = Q y := by
  refine Int.mul_ediv_cancel' ?_
  have h := (mx_gc_dvd (Q := Q) (d := mx_gc Q m) (m := m)).mp (Nat.dvd_refl _) y hy
  exact Int.ofNat_dvd_left.mpr h
theorem py_ix9 {t c : Nat} : (9 : Int32) * nI t + nI c = nI (9 * t + c) := by rw [show (9 : Int32) = nI 9 from rfl, pk_mul, nI_add]
section PYFR
variable {s k x : Nat} {R S Q : Nat → Int}
theorem py_f124 (h7 : s ≤ 7) (hx : x < s) {g : Nat} (hg0 : 0 < g) (hgl : g < 9223372036854775808) (hQ : ∀ y, y ≤ s → (Q y).natAbs < 9223372036854775808) (hd : ∀ y, y ≤ s → (g : Int) * (Q y / (g : Int)) = Q y) : ∀ (d y m : Nat) (w : Nat → Int64), y + d = s + 1 → d < m → (∀ z, y ≤ z → z ≤ s → w (9 * x + z) = mx_L (Q z)) → (∀ z, z < y → w (9 * x + z) = mx_L (Q z / (g : Int))) →
    ∃ w', zf_X9_free_124 m w (nI x) (nI s) (lN g) (nI y) = some w' ∧ (∀ z, z ≤ s → w' (9 * x + z) = mx_L (Q z / (g : Int))) ∧ ∀ q z, ¬ q = x → z < 9 → w' (9 * q + z) = w (9 * q + z) := by
  intro d
  induction d with
  | zero =>
    intro y m w e1 e2 r1 r2
    obtain ⟨f, rfl⟩ : ∃ f, m = f + 1 := ⟨m - 1, by omega⟩
    refine ⟨w, ?_, fun z hz => r2 z (by omega), fun _ _ _ _ => rfl⟩
    show zf_X9_free_124_b _ _ _ _ _ _ = _
    unfold zf_X9_free_124_b
    rw [if_pos (nI_lt (by omega) (by omega))]
  | succ d ih =>
    intro y m w e1 e2 r1 r2
    obtain ⟨f, rfl⟩ : ∃ f, m = f + 1 := ⟨m - 1, by omega⟩
    by_cases c : g ≤ 1
    · have g1 : g = 1 := by omega
      refine ⟨w, ?_, fun z hz => ?_, fun _ _ _ _ => rfl⟩
      · show zf_X9_free_124_b _ _ _ _ _ _ = _
        unfold zf_X9_free_124_b
        rw [if_neg (nI_nlt (a := s) (b := y) (by omega) (by omega)), if_pos ((tl_cmp_le _ _).mpr (fun z => by
          rw [show (1 : Int64) = lN 1 from rfl, pk_lLT (by omega) (by omega)] at z
          omega))]
      · by_cases c2 : z < y
        · exact r2 z c2
        · rw [r1 z (by omega) hz, g1]
          rw [show ((1 : Nat) : Int) = 1 from rfl, Int.ediv_one]
    · have hq := hQ y (by omega)
      have hdy := hd y (by omega)
      have val : mx_L (Q y) / lN g = mx_L (Q y / (g : Int)) := by
        have q := mx_L_div (D := (g : Int)) (q := Q y / (g : Int)) (by omega) (by omega) (by omega) (by omega)
        rw [hdy, mx_L_nat] at q
        exact q
      obtain ⟨w', g1, g2, g3⟩ := ih (y + 1) f (vp_updL w (9 * x + y) (mx_L (Q y / (g : Int)))) (by omega) (by omega) (fun z z1 z2 => by rw [pk_uLn (by omega)]; exact r1 z (by omega) z2) (fun z hz => by
        by_cases e : z = y
        · rw [e, pk_uLs]
        · rw [pk_uLn (by omega)]; exact r2 z (by omega))
      refine ⟨w', ?_, g2, fun q z hq hz => by rw [g3 q z hq hz, pk_uLn (by omega)]⟩
      rw [← g1]
      show zf_X9_free_124_b _ _ _ _ _ _ = _
      unfold zf_X9_free_124_b
      rw [if_neg (nI_nlt (a := s) (b := y) (by omega) (by omega)), if_neg (fun z => (tl_cmp_le _ _).mp z (by
        rw [show (1 : Int64) = lN 1 from rfl, pk_lLT (by omega) (by omega)]
        omega)), py_ix9, if_neg (tn_in (a := 9 * x + y) (N := 72) (by omega) (by decide)), if_neg (fun z => absurd ((tl_zero (by omega)).mp z) (by omega)), tn_cl (by omega), r1 y (by omega) (by omega), val, show nI y + (1 : Int32) = nI (y + 1) from nI_1 y]
theorem py_f41 (h7 : s ≤ 7) (hx : x < s) (hk : k < s) (hxk : ¬ x = k) {u : Nat} {c1 c2 : Int} (hu : 0 < u) (hul : u < 9223372036854775808) {ow ot : Int64} (v1 : ow / lN u = mx_L c2) (v2 : ot / lN u = mx_L c1) (hQ : ∀ y, y ≤ s → Q y = R y * c1 - S y * c2) (hQb : ∀ y, y ≤ s → (Q y).natAbs < 9223372036854775808) (hg : 0 < mx_gc Q (s + 1)) :
    ∀ (d y m : Nat) (w : Nat → Int64), y + d = s + 1 → d < m → (∀ z, z ≤ s → w (9 * k + z) = mx_L (S z)) → (∀ z, y ≤ z → z ≤ s → w (9 * x + z) = mx_L (R z)) → (∀ z, z < y → w (9 * x + z) = mx_L (Q z)) →
    ∃ w', zf_X9_free_41 m w (nI x) (nI k) (nI s) ow ot (lN u) (lN (mx_gc Q y)) (nI y) = some w' ∧ (∀ z, z ≤ s → w' (9 * x + z) = mx_L (Q z / (mx_gc Q (s + 1) : Int))) ∧ ∀ q z, ¬ q = x → z < 9 → w' (9 * q + z) = w (9 * q + z) := by
  have gl := mx_gc_lt (Q := Q) (N := 9223372036854775808) (by decide)
  intro d
  induction d with
  | zero =>
    intro y m w e1 e2 r0 r1 r2
    obtain ⟨f, rfl⟩ : ∃ f, m = f + 1 := ⟨m - 1, by omega⟩
    have : y = s + 1 := by omega
    subst this
    obtain ⟨w', g1, g2, g3⟩ := py_f124 (Q := Q) h7 hx hg (gl (s + 1) (fun z hz => hQb z (by omega))) hQb (fun z hz => mx_gc_ex (by omega)) (s + 1) 0 zfuel w (by omega) (by unfold zfuel; omega) (fun z _ hz => r2 z (by omega)) (fun z hz => absurd hz (by omega))
    refine ⟨w', ?_, g2, g3⟩
    rw [← g1]
    show zf_X9_free_41_b _ _ _ _ _ _ _ _ _ _ = _
    unfold zf_X9_free_41_b
    rw [if_pos (nI_lt (by omega) (by omega))]
    rfl
  | succ d ih =>
    intro y m w e1 e2 r0 r1 r2
    obtain ⟨f, rfl⟩ : ∃ f, m = f + 1 := ⟨m - 1, by omega⟩
    have hq := hQb y (by omega)
    have gy := gl y (fun z hz => hQb z (by omega))
    obtain ⟨w', g1, g2, g3⟩ := ih (y + 1) f (vp_updL w (9 * x + y) (mx_L (Q y))) (by omega) (by omega) (fun z hz => by rw [pk_uLn (by omega)]; exact r0 z hz) (fun z z1 z2 => by rw [pk_uLn (by omega)]; exact r1 z (by omega) z2) (fun z hz => by
      by_cases e : z = y
      · rw [e, pk_uLs]
      · rw [pk_uLn (by omega)]; exact r2 z (by omega))
    refine ⟨w', ?_, g2, fun q z hq hz => by rw [g3 q z hq hz, pk_uLn (by omega)]⟩
    rw [← g1]
    show zf_X9_free_41_b _ _ _ _ _ _ _ _ _ _ = _
    unfold zf_X9_free_41_b
    rw [if_neg (nI_nlt (a := s) (b := y) (by omega) (by omega)), py_ix9, py_ix9, if_neg (tn_in (a := 9 * x + y) (N := 72) (by omega) (by decide)), if_neg (fun z => absurd ((tl_zero (by omega)).mp z) (by omega)), if_neg (tn_in (a := 9 * k + y) (N := 72) (by omega) (by decide)), tn_cl (a := 9 * x + y) (by omega), tn_cl (a := 9 * k + y) (by omega), v1, v2, r1 y (by omega) (by omega), r0 y (by omega), mx_L_mul, mx_L_mul, mx_L_sub, ← hQ y (by omega), pk_uLs, ← mx_L_nat, py_common (by omega) (by omega) (by omega) (by omega), Int.natAbs_natCast, show nI y + (1 : Int32) = nI (y + 1) from nI_1 y]
    rfl
theorem py_freeM (h7 : s ≤ 7) (hx : x < s) (hk : k < s) (hxk : ¬ x = k) (hR : ∀ y, y ≤ s → -640000000 ≤ R y ∧ R y ≤ 640000000) (hS : ∀ y, y ≤ s → -640000000 ≤ S y ∧ S y ≤ 640000000) (hSk : 0 < S k) (w : Nat → Int64) (r0 : ∀ z, z ≤ s → w (9 * k + z) = mx_L (S z)) (r1 : ∀ z, z ≤ s → w (9 * x + z) = mx_L (R z)) :
    ∃ (u c1 c2 : Int) (Q : Nat → Int), 0 < u ∧ u * c1 = S k ∧ u * c2 = R k ∧ (∀ y, y ≤ s → Q y = R y * c1 - S y * c2) ∧ (0 < mx_gc Q (s + 1) → ∃ w', zf_X9_free (nI x) (nI k) (nI s) w = some w' ∧ (∀ z, z ≤ s → w' (9 * x + z) = mx_L (Q z / (mx_gc Q (s + 1) : Int))) ∧ ∀ q z, ¬ q = x → z < 9 → w' (9 * q + z) = w (9 * q + z)) := by
  have rk := hR k (by omega)
  have sk := hS k (by omega)
  have u0 : 0 < Nat.gcd (R k).natAbs (S k).natAbs := Nat.gcd_pos_of_pos_right _ (by omega)
  have ul : Nat.gcd (R k).natAbs (S k).natAbs ≤ (S k).natAbs := Nat.gcd_le_right _ (by omega)
  have d1 : ((Nat.gcd (R k).natAbs (S k).natAbs : Nat) : Int) ∣ S k := Int.ofNat_dvd_left.mpr (Nat.gcd_dvd_right _ _)
  have d2 : ((Nat.gcd (R k).natAbs (S k).natAbs : Nat) : Int) ∣ R k := Int.ofNat_dvd_left.mpr (Nat.gcd_dvd_left _ _)
  obtain ⟨u, hu⟩ : ∃ u, u = Nat.gcd (R k).natAbs (S k).natAbs := ⟨_, rfl⟩
  rw [← hu] at u0 ul d1 d2
  obtain ⟨c1, e1⟩ := d1
  obtain ⟨c2, e2⟩ := d2
  have cb : ∀ z c : Int, z = (u : Int) * c → -640000000 ≤ z → z ≤ 640000000 → c.natAbs ≤ 640000000 := by
    intro z c e z1 z2
    have q := congrArg Int.natAbs e
    rw [Int.natAbs_mul, Int.natAbs_natCast] at q
    have : 1 * c.natAbs ≤ u * c.natAbs := Nat.mul_le_mul_right _ u0
    omega
  have b1 := cb _ _ e1 sk.1 sk.2
  have b2 := cb _ _ e2 rk.1 rk.2
  have Qb : ∀ y, y ≤ s → (R y * c1 - S y * c2).natAbs < 9223372036854775808 := by
    intro y hy
    have ry := hR y hy
    have sy := hS y hy
    have m1 : (R y * c1).natAbs ≤ 640000000 * 640000000 := by
      rw [Int.natAbs_mul]
      exact Nat.mul_le_mul (by omega) b1
    have m2 : (S y * c2).natAbs ≤ 640000000 * 640000000 := by
      rw [Int.natAbs_mul]
      exact Nat.mul_le_mul (by omega) b2
    omega
  have vd : ∀ z c : Int, z = (u : Int) * c → -640000000 ≤ z → z ≤ 640000000 → mx_L z / lN u = mx_L c := by
    intro z c e z1 z2
    have q := mx_L_div (D := (u : Int)) (q := c) (by omega) (by omega) (by omega) (by omega)
    rw [mx_L_nat, ← e] at q
    exact q
  refine ⟨u, c1, c2, fun y => R y * c1 - S y * c2, by omega, e1.symm, e2.symm, fun y _ => rfl, fun hg => ?_⟩
  obtain ⟨w', g1, g2, g3⟩ := py_f41 (R := R) (S := S) (Q := fun y => R y * c1 - S y * c2) (c1 := c1) (c2 := c2) h7 hx hk hxk u0 (by omega) (vd _ _ e2 rk.1 rk.2) (vd _ _ e1 sk.1 sk.2) (fun y _ => rfl) Qb hg (s + 1) 0 zfuel w (by omega) (by unfold zfuel; omega) r0 (fun z _ hz => r1 z hz) (fun z hz => absurd hz (by omega))
  refine ⟨w', ?_, g2, g3⟩
  unfold zf_X9_free
  rw [py_ix9, py_ix9, if_neg (tn_in (a := 9 * x + k) (N := 72) (by omega) (by decide)), if_neg (tn_in (a := 9 * k + k) (N := 72) (by omega) (by decide)), tn_cl (a := 9 * x + k) (by omega), tn_cl (a := 9 * k + k) (by omega), r1 k (by omega), r0 k (by omega), py_common (by omega) (by omega) (by omega) (by omega), ← hu]
  simp only [zb]
  exact g1
end PYFR
