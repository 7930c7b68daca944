/-! ===== the reference's clearing ===== -/
theorem py_updL_same (w : Nat → Int64) (i : Nat) : vp_updL w i (w i) = w := funext fun j => by
  by_cases e : j = i
  · rw [e, pk_uLs]
  · rw [pk_uLn e]
theorem mx_pw6 : ∀ k, k < 7 → (20 : Int) ^ k ≤ 64000000 := by decide
section PYSV
variable {s : Nat} {T : Nat → Nat → Nat} {ord : Nat → Nat}
theorem py_105 (H : mx_Hy T ord s) {k t : Nat} (hk : k < s) (k2 : (Nat → Int64) → Int64 → Int64 → Int32 → Int32 → Int32 → Option ((Nat → Int64) × Int64 × Int64)) (mu md : Int64) : ∀ (d x m : Nat) (w : Nat → Int64) (P : Nat → Nat → Int), x + d = s → d < m → (∀ z, z < s → ∀ y, y ≤ s → w (9 * z + y) = mx_L (P z y)) → (∀ z, z < s → mx_Rw T ord s (if z < x then k + 1 else k) (P z) z) → mx_Rw T ord s k (P k) k →
    ∃ (w' : Nat → Int64) (P' : Nat → Nat → Int), zf_X9_solveAll_105 k2 m w mu md (nI s) (nI t) (nI k) (nI x) = k2 w' mu md (nI s) (nI t) (nI (k + 1)) ∧ (∀ z, z < s → ∀ y, y ≤ s → w' (9 * z + y) = mx_L (P' z y)) ∧ ∀ z, z < s → mx_Rw T ord s (k + 1) (P' z) z := by
  have h7 := H.1
  have pw := mx_pw6 k (by omega)
  intro d
  induction d with
  | zero =>
    intro x m w P e1 e2 r1 r2 r3
    obtain ⟨f, rfl⟩ : ∃ f, m = f + 1 := ⟨m - 1, by omega⟩
    refine ⟨w, P, ?_, r1, fun z hz => by have := r2 z hz; rw [if_pos (by omega)] at this; exact this⟩
    show zf_X9_solveAll_105_b _ _ _ _ _ _ _ _ _ = _
    unfold zf_X9_solveAll_105_b
    rw [if_pos ((tn_le (by omega) (by omega)).mpr (by omega)), show nI k + (1 : Int32) = nI (k + 1) from nI_1 k]
  | succ d ih =>
    intro x m w P e1 e2 r1 r2 r3
    obtain ⟨f, rfl⟩ : ∃ f, m = f + 1 := ⟨m - 1, by omega⟩
    have hx : x < s := by omega
    show ∃ (w' : Nat → Int64) (P' : Nat → Nat → Int), zf_X9_solveAll_105_b _ _ _ _ _ _ _ _ _ = _ ∧ _
    unfold zf_X9_solveAll_105_b zf_X9_solveAll_142
    rw [if_neg (nI_ge (a := x) (b := s) (by omega) (by omega)), show nI x + (1 : Int32) = nI (x + 1) from nI_1 x]
    have keep : mx_Rw T ord s (k + 1) (P x) x → ∀ z, z < s → mx_Rw T ord s (if z < x + 1 then k + 1 else k) (P z) z := by
      intro hq z hz
      by_cases e : z = x
      · rw [if_pos (by omega), e]; exact hq
      · have := r2 z hz
        by_cases c : z < x
        · rw [if_pos c] at this; rw [if_pos (by omega)]; exact this
        · rw [if_neg c] at this; rw [if_neg (by omega)]; exact this
    have rx : mx_Rw T ord s k (P x) x := by have := r2 x hx; rw [if_neg (by omega)] at this; exact this
    by_cases c : x = k
    · rw [if_pos (show nI x = nI k from by rw [c])]
      exact ih (x + 1) f w P (by omega) (by omega) r1 (keep (by rw [c]; exact mx_Rw_piv H hk r3)) r3
    · have bx := fun y (hy : y ≤ s) => mx_Rw_bd H (show k ≤ s by omega) hx rx hy
      have bk := fun y (hy : y ≤ s) => mx_Rw_bd H (show k ≤ s by omega) hk r3 hy
      have bxk := bx k (by omega)
      rw [if_neg (fun z => c ((tn_eq (by omega) (by omega)).mp z)), py_ix9, if_neg (tn_in (a := 9 * x + k) (N := 72) (by omega) (by decide)), tn_cl (by omega), r1 x hx k (by omega)]
      by_cases c0 : P x k = 0
      · rw [if_pos ((tl_cmp_eq _ _).mpr ((mx_L_0 (by omega) (by omega)).mpr c0))]
        exact ih (x + 1) f w P (by omega) (by omega) r1 (keep (mx_Rw_skip H hk hx c rx c0)) r3
      · rw [if_neg (fun z => c0 ((mx_L_0 (by omega) (by omega)).mp ((tl_cmp_eq _ _).mp z)))]
        obtain ⟨u, c1, c2, Q, q1, q2, q3, q4, q5⟩ := py_freeM (R := P x) (S := P k) h7 hx hk c (fun y hy => by have := bx y hy; omega) (fun y hy => by have := bk y hy; omega) (mx_Rw_pos H (by omega) hk r3) w (fun z hz => r1 k hk z hz) (fun z hz => r1 x hx z hz)
        obtain ⟨g0, rw'⟩ := mx_Rw_free (P := fun y => Q y / (mx_gc Q (s + 1) : Int)) H hk hx c rx r3 q1 q2 q3 q4 (fun y hy => mx_gc_ex (by omega))
        obtain ⟨w', g1, g2, g3⟩ := q5 g0
        rw [g1]
        simp only [zb]
        refine ih (x + 1) f w' (fun z => if z = x then fun y => Q y / (mx_gc Q (s + 1) : Int) else P z) (by omega) (by omega) (fun z hz y hy => ?_) (fun z hz => ?_) ?_
        · by_cases e : z = x
          · rw [if_pos e, e]; exact g2 y hy
          · rw [if_neg e, g3 z y e (by omega)]; exact r1 z hz y hy
        · by_cases e : z = x
          · rw [if_pos e, if_pos (by omega), e]; exact rw'
          · rw [if_neg e]
            have := r2 z hz
            by_cases c3 : z < x
            · rw [if_pos c3] at this; rw [if_pos (by omega)]; exact this
            · rw [if_neg c3] at this; rw [if_neg (by omega)]; exact this
        · rw [if_neg (fun z => c z.symm)]; exact r3
theorem py_36 (h7 : s ≤ 7) {k t : Nat} (hk : k < s) (k2 : (Nat → Int64) → Int64 → Int64 → Int32 → Int32 → Int32 → Option ((Nat → Int64) × Int64 × Int64)) (w : Nat → Int64) (mu md : Int64) : ∀ (d y m : Nat), y + d = s + 1 → d < m → zf_X9_solveAll_36 k2 m w mu md (nI s) (nI t) (nI k) (nI k) (nI y) = zf_X9_solveAll_105 k2 zfuel w mu md (nI s) (nI t) (nI k) 0 := by
  intro d
  induction d with
  | zero =>
    intro y m e1 e2
    obtain ⟨f, rfl⟩ : ∃ f, m = f + 1 := ⟨m - 1, by omega⟩
    show zf_X9_solveAll_36_b _ _ _ _ _ _ _ _ _ _ = _
    unfold zf_X9_solveAll_36_b
    rw [if_pos (nI_lt (by omega) (by omega))]
  | succ d ih =>
    intro y m e1 e2
    obtain ⟨f, rfl⟩ : ∃ f, m = f + 1 := ⟨m - 1, by omega⟩
    rw [← ih (y + 1) f (by omega) (by omega)]
    show zf_X9_solveAll_36_b _ _ _ _ _ _ _ _ _ _ = _
    unfold zf_X9_solveAll_36_b
    rw [if_neg (nI_nlt (a := s) (b := y) (by omega) (by omega)), py_ix9, if_neg (tn_in (a := 9 * k + y) (N := 72) (by omega) (by decide)), if_neg (tn_in (a := 9 * k + y) (N := 72) (by omega) (by decide)), tn_cl (by omega), py_updL_same, py_updL_same, show nI y + (1 : Int32) = nI (y + 1) from nI_1 y]
theorem py_solveM (H : mx_Hy T ord s) {t : Nat} (ht : t < s) : ∀ (d k m : Nat) (w : Nat → Int64) (P : Nat → Nat → Int) (mu md : Int64), k + d = s → d < m → (∀ z, z < s → ∀ y, y ≤ s → w (9 * z + y) = mx_L (P z y)) → (∀ z, z < s → mx_Rw T ord s k (P z) z) →
    ∃ w' R, mx_Rw T ord s s R t ∧ zf_X9_solveAll_2 m w mu md (nI s) (nI t) (nI k) = some (w', lN ((R s).natAbs / Nat.gcd (R s).natAbs (R t).natAbs), lN ((R t).natAbs / Nat.gcd (R s).natAbs (R t).natAbs)) := by
  have h7 := H.1
  intro d
  induction d with
  | zero =>
    intro k m w P mu md e1 e2 r1 r2
    obtain ⟨f, rfl⟩ : ∃ f, m = f + 1 := ⟨m - 1, by omega⟩
    have : k = s := by omega
    subst this
    refine ⟨w, P t, r2 t ht, ?_⟩
    have hp := mx_Rw_pos H (by omega) ht (r2 t ht)
    have hn := mx_Rw_rhs H (by omega) ht (r2 t ht)
    have b1 := mx_Rw_bd H (by omega) ht (r2 t ht) (show t ≤ k by omega)
    have b2 := mx_Rw_bd H (by omega) ht (r2 t ht) (show k ≤ k by omega)
    have pw := mx_pw k (by omega)
    have q0 : ¬ mx_L (P t t) < 0 := fun z => by
      have := (mx_L_lt (y := 0) (by omega) (by omega) (by decide) (by decide)).mp z
      omega
    have g0 : 0 < Nat.gcd (P t k).natAbs (P t t).natAbs := Nat.gcd_pos_of_pos_right _ (by omega)
    have gl : Nat.gcd (P t k).natAbs (P t t).natAbs ≤ (P t t).natAbs := Nat.gcd_le_right _ (by omega)
    have nat1 : mx_L (P t k) = lN (P t k).natAbs := by rw [← mx_L_nat, show (((P t k).natAbs : Nat) : Int) = P t k by omega]
    have nat2 : mx_L (P t t) = lN (P t t).natAbs := by rw [← mx_L_nat, show (((P t t).natAbs : Nat) : Int) = P t t by omega]
    show zf_X9_solveAll_2_b _ _ _ _ _ _ _ = _
    unfold zf_X9_solveAll_2_b zf_X9_solveAll_193 zf_X9_solveAll_212
    rw [if_pos ((tn_le (by omega) (by omega)).mpr (by omega)), py_ix9, py_ix9, if_neg (tn_in (a := 9 * t + k) (N := 72) (by omega) (by decide)), if_neg (tn_in (a := 9 * t + t) (N := 72) (by omega) (by decide)), tn_cl (a := 9 * t + k) (by omega), tn_cl (a := 9 * t + t) (by omega), r1 t ht t (by omega), r1 t ht k (by omega), if_pos ((tl_cmp_ge _ _).mpr q0), if_pos ((tl_cmp_ge _ _).mpr q0), py_common (by omega) (by omega) (by omega) (by omega)]
    simp only [zb]
    rw [if_neg (fun z => absurd ((tl_zero (by omega)).mp z) (by omega)), nat1, nat2, pk_lDiv (by omega) g0 (by omega), pk_lDiv (by omega) g0 (by omega)]
  | succ d ih =>
    intro k m w P mu md e1 e2 r1 r2
    obtain ⟨f, rfl⟩ : ∃ f, m = f + 1 := ⟨m - 1, by omega⟩
    have hk : k < s := by omega
    obtain ⟨w', P', g1, g2, g3⟩ := py_105 (t := t) H hk (zf_X9_solveAll_2 f) mu md s 0 zfuel w P (by omega) (by unfold zfuel; omega) r1 (fun z hz => by rw [if_neg (by omega)]; exact r2 z hz) (r2 k hk)
    obtain ⟨w2, R, g4, g5⟩ := ih (k + 1) f w' P' mu md (by omega) (by omega) g2 g3
    refine ⟨w2, R, g4, ?_⟩
    rw [← g5, ← g1]
    have hp := mx_Rw_pos H (by omega) hk (r2 k hk)
    have b1 := mx_Rw_bd H (by omega) hk (r2 k hk) (show k ≤ s by omega)
    have pw := mx_pw k (by omega)
    have e10 : ∀ m, 0 < m → zf_X9_solveAll_10 (zf_X9_solveAll_2 f) m w mu md (nI s) (nI t) (nI k) (nI k) = zf_X9_solveAll_105 (zf_X9_solveAll_2 f) zfuel w mu md (nI s) (nI t) (nI k) 0 := by
      intro m hm
      obtain ⟨f', rfl⟩ : ∃ f, m = f + 1 := ⟨m - 1, by omega⟩
      show zf_X9_solveAll_10_b _ _ _ _ _ _ _ _ _ = _
      unfold zf_X9_solveAll_10_b
      rw [py_ix9, if_neg (tn_in (a := 9 * k + k) (N := 72) (by omega) (by decide)), tn_cl (by omega), r1 k hk k (by omega), if_neg (fun z => by
        have := (mx_L_0 (by omega) (by omega)).mp ((tl_cmp_eq _ _).mp z)
        omega)]
      exact py_36 (t := t) h7 hk (zf_X9_solveAll_2 f) w mu md (s + 1) 0 zfuel (by omega) (by unfold zfuel; omega)
    show zf_X9_solveAll_2_b _ _ _ _ _ _ _ = _
    unfold zf_X9_solveAll_2_b
    rw [if_neg (nI_ge (a := k) (b := s) (by omega) (by omega)), e10 zfuel (by unfold zfuel; omega)]
    rfl
end PYSV
