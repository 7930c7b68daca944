/-! ===== what was seen ===== -/
def py_ft (sc : Nat) (st ss : Nat → Nat) (t s : Nat) : Nat := if ∀ i, i < sc → (st i = t → ss i = s) then 1 else 0
theorem py_ft_le (sc : Nat) (st ss : Nat → Nat) (t s : Nat) : py_ft sc st ss t s ≤ 1 := by
  unfold py_ft
  by_cases h : ∀ i, i < sc → (st i = t → ss i = s)
  · rw [if_pos h]; exact Nat.le_refl 1
  · rw [if_neg h]; omega
theorem py_ft_0 {sc : Nat} {st ss : Nat → Nat} (h : ∀ i, i < sc → 1 ≤ st i) (s : Nat) : py_ft sc st ss 0 s = 1 := if_pos (fun i hi e => absurd (h i hi) (by omega))
theorem py_fits {sc t s : Nat} {st ss : Nat → Nat} {xt xs : Nat → Int32} (hsc : sc ≤ 8) (hst : ∀ i, i < sc → st i < 100) (hss : ∀ i, i < sc → ss i < 100) (ht : t < 100) (hs : s < 100) (h1 : ∀ i, i < sc → xt i = nI (st i)) (h2 : ∀ i, i < sc → xs i = nI (ss i)) :
    zf_X4_fits (nI t) (nI s) xt xs (nI sc) = some (nI (py_ft sc st ss t s)) := by
  have A : ∀ (d q m : Nat), q + d = sc → d < m → (∀ i, i < q → (st i = t → ss i = s)) → zf_X4_fits_2 xt xs (nI sc) m (nI t) (nI s) (nI q) = some (nI (py_ft sc st ss t s)) := by
    intro d
    induction d with
    | zero =>
      intro q m e1 e2 h
      obtain ⟨f, rfl⟩ : ∃ f, m = f + 1 := ⟨m - 1, by omega⟩
      have : q = sc := by omega
      subst this
      show zf_X4_fits_2_b _ _ _ _ _ _ _ = _
      unfold zf_X4_fits_2_b
      rw [if_pos ((tn_le (by omega) (by omega)).mpr (by omega))]
      unfold py_ft
      rw [if_pos h]
      rfl
    | succ d ih =>
      intro q m e1 e2 h
      obtain ⟨f, rfl⟩ : ∃ f, m = f + 1 := ⟨m - 1, by omega⟩
      have a1 := hst q (by omega)
      have a2 := hss q (by omega)
      show zf_X4_fits_2_b _ _ _ _ _ _ _ = _
      unfold zf_X4_fits_2_b zf_X4_fits_38
      rw [if_neg (nI_ge (a := q) (b := sc) (by omega) (by omega)), if_neg (show ¬ (8 : Int32) ≤ nI q from nI_ge (a := q) (b := 8) (by omega) (by decide)), if_neg (tn_in (a := q) (N := 8) (by omega) (by decide)), tn_cl (a := q) (by omega), h1 q (by omega), h2 q (by omega), show nI q + (1 : Int32) = nI (q + 1) from nI_1 q]
      by_cases g1 : st q = t
      · rw [if_pos (by rw [g1])]
        by_cases g2 : ss q = s
        · rw [if_pos (by rw [g2])]
          exact ih (q + 1) f (by omega) (by omega) (fun i hi e => by
            by_cases e9 : i = q
            · rw [e9]; exact g2
            · exact h i (by omega) e)
        · rw [if_neg (fun z => g2 ((tn_eq (by omega) (by omega)).mp z))]
          unfold py_ft
          rw [if_neg (fun z => g2 (z q (by omega) g1))]
          rfl
      · rw [if_neg (fun z => g1 ((tn_eq (by omega) (by omega)).mp z))]
        exact ih (q + 1) f (by omega) (by omega) (fun i hi e => by
          by_cases e9 : i = q
          · exact absurd (by rw [← e9]; exact e) g1
          · exact h i (by omega) e)
  exact A sc 0 zfuel (by omega) (by unfold zfuel; omega) (fun i hi => absurd hi (by omega))
theorem py_may {sc t s : Nat} {st ss : Nat → Nat} {xt xs : Nat → Int32} (hsc : sc ≤ 8) (hst : ∀ i, i < sc → st i < 100) (hss : ∀ i, i < sc → ss i < 100) (ht : t < 100) (hs : s < 100) (h1 : ∀ i, i < sc → xt i = nI (st i)) (h2 : ∀ i, i < sc → xs i = nI (ss i)) :
    zf_X9_mayBe (nI t) (nI s) (nI sc) xt xs = some (nI (py_ft sc st ss t s)) := by
  have B : ∀ (d q m : Nat), q + d = sc → d < m → ¬ (∀ i, i < sc → (st i = t → ss i = s)) → zf_X9_mayBe_5 (nI sc) xt xs m (nI t) (nI s) 0 (nI q) = some (nI (py_ft sc st ss t s)) := by
    intro d
    induction d with
    | zero =>
      intro q m e1 e2 h
      obtain ⟨f, rfl⟩ : ∃ f, m = f + 1 := ⟨m - 1, by omega⟩
      have : q = sc := by omega
      subst this
      show zf_X9_mayBe_5_b _ _ _ _ _ _ _ _ = _
      unfold zf_X9_mayBe_5_b
      rw [if_pos ((tn_le (by omega) (by omega)).mpr (by omega)), if_pos (Or.inl rfl)]
      unfold py_ft
      rw [if_neg h]
      rfl
    | succ d ih =>
      intro q m e1 e2 h
      obtain ⟨f, rfl⟩ : ∃ f, m = f + 1 := ⟨m - 1, by omega⟩
      show zf_X9_mayBe_5_b _ _ _ _ _ _ _ _ = _
      unfold zf_X9_mayBe_5_b zf_X9_mayBe_44 zf_X9_mayBe_45
      rw [if_neg (nI_ge (a := q) (b := sc) (by omega) (by omega)), if_pos rfl, show nI q + (1 : Int32) = nI (q + 1) from nI_1 q]
      exact ih (q + 1) f (by omega) (by omega) h
  have A : ∀ (d q m : Nat), q + d = sc → d < m → (∀ i, i < q → (st i = t → ss i = s)) → zf_X9_mayBe_5 (nI sc) xt xs m (nI t) (nI s) 1 (nI q) = some (nI (py_ft sc st ss t s)) := by
    intro d
    induction d with
    | zero =>
      intro q m e1 e2 h
      obtain ⟨f, rfl⟩ : ∃ f, m = f + 1 := ⟨m - 1, by omega⟩
      have : q = sc := by omega
      subst this
      show zf_X9_mayBe_5_b _ _ _ _ _ _ _ _ = _
      unfold zf_X9_mayBe_5_b
      rw [if_pos ((tn_le (by omega) (by omega)).mpr (by omega)), if_pos (Or.inr rfl)]
      unfold py_ft
      rw [if_pos h]
      rfl
    | succ d ih =>
      intro q m e1 e2 h
      obtain ⟨f, rfl⟩ : ∃ f, m = f + 1 := ⟨m - 1, by omega⟩
      have a1 := hst q (by omega)
      have a2 := hss q (by omega)
      show zf_X9_mayBe_5_b _ _ _ _ _ _ _ _ = _
      unfold zf_X9_mayBe_5_b zf_X9_mayBe_44 zf_X9_mayBe_40 zf_X9_mayBe_45
      rw [if_neg (nI_ge (a := q) (b := sc) (by omega) (by omega)), if_neg zone, if_neg (tn_in (a := q) (N := 8) (by omega) (by decide)), tn_cl (a := q) (by omega), h1 q (by omega), h2 q (by omega), show nI q + (1 : Int32) = nI (q + 1) from nI_1 q]
      by_cases g1 : st q = t
      · rw [if_pos (by rw [g1])]
        by_cases g2 : ss q = s
        · rw [if_pos (by rw [g2])]
          exact ih (q + 1) f (by omega) (by omega) (fun i hi e => by
            by_cases e9 : i = q
            · rw [e9]; exact g2
            · exact h i (by omega) e)
        · rw [if_neg (fun z => g2 ((tn_eq (by omega) (by omega)).mp z))]
          exact B d (q + 1) f (by omega) (by omega) (fun z => g2 (z q (by omega) g1))
      · rw [if_neg (fun z => g1 ((tn_eq (by omega) (by omega)).mp z))]
        exact ih (q + 1) f (by omega) (by omega) (fun i hi e => by
          by_cases e9 : i = q
          · exact absurd (by rw [← e9]; exact e) g1
          · exact h i (by omega) e)
  exact A sc 0 zfuel (by omega) (by unfold zfuel; omega) (fun i hi => absurd hi (by omega))
/-! what can come in d more hands of N: how many rows, the best row -/
def py_mx (f : Nat → Nat) : Nat → Nat
  | 0 => 0
  | n + 1 => if py_mx f n < f n then f n else py_mx f n
theorem py_mx_le {f : Nat → Nat} {c : Nat} : ∀ {n : Nat}, (∀ k, k < n → f k ≤ c) → py_mx f n ≤ c
  | 0, _ => Nat.zero_le _
  | n + 1, h => by
    have h1 := py_mx_le (n := n) (fun k hk => h k (by omega))
    have h2 := h n (by omega)
    show (if py_mx f n < f n then f n else py_mx f n) ≤ c
    by_cases e : py_mx f n < f n
    · rw [if_pos e]; exact h2
    · rw [if_neg e]; exact h1
theorem py_mx_at {f : Nat → Nat} : ∀ {n : Nat}, 0 < py_mx f n → ∃ r, r < n ∧ f r = py_mx f n
  | 0, h => absurd h (by show ¬ 0 < 0; omega)
  | n + 1, h => by
    have e0 : py_mx f (n + 1) = if py_mx f n < f n then f n else py_mx f n := rfl
    rw [e0] at h ⊢
    by_cases e : py_mx f n < f n
    · rw [if_pos e]; exact ⟨n, by omega, rfl⟩
    · rw [if_neg e] at h ⊢
      obtain ⟨r, h1, h2⟩ := py_mx_at h
      exact ⟨r, by omega, h2⟩
def py_V (T : Nat → Nat → Nat) (n : Nat) (ft : Nat → Nat → Nat) (N : Nat) : Nat → Nat → Nat
  | 0, _ => 1
  | d + 1, s => fb_sm (fun r => (if T s r = 0 then 0 else 1) * (ft (N - d) r * py_V T n ft N d r)) n
def py_C (T : Nat → Nat → Nat) (n : Nat) (ft : Nat → Nat → Nat) (N : Nat) : Nat → Nat → Nat
  | 0, _ => 1
  | d + 1, s => py_mx (fun r => T s r * (ft (N - d) r * py_C T n ft N d r)) n
theorem py_C_le {T : Nat → Nat → Nat} {n N : Nat} {ft : Nat → Nat → Nat} (hT : ∀ i j, T i j ≤ 10) (hf : ∀ t s, ft t s ≤ 1) : ∀ (d s : Nat), py_C T n ft N d s ≤ 10 ^ d
  | 0, _ => Nat.le_refl 1
  | d + 1, s => py_mx_le (fun r _ => by
    have h1 := Nat.mul_le_mul (hf (N - d) r) (py_C_le (n := n) (N := N) hT hf d r)
    have h2 := Nat.mul_le_mul (hT s r) h1
    rw [Nat.one_mul, Nat.mul_comm 10, ← Nat.pow_succ] at h2
    exact h2)
