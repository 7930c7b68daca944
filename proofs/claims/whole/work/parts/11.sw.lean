theorem zz_swj {x : Int32} {n : Nat} (hn : n < 2 ^ 31 - 1) (h : ∀ j : Nat, j ≤ n → ¬ x = nI j) : x.toInt < 0 ∨ (n : Int) < x.toInt := by
  rcases (show x.toInt < 0 ∨ 0 ≤ x.toInt by omega) with h0 | h0
  · exact Or.inl h0
  · rcases (show (n : Int) < x.toInt ∨ x.toInt ≤ n by omega) with h1 | h1
    · exact Or.inr h1
    · have hv : vp_in x (n + 1) := vp_in_iff.mpr ⟨h0, by omega⟩
      obtain ⟨j, hj, e⟩ := vp_in_of hv (by omega)
      exact absurd e (h j (by omega))
theorem zz_sw8 {x : Int32} (h0 : ¬ x = (0 : Int32)) (h1 : ¬ x = (1 : Int32)) (h2 : ¬ x = (2 : Int32)) (h3 : ¬ x = (3 : Int32)) (h4 : ¬ x = (4 : Int32)) (h5 : ¬ x = (5 : Int32)) (h6 : ¬ x = (6 : Int32)) (h7 : ¬ x = (7 : Int32)) : x.toInt < 0 ∨ (7 : Int) < x.toInt :=
  zz_swj (n := 7) (by decide) (fun j hj => match j, hj with
    | 0, _ => h0 | 1, _ => h1 | 2, _ => h2 | 3, _ => h3 | 4, _ => h4 | 5, _ => h5 | 6, _ => h6 | 7, _ => h7 | j + 8, hj => absurd hj (by omega))
