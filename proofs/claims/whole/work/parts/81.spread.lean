/-! ===== spreads: weights of states, those that have one in a row ===== -/
def py_E (k : Nat) (L g φ : Nat → Nat) : Nat := fb_sm (fun i => g (L i) * φ (L i)) k
def py_SP (w : Nat → Int64) (lv : Nat → Int32) (sz : Int32) (k : Nat) (L g : Nat → Nat) : Prop :=
  sz = nI k ∧ k ≤ 2048 ∧ (∀ i, i < k → L i < 2048 ∧ lv i = nI (L i)) ∧ (∀ i j, i < j → j < k → L i ≠ L j) ∧ (∀ x, x < 2048 → w x = lN (g x)) ∧ (∀ x, x < 2048 → g x ≠ 0 → ∃ i, i < k ∧ L i = x) ∧ (∀ i, i < k → g (L i) ≠ 0) ∧ (∀ x, x < 2048 → g x < 2 ^ 63)
/-- one that can be cleared -/
def py_CL (w : Nat → Int64) (lv : Nat → Int32) (sz : Int32) : Prop := ∃ k, k ≤ 2048 ∧ sz = nI k ∧ (∀ i, i < k → ∃ x, x < 2048 ∧ lv i = nI x) ∧ ∀ x, x < 2048 → w x = 0 ∨ ∃ i, i < k ∧ lv i = nI x
/-- one that is clear -/
def py_NO (w : Nat → Int64) (sz : Int32) : Prop := sz = nI 0 ∧ ∀ x, x < 2048 → w x = 0
theorem py_SP_CL {w : Nat → Int64} {lv : Nat → Int32} {sz : Int32} {k : Nat} {L g : Nat → Nat} (h : py_SP w lv sz k L g) : py_CL w lv sz := by
  obtain ⟨h1, h2, h3, h4, h5, h6, h7, h8⟩ := h
  refine ⟨k, h2, h1, fun i hi => ⟨L i, h3 i hi⟩, fun x hx => ?_⟩
  by_cases e : g x = 0
  · left; rw [h5 x hx, e]; rfl
  · right
    obtain ⟨i, hi, e⟩ := h6 x hx e
    exact ⟨i, hi, by rw [(h3 i hi).2, e]⟩
theorem py_NO_CL {w : Nat → Int64} {lv : Nat → Int32} {sz : Int32} (h : py_NO w sz) : py_CL w lv sz := ⟨0, by decide, h.1, fun i hi => absurd hi (by omega), fun x hx => Or.inl (h.2 x hx)⟩
theorem py_NO_SP {w : Nat → Int64} {lv : Nat → Int32} {sz : Int32} (h : py_NO w sz) (L : Nat → Nat) : py_SP w lv sz 0 L (fun _ => 0) :=
  ⟨h.1, by decide, fun i hi => absurd hi (by omega), fun i j _ hj => absurd hj (by omega), fun x hx => h.2 x hx, fun x _ e => absurd rfl e, fun i hi => absurd hi (by omega), fun x _ => show 0 < 2 ^ 63 by decide⟩
theorem py_clear2 {lv : Nat → Int32} {k : Nat} (hk : k ≤ 2048) (hl : ∀ i, i < k → ∃ x, x < 2048 ∧ lv i = nI x) : ∀ (d i m : Nat) (w : Nat → Int64), i + d = k → d < m → (∀ x, x < 2048 → w x = 0 ∨ ∃ j, i ≤ j ∧ j < k ∧ lv j = nI x) → ∃ w' : Nat → Int64, zf_X6_clear_2 lv m w (nI k) (nI i) = some (w', nI 0) ∧ ∀ x, x < 2048 → w' x = 0 := by
  intro d
  induction d with
  | zero =>
    intro i m w h1 h2 h
    obtain ⟨q, rfl⟩ : ∃ q, m = q + 1 := ⟨m - 1, by omega⟩
    refine ⟨w, ?_, fun x hx => (h x hx).elim id (fun ⟨j, a, b, _⟩ => absurd b (by omega))⟩
    show zf_X6_clear_2_b _ _ _ _ _ = _
    unfold zf_X6_clear_2_b zf_X6_clear_48
    rw [if_pos ((tn_le (by omega) (by omega)).mpr (by omega))]
    rfl
  | succ d ih =>
    intro i m w h1 h2 h
    obtain ⟨q, rfl⟩ : ∃ q, m = q + 1 := ⟨m - 1, by omega⟩
    obtain ⟨y, hy, ey⟩ := hl i (by omega)
    obtain ⟨w', g1, g2⟩ := ih (i + 1) q (vp_updL w y 0) (by omega) (by omega) (by
      intro x hx
      by_cases e : x = y
      · left; rw [e, pk_uLs]
      · rw [pk_uLn e]
        rcases h x hx with h | ⟨j, a, b, c⟩
        · exact Or.inl h
        · refine Or.inr ⟨j, ?_, b, c⟩
          rcases Nat.lt_or_ge i j with q | q
          · omega
          · have : i = j := by omega
            subst this
            rw [ey] at c
            exact absurd ((tn_eq (by omega) (by omega)).mp c).symm e)
    refine ⟨w', ?_, g2⟩
    show zf_X6_clear_2_b _ _ _ _ _ = _
    unfold zf_X6_clear_2_b zf_X6_clear_42
    rw [if_neg (nI_ge (a := i) (b := k) (by omega) (by omega)), if_neg (show ¬ (2048 : Int32) ≤ nI i from nI_ge (a := i) (b := 2048) (by omega) (by decide)), if_neg (tn_in (by omega) (by decide)), tn_cl (by omega), ey, if_neg (tn_n0 (by omega)), if_neg (show ¬ (2048 : Int32) ≤ nI y from nI_ge (a := y) (b := 2048) (by omega) (by decide)), if_neg (tn_in (by omega) (by decide)), tn_cl (by omega), show nI i + (1 : Int32) = nI (i + 1) from nI_1 i]
    exact g1
theorem py_clear {w : Nat → Int64} {lv : Nat → Int32} {sz : Int32} (h : py_CL w lv sz) : ∃ w' : Nat → Int64, zf_X6_clear lv w sz = some (w', nI 0) ∧ py_NO w' (nI 0) := by
  obtain ⟨k, hk, rfl, hl, hw⟩ := h
  obtain ⟨w', g1, g2⟩ := py_clear2 hk hl k 0 zfuel w (by omega) (by unfold zfuel; omega) (fun x hx => (hw x hx).imp id (fun ⟨i, a, b⟩ => ⟨i, by omega, a, b⟩))
  exact ⟨w', g1, rfl, g2⟩
theorem py_sm_one {i n v : Nat} (h : i < n) : fb_sm (fun k => if k = i then v else 0) n = v := by
  have := fb_sm_upd (fun _ => 0) v h
  rw [fb_sm_const] at this
  omega
theorem py_E_delta {w : Nat → Int64} {lv : Nat → Int32} {sz : Int32} {k : Nat} {L g : Nat → Nat} (h : py_SP w lv sz k L g) {x : Nat} (hx : x < 2048) : py_E k L g (fun y => if y = x then 1 else 0) = g x := by
  obtain ⟨h1, h2, h3, h4, h5, h6, h7, h8⟩ := h
  unfold py_E
  by_cases e : g x = 0
  · rw [e]
    have : fb_sm (fun i => g (L i) * (if L i = x then 1 else 0)) k = fb_sm (fun _ => 0) k := fb_sm_cong (fun i hi => by
      have : L i ≠ x := fun q => h7 i hi (by rw [q]; exact e)
      rw [if_neg this, Nat.mul_zero])
    rw [this, fb_sm_const, Nat.mul_zero]
  · obtain ⟨i0, hi0, e0⟩ := h6 x hx e
    have : fb_sm (fun i => g (L i) * (if L i = x then 1 else 0)) k = fb_sm (fun i => if i = i0 then g x else 0) k := fb_sm_cong (fun i hi => by
      by_cases q : i = i0
      · rw [if_pos q, q, e0, if_pos rfl, Nat.mul_one]
      · have : L i ≠ x := by
          intro z
          rw [← e0] at z
          rcases Nat.lt_or_ge i i0 with r | r
          · exact h4 i i0 r hi0 z
          · exact h4 i0 i (by omega) hi z.symm
        rw [if_neg q, if_neg this, Nat.mul_zero])
    rw [this, py_sm_one hi0]
theorem py_E_le {w : Nat → Int64} {lv : Nat → Int32} {sz : Int32} {k : Nat} {L g : Nat → Nat} (h : py_SP w lv sz k L g) {x : Nat} (hx : x < 2048) : g x ≤ py_E k L g (fun _ => 1) := by
  rw [← py_E_delta h hx]
  unfold py_E
  refine fb_sm_le (fun i hi => Nat.mul_le_mul_left _ ?_)
  show (if L i = x then 1 else 0) ≤ 1
  by_cases e : L i = x
  · rw [if_pos e]; exact Nat.le_refl 1
  · rw [if_neg e]; omega
theorem py_SP_add {w : Nat → Int64} {lv : Nat → Int32} {sz : Int32} {k : Nat} {L g : Nat → Nat} (h : py_SP w lv sz k L g) {x X : Nat} (hx : x < 2048) (hX : py_E k L g (fun _ => 1) + X < 2 ^ 63) :
    ∃ (w' : Nat → Int64) (lv' : Nat → Int32) (sz' : Int32) (k' : Nat) (L' g' : Nat → Nat), zf_X6_add (nI x) (lN X) w lv sz = some (w', lv', sz') ∧ py_SP w' lv' sz' k' L' g' ∧ (∀ φ, py_E k' L' g' φ = py_E k L g φ + X * φ x) ∧ (∀ P : Nat → Prop, (∀ i, i < k → P (L i)) → (X ≠ 0 → P x) → ∀ i, i < k' → P (L' i)) := by
  have hgx := py_E_le h hx
  obtain ⟨rfl, h2, h3, h4, h5, h6, h7, h8⟩ := id h
  by_cases hX0 : X = 0
  · subst hX0
    refine ⟨w, lv, nI k, k, L, g, ?_, h, fun φ => by rw [Nat.zero_mul, Nat.add_zero], fun P hP _ => hP⟩
    unfold zf_X6_add
    rw [if_pos ((tl_cmp_eq (lN 0) 0).mpr rfl)]
  · have hXz : ¬ lg_cmp (lN X) 0 = 0 := fun e => hX0 ((tl_zero (by omega)).mp ((tl_cmp_eq _ _).mp e))
    have hpre : zf_X6_add (nI x) (lN X) w lv (nI k) = (if lg_cmp (lN (g x)) 0 = 0 then (if nI k < 0 then zf_X6_add_66 w lv (nI k) (nI x) (lN X) else (if (2048 : Int32) ≤ nI k then zf_X6_add_66 w lv (nI k) (nI x) (lN X) else (if nI k < 0 ∨ 2048 ≤ (nI k).toNatClampNeg then none else zf_X6_add_66 w (upd lv (nI k).toNatClampNeg (nI x)) (nI k + 1) (nI x) (lN X)))) else zf_X6_add_66 w lv (nI k) (nI x) (lN X)) := by
      unfold zf_X6_add
      rw [if_neg hXz, if_neg (tn_n0 (by omega)), if_pos (show nI x < (2048 : Int32) from nI_lt (a := x) (b := 2048) hx (by decide)), if_neg (tn_in (by omega) (by decide)), tn_cl (by omega), h5 x hx]
    have h66 : ∀ (lv : Nat → Int32) (sz : Int32), zf_X6_add_66 w lv sz (nI x) (lN X) = some (vp_updL w x (lN (g x + X)), lv, sz) := by
      intro lv sz
      unfold zf_X6_add_66
      rw [if_neg (tn_in (by omega) (by decide)), tn_cl (by omega), h5 x hx, tl_add]
    have hw' : ∀ y, y < 2048 → vp_updL w x (lN (g x + X)) y = lN (if y = x then g x + X else g y) := by
      intro y hy
      by_cases e : y = x
      · rw [if_pos e, e, pk_uLs]
      · rw [if_neg e, pk_uLn e, h5 y hy]
    have hg8 : ∀ y, y < 2048 → (if y = x then g x + X else g y) < 2 ^ 63 := by
      intro y hy
      by_cases e : y = x
      · rw [if_pos e]; omega
      · rw [if_neg e]; exact h8 y hy
    by_cases hg : g x = 0
    · -- a new state
      have hnx : ∀ i, i < k → L i ≠ x := fun i hi q => h7 i hi (by rw [q]; exact hg)
      have hk : k < 2048 := by
        rcases Nat.lt_or_ge k 2048 with q | q
        · exact q
        · have := fb_holes 2048 (k + 1) (fun i => if i = k then x else L i) (fun i hi => by
            show (if i = k then x else L i) < 2048
            by_cases e : i = k
            · rw [if_pos e]; exact hx
            · rw [if_neg e]; exact (h3 i (by omega)).1) (fun i j hij hj => by
            show (if i = k then x else L i) ≠ (if j = k then x else L j)
            have hi : ¬ i = k := by omega
            rw [if_neg hi]
            by_cases e : j = k
            · rw [if_pos e]; exact hnx i (by omega)
            · rw [if_neg e]; exact h4 i j hij (by omega))
          omega
      rw [hpre, if_pos ((tl_cmp_eq _ _).mpr (by rw [hg]; rfl)), if_neg (tn_n0 (by omega)), if_neg (show ¬ (2048 : Int32) ≤ nI k from nI_ge (a := k) (b := 2048) hk (by decide)), if_neg (tn_in (by omega) (by decide)), tn_cl (by omega), h66, show nI k + (1 : Int32) = nI (k + 1) from nI_1 k]
      have hL : ∀ i, i < k → (if i = k then x else L i) = L i := fun i hi => if_neg (by omega)
      refine ⟨_, _, _, k + 1, fun i => if i = k then x else L i, fun y => if y = x then g x + X else g y, rfl, ⟨rfl, by omega, ?_, ?_, hw', ?_, ?_, hg8⟩, ?_, ?_⟩
      · intro i hi
        show (if i = k then x else L i) < 2048 ∧ upd lv k (nI x) i = nI (if i = k then x else L i)
        by_cases e : i = k
        · rw [if_pos e, e, pk_us]; exact ⟨hx, rfl⟩
        · rw [if_neg e, pk_un e]; exact h3 i (by omega)
      · intro i j hij hj
        show (if i = k then x else L i) ≠ (if j = k then x else L j)
        rw [if_neg (show ¬ i = k by omega)]
        by_cases e : j = k
        · rw [if_pos e]; exact hnx i (by omega)
        · rw [if_neg e]; exact h4 i j hij (by omega)
      · intro y hy hne
        by_cases e : y = x
        · exact ⟨k, by omega, by show (if k = k then x else L k) = y; rw [if_pos rfl, e]⟩
        · have hne' : g y ≠ 0 := by
            intro z
            apply hne
            show (if y = x then g x + X else g y) = 0
            rw [if_neg e]; exact z
          obtain ⟨i, hi, q⟩ := h6 y hy hne'
          exact ⟨i, by omega, by show (if i = k then x else L i) = y; rw [hL i hi]; exact q⟩
      · intro i hi
        show (if (if i = k then x else L i) = x then g x + X else g (if i = k then x else L i)) ≠ 0
        by_cases e : i = k
        · rw [if_pos e, if_pos rfl]; omega
        · rw [if_neg e, if_neg (hnx i (by omega))]; exact h7 i (by omega)
      · intro φ
        unfold py_E
        rw [fb_sm_succ]
        congr 1
        · refine fb_sm_cong (fun i hi => ?_)
          show (if (if i = k then x else L i) = x then g x + X else g (if i = k then x else L i)) * φ (if i = k then x else L i) = g (L i) * φ (L i)
          rw [hL i hi, if_neg (hnx i hi)]
        · show (if (if k = k then x else L k) = x then g x + X else g (if k = k then x else L k)) * φ (if k = k then x else L k) = X * φ x
          rw [if_pos rfl, if_pos rfl, hg, Nat.zero_add]
      · intro P hP hPx i hi
        show P (if i = k then x else L i)
        by_cases e : i = k
        · rw [if_pos e]; exact hPx hX0
        · rw [if_neg e]; exact hP i (by omega)
    · obtain ⟨i0, hi0, e0⟩ := h6 x hx hg
      rw [hpre, if_neg (fun e => hg ((tl_zero (h8 x hx)).mp ((tl_cmp_eq _ _).mp e))), h66]
      refine ⟨_, _, _, k, L, fun y => if y = x then g x + X else g y, rfl, ⟨rfl, h2, h3, h4, hw', ?_, ?_, hg8⟩, ?_, fun P hP _ => hP⟩
      · intro y hy hne
        by_cases e : y = x
        · exact ⟨i0, hi0, by rw [e0, e]⟩
        · refine h6 y hy (fun z => hne ?_)
          show (if y = x then g x + X else g y) = 0
          rw [if_neg e]; exact z
      · intro i hi
        show (if L i = x then g x + X else g (L i)) ≠ 0
        by_cases e : L i = x
        · rw [if_pos e]; omega
        · rw [if_neg e]; exact h7 i hi
      · intro φ
        unfold py_E
        have : fb_sm (fun i => (if L i = x then g x + X else g (L i)) * φ (L i)) k = fb_sm (fun i => if i = i0 then (g x + X) * φ x else g (L i) * φ (L i)) k := fb_sm_cong (fun i hi => by
          by_cases q : i = i0
          · rw [if_pos q, q, e0, if_pos rfl]
          · have : L i ≠ x := by
              intro z
              rw [← e0] at z
              rcases Nat.lt_or_ge i i0 with r | r
              · exact h4 i i0 r hi0 z
              · exact h4 i0 i (by omega) hi z.symm
            rw [if_neg q, if_neg this])
        show fb_sm (fun i => (if L i = x then g x + X else g (L i)) * φ (L i)) k = _
        rw [this]
        have h9 := fb_sm_upd (fun i => g (L i) * φ (L i)) ((g x + X) * φ x) hi0
        have h11 : (g x + X) * φ x = g x * φ x + X * φ x := Nat.add_mul _ _ _
        rw [e0] at h9
        omega
theorem py_stateAt {w : Nat → Int64} {lv : Nat → Int32} {sz : Int32} {k : Nat} {L g : Nat → Nat} (h : py_SP w lv sz k L g) {i : Nat} (hi : i < k) : zf_X6_stateAt (nI i) lv sz = some (nI (L i)) := by
  obtain ⟨rfl, h2, h3, -⟩ := h
  unfold zf_X6_stateAt
  rw [if_neg (tn_n0 (by omega)), if_neg (nI_ge hi (by omega)), if_neg (show ¬ (2048 : Int32) ≤ nI i from nI_ge (a := i) (b := 2048) (by omega) (by decide)), if_neg (tn_in (by omega) (by decide)), tn_cl (by omega), (h3 i hi).2]
theorem py_weightOf {w : Nat → Int64} {lv : Nat → Int32} {sz : Int32} {k : Nat} {L g : Nat → Nat} (h : py_SP w lv sz k L g) {x : Nat} (hx : x < 2048) : zf_X6_weightOf (nI x) w = some (lN (g x)) := by
  obtain ⟨-, -, -, -, h5, -⟩ := h
  unfold zf_X6_weightOf
  rw [if_neg (tn_n0 (by omega)), if_neg (show ¬ (2048 : Int32) ≤ nI x from nI_ge (a := x) (b := 2048) (by omega) (by decide)), if_neg (tn_in (by omega) (by decide)), tn_cl (by omega), h5 x hx]
theorem py_startWith {w : Nat → Int64} {lv : Nat → Int32} {sz : Int32} (h : py_CL w lv sz) {x : Nat} (hx : x < 2048) : ∃ (w' : Nat → Int64) (lv' : Nat → Int32) (sz' : Int32) (k : Nat) (L g : Nat → Nat), zf_X0_startWith (nI x) w lv sz = some (w', lv', sz') ∧ py_SP w' lv' sz' k L g ∧ (∀ φ, py_E k L g φ = φ x) ∧ ∀ i, i < k → L i = x := by
  obtain ⟨w1, c1, c2⟩ := py_clear h
  obtain ⟨w2, lv2, sz2, k, L, g, a1, a2, a3, a4⟩ := py_SP_add (py_NO_SP (lv := lv) c2 (fun _ => 0)) (x := x) (X := 1) hx (by show fb_sm _ 0 + 1 < 2 ^ 63; decide)
  refine ⟨w2, lv2, sz2, k, L, g, ?_, a2, fun φ => ?_, a4 (fun y => y = x) (fun i hi => absurd hi (by omega)) (fun _ => rfl)⟩
  · unfold zf_X0_startWith
    rw [c1]
    simp only [zb]
    rw [show zf_X6_add (nI x) 1 w1 lv (nI 0) = _ from a1]
    rfl
  · rw [a3 φ, Nat.one_mul]
    show 0 + φ x = φ x
    omega
theorem py_stepOn {w1 w2 : Nat → Int64} {lv1 lv2 : Nat → Int32} {s1 s2 : Int32} (h : py_CL w1 lv1 s1) : ∃ w', zf_X0_stepOn w1 lv1 s1 w2 lv2 s2 = some (w2, lv2, s2, w', lv1, nI 0) ∧ py_NO w' (nI 0) := by
  obtain ⟨w', c1, c2⟩ := py_clear h
  refine ⟨w', ?_, c2⟩
  unfold zf_X0_stepOn
  rw [c1]
  rfl
