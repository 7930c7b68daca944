/-! ===== the likeliest row ===== -/
theorem py_ix {t s : Nat} : nI t * (8 : Int32) + nI s = nI (8 * t + s) := by rw [show (8 : Int32) = nI 8 from rfl, pk_mul, nI_add, Nat.mul_comm]
theorem py_ix' {t s : Nat} : (8 : Int32) * nI t + nI s = nI (8 * t + s) := by rw [show (8 : Int32) = nI 8 from rfl, pk_mul, nI_add]
theorem py_setBest {t s : Nat} (ht : t ≤ 9) (hs : s < 8) (v : Int64) (bs : Nat → Int64) : zf_X5_setBest (nI t) (nI s) v bs = some (vp_updL bs (8 * t + s) v) := by
  unfold zf_X5_setBest
  rw [py_ix, if_neg (tn_n0 (by omega)), if_neg (show ¬ (80 : Int32) ≤ nI (8 * t + s) from nI_ge (a := 8 * t + s) (b := 80) (by omega) (by decide)), if_neg (tn_in (a := 8 * t + s) (N := 80) (by omega) (by decide)), tn_cl (by omega)]
theorem py_bestOf {t s : Nat} (ht : t ≤ 9) (hs : s < 8) (bs : Nat → Int64) : zf_X5_bestOf (nI t) (nI s) bs = some (bs (8 * t + s)) := by
  unfold zf_X5_bestOf
  rw [py_ix, if_neg (tn_n0 (by omega)), if_neg (show ¬ (80 : Int32) ≤ nI (8 * t + s) from nI_ge (a := 8 * t + s) (b := 80) (by omega) (by decide)), if_neg (tn_in (a := 8 * t + s) (N := 80) (by omega) (by decide)), tn_cl (by omega)]
/-- the weight by a seat -/
def py_gB (T : Nat → Nat → Nat) (n N sc : Nat) (st ss : Nat → Nat) (d s r : Nat) : Nat := T s r * (py_ft sc st ss (N - d) r * py_C T n (py_ft sc st ss) N d r)
theorem py_gB_le {T : Nat → Nat → Nat} {n N sc : Nat} {st ss : Nat → Nat} (hT : ∀ i j, T i j ≤ 10) (d s r : Nat) : py_gB T n N sc st ss d s r ≤ 10 ^ (d + 1) := by
  have h3 : py_ft sc st ss (N - d) r * py_C T n (py_ft sc st ss) N d r ≤ 10 ^ d := by
    have := Nat.mul_le_mul (py_ft_le sc st ss (N - d) r) (py_C_le (n := n) (N := N) hT (py_ft_le sc st ss) d r)
    rw [Nat.one_mul] at this
    exact this
  have h4 := Nat.mul_le_mul (hT s r) h3
  rw [Nat.mul_comm 10, ← Nat.pow_succ] at h4
  exact h4
section PYLK
variable {n N sc : Nat} {T : Nat → Nat → Nat} {st ss : Nat → Nat} {ct mt xt xs yt ys : Nat → Int32} {fr : Int32}
theorem py_wB (h8 : n ≤ 8) (hc : ∀ i j, i < 8 → j < 8 → ct (8 * i + j) = nI (T i j)) (hT : ∀ i j, T i j ≤ 10) (hN : N ≤ 9) (hsc : sc ≤ 8) (hst : ∀ i, i < sc → 1 ≤ st i ∧ st i < 100) (hss : ∀ i, i < sc → ss i < 100) (h1 : ∀ i, i < sc → xt i = nI (st i)) (h2 : ∀ i, i < sc → xs i = nI (ss i)) {d s r : Nat} (hd : d + 1 ≤ N) (hs : s < n) (hr : r < n) {bs : Nat → Int64} (hb : bs (8 * (N - d) + r) = lN (py_C T n (py_ft sc st ss) N d r)) :
    zf_X5_weightBy (nI (N - (d + 1))) (nI s) (nI r) bs ct (nI n) xt xs (nI sc) = some (lN (py_gB T n N sc st ss d s r)) := by
  have hTs := hT s r
  have hle := py_ft_le sc st ss (N - d) r
  unfold zf_X5_weightBy py_gB
  rw [show nI (N - (d + 1)) + (1 : Int32) = nI (N - d) from by rw [show N - d = N - (d + 1) + 1 by omega]; exact nI_1 _, py_fits hsc (fun i hi => (hst i hi).2) hss (t := N - d) (s := r) (by omega) (by omega) h1 h2]
  simp only [zb]
  by_cases c : py_ft sc st ss (N - d) r = 0
  · rw [if_pos (by rw [c]; rfl), c, Nat.zero_mul, Nat.mul_zero]
    rfl
  · have c1 : py_ft sc st ss (N - d) r = 1 := by omega
    rw [if_neg (show ¬ nI (py_ft sc st ss (N - d) r) = 0 from nI_ne0 (by omega) (by omega)), py_ten h8 hc hs hr, py_bestOf (by omega) (by omega), hb]
    simp only [zb]
    rw [tl_i (by omega), tl_mul, c1, Nat.one_mul]
theorem py_bF6 (h8 : n ≤ 8) (hc : ∀ i j, i < 8 → j < 8 → ct (8 * i + j) = nI (T i j)) (hT : ∀ i j, T i j ≤ 10) (hN : N ≤ 9) (hsc : sc ≤ 8) (hst : ∀ i, i < sc → 1 ≤ st i ∧ st i < 100) (hss : ∀ i, i < sc → ss i < 100) (h1 : ∀ i, i < sc → xt i = nI (st i)) (h2 : ∀ i, i < sc → xs i = nI (ss i)) {d s : Nat} (hd : d + 1 ≤ N) (hs : s < n) {bs : Nat → Int64} (hb : ∀ r, r < n → bs (8 * (N - d) + r) = lN (py_C T n (py_ft sc st ss) N d r)) :
    ∀ (e q m : Nat), q + e = n → e < m → zf_X5_bestFrom_6 bs ct (nI n) xt xs (nI sc) m (nI (N - (d + 1))) (nI s) (lN (py_mx (py_gB T n N sc st ss d s) q)) (nI q) = some (lN (py_C T n (py_ft sc st ss) N (d + 1) s)) := by
  intro e
  induction e with
  | zero =>
    intro q m e1 e2
    obtain ⟨f, rfl⟩ : ∃ f, m = f + 1 := ⟨m - 1, by omega⟩
    have : q = n := by omega
    subst this
    show zf_X5_bestFrom_6_b _ _ _ _ _ _ _ _ _ _ _ = _
    unfold zf_X5_bestFrom_6_b
    rw [if_pos ((tn_le (by omega) (by omega)).mpr (by omega))]
    rfl
  | succ e ih =>
    intro q m e1 e2
    obtain ⟨f, rfl⟩ : ∃ f, m = f + 1 := ⟨m - 1, by omega⟩
    rw [← ih (q + 1) f (by omega) (by omega)]
    have h10 := py_p10_63 (e := d + 1) (by omega)
    have hg := py_gB_le (n := n) (N := N) (sc := sc) (st := st) (ss := ss) hT d s q
    have hmx : py_mx (py_gB T n N sc st ss d s) q ≤ 10 ^ (d + 1) := py_mx_le (fun k _ => py_gB_le hT d s k)
    show zf_X5_bestFrom_6_b _ _ _ _ _ _ _ _ _ _ _ = _
    unfold zf_X5_bestFrom_6_b
    rw [if_neg (nI_ge (a := q) (b := n) (by omega) (by omega)), py_wB h8 hc hT hN hsc hst hss h1 h2 hd hs (show q < n by omega) (hb q (by omega)), show nI q + (1 : Int32) = nI (q + 1) from nI_1 q]
    simp only [zb]
    have emx : py_mx (py_gB T n N sc st ss d s) (q + 1) = if py_mx (py_gB T n N sc st ss d s) q < py_gB T n N sc st ss d s q then py_gB T n N sc st ss d s q else py_mx (py_gB T n N sc st ss d s) q := rfl
    rw [emx]
    congr 1
    by_cases c : py_gB T n N sc st ss d s q < py_mx (py_gB T n N sc st ss d s) q
    · rw [if_pos ((pk_lLT (by omega) (by omega)).mpr c), if_neg (by omega)]
    · rw [if_neg (fun z => c ((pk_lLT (by omega) (by omega)).mp z))]
      by_cases c' : py_mx (py_gB T n N sc st ss d s) q < py_gB T n N sc st ss d s q
      · rw [if_pos c']
      · rw [if_neg c']
        congr 1
        omega
/-- the class's table of bests from N - d on -/
def py_BR (T : Nat → Nat → Nat) (n N sc : Nat) (st ss : Nat → Nat) (d : Nat) (bs : Nat → Int64) : Prop := ∀ e r, e < d → r < n → bs (8 * (N - e) + r) = lN (py_C T n (py_ft sc st ss) N e r)
theorem py_lk37 (h8 : n ≤ 8) (hc : ∀ i j, i < 8 → j < 8 → ct (8 * i + j) = nI (T i j)) (hT : ∀ i j, T i j ≤ 10) (hN : N ≤ 9) (hsc : sc ≤ 8) (hst : ∀ i, i < sc → 1 ≤ st i ∧ st i < 100) (hss : ∀ i, i < sc → ss i < 100) (h1 : ∀ i, i < sc → xt i = nI (st i)) (h2 : ∀ i, i < sc → xs i = nI (ss i)) {d : Nat} (hd : d + 1 ≤ N) (k29 : (Nat → Int64) → Int32 → Int32 → Option (Int32 × (Nat → Int64))) :
    ∀ (e q m : Nat) (bs : Nat → Int64), q + e = n → e < m → py_BR T n N sc st ss (d + 1) bs → (∀ r, r < q → bs (8 * (N - (d + 1)) + r) = lN (py_C T n (py_ft sc st ss) N (d + 1) r)) →
    ∃ bs', zf_X5_likeliestOf_37 ct (nI n) xt xs fr (nI sc) k29 m bs (nI N) (nI (N - (d + 1))) (nI q) = k29 bs' (nI N) (nI (N - (d + 1)) + -1) ∧ py_BR T n N sc st ss (d + 2) bs' := by
  intro e
  induction e with
  | zero =>
    intro q m bs e1 e2 hB hq
    obtain ⟨f, rfl⟩ : ∃ f, m = f + 1 := ⟨m - 1, by omega⟩
    have : q = n := by omega
    subst this
    refine ⟨bs, ?_, fun e r he hr => ?_⟩
    · show zf_X5_likeliestOf_37_b _ _ xt xs fr (nI sc) _ _ _ _ _ _ = _
      unfold zf_X5_likeliestOf_37_b
      rw [if_pos ((tn_le (by omega) (by omega)).mpr (by omega))]
    · by_cases e9 : e = d + 1
      · subst e9; exact hq r hr
      · exact hB e r (by omega) hr
  | succ e ih =>
    intro q m bs e1 e2 hB hq
    obtain ⟨f, rfl⟩ : ∃ f, m = f + 1 := ⟨m - 1, by omega⟩
    have a := py_bF6 h8 hc hT hN hsc hst hss h1 h2 hd (show q < n by omega) (bs := bs) (fun r hr => hB d r (by omega) hr) n 0 zfuel (by omega) (by unfold zfuel; omega)
    have a' : zf_X5_bestFrom (nI (N - (d + 1))) (nI q) bs ct (nI n) xt xs (nI sc) = some (lN (py_C T n (py_ft sc st ss) N (d + 1) q)) := a
    show ∃ bs', zf_X5_likeliestOf_37_b _ _ xt xs fr (nI sc) _ _ _ _ _ _ = _ ∧ _
    unfold zf_X5_likeliestOf_37_b
    rw [if_neg (nI_ge (a := q) (b := n) (by omega) (by omega)), a']
    simp only [zb]
    rw [py_setBest (by omega) (by omega), show nI q + (1 : Int32) = nI (q + 1) from nI_1 q]
    simp only [zb]
    refine ih (q + 1) f _ (by omega) (by omega) (fun e' r he hr => ?_) (fun r hr => ?_)
    · rw [pk_uLn (by omega)]
      exact hB e' r he hr
    · by_cases e9 : r = q
      · subst e9; rw [pk_uLs]
      · rw [pk_uLn (by omega)]
        exact hq r (by omega)
theorem py_lk29 (h8 : n ≤ 8) (hc : ∀ i j, i < 8 → j < 8 → ct (8 * i + j) = nI (T i j)) (hT : ∀ i j, T i j ≤ 10) (hN : N ≤ 9) (hsc : sc ≤ 8) (hst : ∀ i, i < sc → 1 ≤ st i ∧ st i < 100) (hss : ∀ i, i < sc → ss i < 100) (h1 : ∀ i, i < sc → xt i = nI (st i)) (h2 : ∀ i, i < sc → xs i = nI (ss i)) :
    ∀ (t d m : Nat) (bs : Nat → Int64), d + 1 + t = N → t + 1 < m → py_BR T n N sc st ss (d + 1) bs →
    ∃ bs', zf_X5_likeliestOf_29 ct (nI n) xt xs fr (nI sc) m bs (nI N) (nI t) = (Option.bind (zf_X5_bestOf 0 fr bs') fun x => if lg_cmp x 0 = 0 then some (-9, bs') else zf_X5_likeliestOf_105 ct (nI n) xt xs fr (nI sc) zfuel bs' (nI N) 0 fr 0) ∧ py_BR T n N sc st ss (N + 1) bs' := by
  intro t
  induction t with
  | zero =>
    intro d m bs e1 e2 hB
    obtain ⟨f, rfl⟩ : ∃ f, m = f + 1 := ⟨m - 1, by omega⟩
    obtain ⟨g, rfl⟩ : ∃ g, f = g + 1 := ⟨f - 1, by omega⟩
    obtain ⟨bs', a1, a2⟩ := py_lk37 (fr := fr) h8 hc hT hN hsc hst hss h1 h2 (d := d) (by omega) (zf_X5_likeliestOf_29 ct (nI n) xt xs fr (nI sc) (g + 1)) n 0 zfuel bs (by omega) (by unfold zfuel; omega) hB (fun r hr => absurd hr (by omega))
    have : N = d + 1 := by omega
    subst this
    refine ⟨bs', ?_, a2⟩
    show zf_X5_likeliestOf_29_b _ _ _ _ fr _ _ _ _ _ = _
    unfold zf_X5_likeliestOf_29_b
    rw [if_neg (by decide)]
    rw [Nat.sub_self] at a1
    rw [show zf_X5_likeliestOf_37 ct (nI n) xt xs fr (nI sc) (zf_X5_likeliestOf_29 ct (nI n) xt xs fr (nI sc) (g + 1)) zfuel bs (nI (d + 1)) (nI 0) 0 = _ from a1]
    show zf_X5_likeliestOf_29_b _ _ _ _ fr _ _ _ _ _ = _
    unfold zf_X5_likeliestOf_29_b
    rw [if_pos (by decide)]
  | succ t ih =>
    intro d m bs e1 e2 hB
    obtain ⟨f, rfl⟩ : ∃ f, m = f + 1 := ⟨m - 1, by omega⟩
    obtain ⟨bs1, a1, a2⟩ := py_lk37 (fr := fr) h8 hc hT hN hsc hst hss h1 h2 (d := d) (by omega) (zf_X5_likeliestOf_29 ct (nI n) xt xs fr (nI sc) f) n 0 zfuel bs (by omega) (by unfold zfuel; omega) hB (fun r hr => absurd hr (by omega))
    obtain ⟨bs2, b1, b2⟩ := ih (d + 1) f bs1 (by omega) (by omega) a2
    refine ⟨bs2, ?_, b2⟩
    rw [← b1]
    rw [show N - (d + 1) = t + 1 by omega, py_m1] at a1
    show zf_X5_likeliestOf_29_b _ _ _ _ fr _ _ _ _ _ = _
    unfold zf_X5_likeliestOf_29_b
    rw [if_neg (tn_n0 (by omega)), show zf_X5_likeliestOf_37 ct (nI n) xt xs fr (nI sc) (zf_X5_likeliestOf_29 ct (nI n) xt xs fr (nI sc) f) zfuel bs (nI N) (nI (t + 1)) 0 = _ from a1]
theorem py_lk3 (hN : N ≤ 9) : ∀ (e q m : Nat) (bs : Nat → Int64), q + e = 8 → e < m → (∀ r, r < q → bs (8 * N + r) = 1) →
    ∃ bs', zf_X5_likeliestOf_3 ct (nI n) xt xs fr (nI sc) m bs (nI N) (nI q) = zf_X5_likeliestOf_29 ct (nI n) xt xs fr (nI sc) zfuel bs' (nI N) (nI N - 1) ∧ ∀ r, r < 8 → bs' (8 * N + r) = 1 := by
  intro e
  induction e with
  | zero =>
    intro q m bs e1 e2 h
    obtain ⟨f, rfl⟩ : ∃ f, m = f + 1 := ⟨m - 1, by omega⟩
    have : q = 8 := by omega
    subst this
    refine ⟨bs, ?_, h⟩
    show zf_X5_likeliestOf_3_b ct (nI n) xt xs fr (nI sc) _ _ _ _ = _
    unfold zf_X5_likeliestOf_3_b
    rw [if_pos (by decide)]
  | succ e ih =>
    intro q m bs e1 e2 h
    obtain ⟨f, rfl⟩ : ∃ f, m = f + 1 := ⟨m - 1, by omega⟩
    show ∃ bs', zf_X5_likeliestOf_3_b ct (nI n) xt xs fr (nI sc) _ _ _ _ = _ ∧ _
    unfold zf_X5_likeliestOf_3_b
    rw [if_neg (show ¬ (8 : Int32) ≤ nI q from nI_ge (a := q) (b := 8) (by omega) (by decide)), py_setBest hN (by omega), show nI q + (1 : Int32) = nI (q + 1) from nI_1 q]
    simp only [zb]
    exact ih (q + 1) f _ (by omega) (by omega) (fun r hr => by
      by_cases e9 : r = q
      · rw [e9, pk_uLs]
      · rw [pk_uLn (by omega)]; exact h r (by omega))
theorem py_lk12 (h8 : n ≤ 8) (hc : ∀ i j, i < 8 → j < 8 → ct (8 * i + j) = nI (T i j)) (hT : ∀ i j, T i j ≤ 10) (hN : N ≤ 9) (hsc : sc ≤ 8) (hst : ∀ i, i < sc → 1 ≤ st i ∧ st i < 100) (hss : ∀ i, i < sc → ss i < 100) (h1 : ∀ i, i < sc → xt i = nI (st i)) (h2 : ∀ i, i < sc → xs i = nI (ss i)) {d s : Nat} (hd : d + 1 ≤ N) (hs : s < n) {bs : Nat → Int64} (hb : ∀ r, r < n → bs (8 * (N - d) + r) = lN (py_C T n (py_ft sc st ss) N d r)) {A rr : Nat} (hA : A < 2 ^ 63) (hr : rr < n) (hg : py_gB T n N sc st ss d s rr = A) (hf : ∀ r, r < rr → ¬ py_gB T n N sc st ss d s r = A) :
    ∀ (e q m : Nat), q + e = rr → e < m → zf_X5_firstBest_12 bs ct (nI n) xt xs (nI sc) m (nI (N - (d + 1))) (nI s) (lN A) (nI q) = some (nI rr) := by
  have h10 := py_p10_63 (e := d + 1) (by omega)
  intro e
  induction e with
  | zero =>
    intro q m e1 e2
    obtain ⟨f, rfl⟩ : ∃ f, m = f + 1 := ⟨m - 1, by omega⟩
    have : q = rr := by omega
    subst this
    show zf_X5_firstBest_12_b _ _ _ _ _ _ _ _ _ _ _ = _
    unfold zf_X5_firstBest_12_b
    rw [if_neg (nI_ge (a := q) (b := n) (by omega) (by omega)), py_wB h8 hc hT hN hsc hst hss h1 h2 hd hs hr (hb q (by omega)), hg]
    simp only [zb]
    rw [if_pos (by rw [tl_cmp_eq])]
  | succ e ih =>
    intro q m e1 e2
    obtain ⟨f, rfl⟩ : ∃ f, m = f + 1 := ⟨m - 1, by omega⟩
    have hgl := py_gB_le (n := n) (N := N) (sc := sc) (st := st) (ss := ss) hT d s q
    rw [← ih (q + 1) f (by omega) (by omega)]
    show zf_X5_firstBest_12_b _ _ _ _ _ _ _ _ _ _ _ = _
    unfold zf_X5_firstBest_12_b
    rw [if_neg (nI_ge (a := q) (b := n) (by omega) (by omega)), py_wB h8 hc hT hN hsc hst hss h1 h2 hd hs (show q < n by omega) (hb q (by omega)), show nI q + (1 : Int32) = nI (q + 1) from nI_1 q]
    simp only [zb]
    rw [if_neg (fun z => hf q (by omega) ((fb_lN_inj (by omega) hA).mp ((tl_cmp_eq _ _).mp z)))]
theorem py_lk56 (h8 : n ≤ 8) (hm : ∀ i j, i < 8 → j < 8 → mt (8 * i + j) = nI (T i j)) (hT : ∀ i j, T i j ≤ 10) (hN : N ≤ 9) {d s : Nat} (hd : d + 1 ≤ N) (hs : s < n) {rw' : Nat → Int32} {rb : Nat → Int64} (hb : ∀ r, r < n → rb (8 * (N - d) + r) = lN (py_ft sc st ss (N - d) r * py_C T n (py_ft sc st ss) N d r)) {A rr : Nat} (hA : A < 2 ^ 63) (hbt : rb (8 * (N - (d + 1)) + s) = lN A) (hr : rr < n) (hg : py_gB T n N sc st ss d s rr = A) (hf : ∀ r, r < rr → ¬ py_gB T n N sc st ss d s r = A) (v : Int32)
    (k47 : (Nat → Int32) → (Nat → Int64) → Int32 → Int32 → Int32 → Int32 → Option (Int32 × (Nat → Int32) × (Nat → Int64))) :
    ∀ (e q m : Nat), q + e = rr → e < m → zf_X9_likeliest_56 mt (nI n) fr (nI sc) yt ys k47 m rw' rb (nI N) (nI s) v (nI (N - d)) (nI q) = k47 rw' rb (nI N) (nI rr) (10 * v + nI rr) (nI (N - d + 1)) := by
  have h10 := py_p10_63 (e := d + 1) (by omega)
  have e9 : (8 : Int32) * nI (N - d) - 8 + nI s = nI (8 * (N - (d + 1)) + s) := by
    rw [show (8 : Int32) = nI 8 from rfl, pk_mul, pk_sub (by omega), nI_add]
    congr 1
    omega
  have pre : ∀ q f, q < n → zf_X9_likeliest_56 mt (nI n) fr (nI sc) yt ys k47 (f + 1) rw' rb (nI N) (nI s) v (nI (N - d)) (nI q) = (if lg_cmp (lN (py_gB T n N sc st ss d s q)) (lN A) = 0 then k47 rw' rb (nI N) (nI q) (10 * v + nI q) (nI (N - d + 1)) else zf_X9_likeliest_56 mt (nI n) fr (nI sc) yt ys k47 f rw' rb (nI N) (nI s) v (nI (N - d)) (nI (q + 1))) := by
    intro q f hq
    have hTs := hT s q
    show zf_X9_likeliest_56_b mt (nI n) fr (nI sc) yt ys _ _ _ _ _ _ _ _ _ = _
    unfold zf_X9_likeliest_56_b
    rw [py_ix', py_ix', e9, if_neg (tn_in (a := 8 * s + q) (N := 64) (by omega) (by decide)), if_neg (tn_in (a := 8 * (N - d) + q) (N := 80) (by omega) (by decide)), if_neg (tn_in (a := 8 * (N - (d + 1)) + s) (N := 80) (by omega) (by decide)), tn_cl (a := 8 * s + q) (by omega), tn_cl (a := 8 * (N - d) + q) (by omega), tn_cl (a := 8 * (N - (d + 1)) + s) (by omega), hm s q (by omega) (by omega), hb q hq, hbt, tl_i (by omega), tl_mul, show nI q + (1 : Int32) = nI (q + 1) from nI_1 q, show nI (N - d) + (1 : Int32) = nI (N - d + 1) from nI_1 _]
    rfl
  intro e
  induction e with
  | zero =>
    intro q m e1 e2
    obtain ⟨f, rfl⟩ : ∃ f, m = f + 1 := ⟨m - 1, by omega⟩
    have : q = rr := by omega
    subst this
    rw [pre q f hr, hg, if_pos (by rw [tl_cmp_eq])]
  | succ e ih =>
    intro q m e1 e2
    obtain ⟨f, rfl⟩ : ∃ f, m = f + 1 := ⟨m - 1, by omega⟩
    have hgl := py_gB_le (n := n) (N := N) (sc := sc) (st := st) (ss := ss) hT d s q
    rw [pre q f (by omega), if_neg (fun z => hf q (by omega) ((fb_lN_inj (by omega) hA).mp ((tl_cmp_eq _ _).mp z)))]
    exact ih (q + 1) f (by omega) (by omega)
theorem py_lkp (h8 : n ≤ 8) (hc : ∀ i j, i < 8 → j < 8 → ct (8 * i + j) = nI (T i j)) (hm : ∀ i j, i < 8 → j < 8 → mt (8 * i + j) = nI (T i j)) (hT : ∀ i j, T i j ≤ 10) (hN : N ≤ 9) (hsc : sc ≤ 8) (hst : ∀ i, i < sc → 1 ≤ st i ∧ st i < 100) (hss : ∀ i, i < sc → ss i < 100) (h1 : ∀ i, i < sc → xt i = nI (st i)) (h2 : ∀ i, i < sc → xs i = nI (ss i)) {bs : Nat → Int64} (hB : py_BR T n N sc st ss (N + 1) bs) {rw' : Nat → Int32} {rb : Nat → Int64} (hR : py_RW T n N sc st ss (N + 1) rw' rb) (fr' : Int32) :
    ∀ (d t m m' s : Nat) (v : Int32), t + d = N → d < m → d < m' → s < n → py_ft sc st ss t s = 1 → 0 < py_C T n (py_ft sc st ss) N d s →
    ∃ r, zf_X5_likeliestOf_105 ct (nI n) xt xs fr (nI sc) m bs (nI N) v (nI s) (nI t) = some (r, bs) ∧ zf_X9_likeliest_47 mt (nI n) fr' (nI sc) yt ys m' rw' rb (nI N) (nI s) v (nI (t + 1)) = some (r, rw', rb) := by
  intro d
  induction d with
  | zero =>
    intro t m m' s v e1 e2 e3 hs hft hC
    obtain ⟨f, rfl⟩ : ∃ f, m = f + 1 := ⟨m - 1, by omega⟩
    obtain ⟨f', rfl⟩ : ∃ f, m' = f + 1 := ⟨m' - 1, by omega⟩
    have : t = N := by omega
    subst this
    refine ⟨v, ?_, ?_⟩
    · show zf_X5_likeliestOf_105_b _ _ xt xs fr (nI sc) _ _ _ _ _ _ = _
      unfold zf_X5_likeliestOf_105_b
      rw [if_pos ((tn_le (by omega) (by omega)).mpr (by omega))]
    · show zf_X9_likeliest_47_b mt (nI n) fr' (nI sc) yt ys _ _ _ _ _ _ _ = _
      unfold zf_X9_likeliest_47_b
      rw [if_pos (nI_lt (by omega) (by omega))]
  | succ d ih =>
    intro t m m' s v e1 e2 e3 hs hft hC
    obtain ⟨f, rfl⟩ : ∃ f, m = f + 1 := ⟨m - 1, by omega⟩
    obtain ⟨f', rfl⟩ : ∃ f, m' = f + 1 := ⟨m' - 1, by omega⟩
    have et : t = N - (d + 1) := by omega
    have hCe : py_C T n (py_ft sc st ss) N (d + 1) s = py_mx (py_gB T n N sc st ss d s) n := rfl
    have hCb := py_C_le (n := n) (N := N) hT (py_ft_le sc st ss) (d + 1) s
    have h10 := py_p10_63 (e := d + 1) (by omega)
    rw [hCe] at hC
    obtain ⟨rr, hr, hg, hf⟩ := fb_first (p := fun r => py_gB T n N sc st ss d s r = py_mx (py_gB T n N sc st ss d s) n) (py_mx_at hC)
    have hgpos : 0 < py_gB T n N sc st ss d s rr := by rw [hg]; exact hC
    have hft' : py_ft sc st ss (N - d) rr = 1 := by
      have := py_ft_le sc st ss (N - d) rr
      by_cases c : py_ft sc st ss (N - d) rr = 0
      · unfold py_gB at hgpos
        rw [c, Nat.zero_mul, Nat.mul_zero] at hgpos
        omega
      · omega
    have hC' : 0 < py_C T n (py_ft sc st ss) N d rr := by
      by_cases c : py_C T n (py_ft sc st ss) N d rr = 0
      · unfold py_gB at hgpos
        rw [c, Nat.mul_zero, Nat.mul_zero] at hgpos
        omega
      · omega
    have a := py_lk12 h8 hc hT hN hsc hst hss h1 h2 (d := d) (s := s) (by omega) hs (bs := bs) (fun r hr => hB d r (by omega) hr) (A := py_mx (py_gB T n N sc st ss d s) n) (rr := rr) (by omega) hr hg hf rr 0 zfuel (by omega) (by unfold zfuel; omega)
    have hbt := (hR (d + 1) s (by omega) hs).2
    rw [← et, hft, Nat.one_mul, hCe] at hbt
    have c := py_lk56 (mt := mt) (yt := yt) (ys := ys) (fr := fr') h8 hm hT hN (d := d) (s := s) (by omega) hs (rw' := rw') (rb := rb) (fun r hr => (hR d r (by omega) hr).2) (A := py_mx (py_gB T n N sc st ss d s) n) (rr := rr) (by omega) (by rw [← et]; exact hbt) hr hg hf v (zf_X9_likeliest_47 mt (nI n) fr' (nI sc) yt ys f') rr 0 zfuel (by omega) (by unfold zfuel; omega)
    obtain ⟨r, i1, i2⟩ := ih (t + 1) f f' rr (10 * v + nI rr) (by omega) (by omega) (by omega) hr (by rw [show t + 1 = N - d by omega]; exact hft') hC'
    refine ⟨r, ?_, ?_⟩
    · rw [← i1]
      show zf_X5_likeliestOf_105_b _ _ xt xs fr (nI sc) _ _ _ _ _ _ = _
      unfold zf_X5_likeliestOf_105_b zf_X5_firstBest
      rw [if_neg (nI_ge (a := t) (b := N) (by omega) (by omega)), py_bestOf (by omega) (by omega), et, hB (d + 1) s (by omega) hs, hCe]
      simp only [zb]
      rw [show zf_X5_firstBest_12 bs ct (nI n) xt xs (nI sc) zfuel (nI (N - (d + 1))) (nI s) (lN (py_mx (py_gB T n N sc st ss d s) n)) 0 = _ from a]
      simp only [zb]
      rw [Int32.mul_comm v 10, show nI (N - (d + 1)) + (1 : Int32) = nI (N - (d + 1) + 1) from nI_1 _]
    · rw [← i2]
      show zf_X9_likeliest_47_b mt (nI n) fr' (nI sc) yt ys _ _ _ _ _ _ _ = _
      unfold zf_X9_likeliest_47_b
      rw [if_neg (nI_nlt (a := N) (b := t + 1) (by omega) (by omega)), show t + 1 = N - d by omega]
      exact c
end PYLK
section PYLK3
variable {n kd pn b h sc : Nat} {T : Nat → Nat → Nat} {hs st ss : Nat → Nat} {sd : Int64}
variable {ct mt xh xt xs ma mw mt' ms' : Nat → Int32} {cs ck cp ms mk mr x0 x1 x2 x3 x4 mp mf mh mn mc : Int32} {x5 md : Int64}
theorem po_likeliest (hN : py_RN n T kd pn ct cs ck cp mt ms mk mr) (hG : py_RG n b h hs sc st ss sd xh xt xs x0 x1 x2 x3 x4 x5 mp mf mh mn ma mw mc mt' ms' md) (bs : Nat → Int64) (rw' : Nat → Int32) (rb : Nat → Int64) (p0 : Int32) :
    ∃ r bs' rw2 rb2, zf_X8_likeliest p0 ct cs xt xs x0 x4 bs = some (r, bs') ∧ zf_X9_likeliest p0 mt ms mf mc mt' ms' rw' rb = some (r, rw2, rb2) := by
  obtain ⟨h2, h8, -, -, rfl, rfl, -, -, -, -, hc, hm, hz, hr, -⟩ := hN
  obtain ⟨hb, hh, hsc, hhs, hss, -, -, -, g1, g2, g3, g4, rfl, -, -, -, rfl, -, -, rfl, -, -, rfl, -⟩ := hG
  have hT := py_RN_le hz hr
  have hst1 : ∀ i, i < sc → 1 ≤ st i ∧ st i < 100 := fun i hi => ⟨(hss i hi).1, by have := (hss i hi).2.1; omega⟩
  have hss1 : ∀ i, i < sc → ss i < 100 := fun i hi => by have := (hss i hi).2.2; omega
  unfold zf_X8_likeliest zf_X9_likeliest
  rw [py_rng (lo := 1) (hi := 9) (lo' := 1) (hi' := 9) (by decide) (by decide)]
  simp only [zb]
  by_cases hq : p0 < 1
  · rw [if_pos hq, if_pos (Or.inl hq), if_pos rfl]
    exact ⟨_, _, _, _, rfl, rfl⟩
  · rw [if_neg hq]
    by_cases hq2 : p0 ≤ 9
    · rw [if_pos hq2, if_neg (show ¬ (p0 < 1 ∨ 9 < p0) from fun q => q.elim hq (fun q => absurd hq2 (Int32.not_le.mpr q))), if_neg zone]
      obtain ⟨N, hN9, rfl⟩ := nI_of2 (x := p0) (M := 9) (n := 9) (by decide) (fun z => hq (Int32.lt_trans z (by decide))) hq2
      have hN1 : 1 ≤ N := by
        by_cases c : N = 0
        · subst c; exact absurd (show nI 0 < 1 by decide) hq
        · omega
      obtain ⟨bs1, a1, a2⟩ := py_lk3 (ct := ct) (xt := xt) (xs := xs) (n := n) (sc := sc) (fr := nI b) hN9 8 0 zfuel bs (by omega) (by unfold zfuel; omega) (fun r hr => absurd hr (by omega))
      obtain ⟨bs2, b1, b2⟩ := py_lk29 (fr := nI b) h8 hc hT hN9 hsc hst1 hss1 g1 g2 (N - 1) 0 zfuel bs1 (by omega) (by unfold zfuel; omega) (fun e r he hr => by
        have : e = 0 := by omega
        subst this
        rw [Nat.sub_zero, a2 r (by omega)]
        rfl)
      obtain ⟨rw2, rb2, c1, c2⟩ := py_lr2 h8 hm hT hN9 hsc hst1 hss1 g3 g4 N 0 zfuel rw' rb (by omega) (by unfold zfuel; omega) (fun e r he => absurd he (by omega))
      have e2 : zf_X9_layRows (nI N) mt (nI n) (nI sc) mt' ms' rw' rb = some (rw2, rb2) := c1
      have e3 := (c2 N b (by omega) hb).2
      rw [Nat.sub_self, py_ft_0 (fun i hi => (hst1 i hi).1), Nat.one_mul, Nat.mul_zero, Nat.zero_add] at e3
      have e4 := b2 N b (by omega) hb
      rw [Nat.sub_self, Nat.mul_zero, Nat.zero_add] at e4
      have hCb := py_C_le (n := n) (N := N) hT (py_ft_le sc st ss) N b
      have h10 := py_p10_63 (e := N) (by omega)
      have e5 : zf_X5_likeliestOf (nI N) ct (nI n) xt xs (nI b) (nI sc) bs = if lg_cmp (lN (py_C T n (py_ft sc st ss) N N b)) 0 = 0 then some (-9, bs2) else zf_X5_likeliestOf_105 ct (nI n) xt xs (nI b) (nI sc) zfuel bs2 (nI N) 0 (nI b) 0 := by
        unfold zf_X5_likeliestOf
        rw [show zf_X5_likeliestOf_3 ct (nI n) xt xs (nI b) (nI sc) zfuel bs (nI N) 0 = _ from a1, show nI N - (1 : Int32) = nI (N - 1) from pk_sub (a := N) (b := 1) hN1, b1, show zf_X5_bestOf 0 (nI b) bs2 = _ from py_bestOf (t := 0) (by omega) (by omega) bs2, Nat.mul_zero, Nat.zero_add, e4]
        rfl
      rw [e5, e2]
      simp only [zb]
      rw [if_neg (tn_in (a := b) (N := 80) (by omega) (by decide)), tn_cl (a := b) (by omega), e3]
      by_cases c : lg_cmp (lN (py_C T n (py_ft sc st ss) N N b)) 0 = 0
      · rw [if_pos c, if_pos c]
        exact ⟨_, _, _, _, rfl, rfl⟩
      · rw [if_neg c, if_neg c]
        obtain ⟨r, i1, i2⟩ := py_lkp (yt := mt') (ys := ms') (fr := nI b) h8 hc hm hT hN9 hsc hst1 hss1 g1 g2 b2 c2 (nI b) N 0 zfuel zfuel b 0 (by omega) (by unfold zfuel; omega) (by unfold zfuel; omega) hb (py_ft_0 (fun i hi => (hst1 i hi).1) b) (by
          by_cases c0 : py_C T n (py_ft sc st ss) N N b = 0
          · exact absurd (by rw [tl_cmp_eq, c0]; rfl) c
          · omega)
        rw [show zf_X5_likeliestOf_105 ct (nI n) xt xs (nI b) (nI sc) zfuel bs2 (nI N) 0 (nI b) 0 = _ from i1, show zf_X9_likeliest_47 mt (nI n) (nI b) (nI sc) mt' ms' zfuel rw2 rb2 (nI N) (nI b) 0 1 = _ from i2]
        exact ⟨_, _, _, _, rfl, rfl⟩
    · rw [if_neg hq2, if_pos (Or.inr (py_nle hq2)), if_pos rfl]
      exact ⟨_, _, _, _, rfl, rfl⟩
end PYLK3
