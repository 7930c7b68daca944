/-! ===== the reference's rows ===== -/
theorem py_m1 {t : Nat} : nI (t + 1) + (-1 : Int32) = nI t := by
  rw [show (-1 : Int32) = -(1 : Int32) from rfl, ← Int32.sub_eq_add_neg]
  exact pk_sub (a := t + 1) (b := 1) (by omega)
section PYLR
variable {n N sc : Nat} {T : Nat → Nat → Nat} {st ss : Nat → Nat} {mt xt xs : Nat → Int32}
variable (k2 : (Nat → Int32) → (Nat → Int64) → Int32 → Int32 → Option ((Nat → Int32) × (Nat → Int64)))
variable (k8 : (Nat → Int32) → (Nat → Int64) → Int32 → Int32 → Int32 → Option ((Nat → Int32) × (Nat → Int64)))
theorem py_lr157 (hN : N ≤ 9) (hsc : sc ≤ 8) (hst : ∀ i, i < sc → 1 ≤ st i ∧ st i < 100) (hss : ∀ i, i < sc → ss i < 100) (h1 : ∀ i, i < sc → xt i = nI (st i)) (h2 : ∀ i, i < sc → xs i = nI (ss i)) {t s : Nat} (ht : t ≤ N) (hs : s < 8) (A B : Nat) (rw' : Nat → Int32) (rb : Nat → Int64) :
    zf_X9_layRows_157 mt (nI n) (nI sc) xt xs k2 k8 rw' rb (nI N) (nI t) (nI s) (nI A) (lN B) = k8 (upd rw' (8 * t + s) (nI (py_ft sc st ss t s * A))) (vp_updL rb (8 * t + s) (lN (py_ft sc st ss t s * B))) (nI N) (nI t) (nI (s + 1)) := by
  have e8 : (8 : Int32) * nI t + nI s = nI (8 * t + s) := by rw [show (8 : Int32) = nI 8 from rfl, pk_mul, nI_add]
  have hin := tn_in (a := 8 * t + s) (N := 80) (by omega) (by decide)
  have hcl := tn_cl (a := 8 * t + s) (by omega)
  have hin2 : ¬ (nI (8 * t + s) < 0 ∨ 80 ≤ 8 * t + s) := fun z => z.elim (tn_n0 (by omega)) (by omega)
  have D1 : py_ft sc st ss t s = 1 → zf_X9_layRows_170 mt (nI n) (nI sc) xt xs k2 k8 rw' rb (nI N) (nI t) (nI s) (nI A) (lN B) = k8 (upd rw' (8 * t + s) (nI (py_ft sc st ss t s * A))) (vp_updL rb (8 * t + s) (lN (py_ft sc st ss t s * B))) (nI N) (nI t) (nI (s + 1)) := by
    intro h
    unfold zf_X9_layRows_170 zf_X9_layRows_175 zf_X9_layRows_198 zf_X9_layRows_220
    rw [if_neg zone, if_neg zone, e8, if_neg hin, if_neg hin, hcl, h, Nat.one_mul, Nat.one_mul, show nI s + (1 : Int32) = nI (s + 1) from nI_1 s]
  unfold zf_X9_layRows_157
  by_cases h0 : t = 0
  · rw [if_pos (by rw [h0]; rfl)]
    exact D1 (by rw [h0]; exact py_ft_0 (fun i hi => (hst i hi).1) s)
  · rw [if_neg (show ¬ nI t = 0 from nI_ne0 (by omega) (by omega)), py_may hsc (fun i hi => (hst i hi).2) hss (by omega) (by omega) h1 h2]
    simp only [zb]
    have hle := py_ft_le sc st ss t s
    by_cases hf : py_ft sc st ss t s = 0
    · rw [if_pos (by rw [hf]; rfl)]
      unfold zf_X9_layRows_175 zf_X9_layRows_198 zf_X9_layRows_220
      rw [if_pos rfl, if_pos rfl, e8, if_neg hin, if_neg hin, hcl, hf, Nat.zero_mul, Nat.zero_mul, show nI s + (1 : Int32) = nI (s + 1) from nI_1 s]
      rfl
    · rw [if_neg (show ¬ nI (py_ft sc st ss t s) = 0 from nI_ne0 (by omega) (by omega))]
      exact D1 (by omega)
theorem py_lr43 (h8 : n ≤ 8) (hm : ∀ i j, i < 8 → j < 8 → mt (8 * i + j) = nI (T i j)) (hT : ∀ i j, T i j ≤ 10) (hN : N ≤ 9) (hsc : sc ≤ 8) (hst : ∀ i, i < sc → 1 ≤ st i ∧ st i < 100) (hss : ∀ i, i < sc → ss i < 100) (h1 : ∀ i, i < sc → xt i = nI (st i)) (h2 : ∀ i, i < sc → xs i = nI (ss i)) {d s : Nat} (hd : d + 1 ≤ N) (hs : s < n) {rw' : Nat → Int32} {rb : Nat → Int64}
    (hw : ∀ r, r < n → rw' (8 * (N - d) + r) = nI (py_ft sc st ss (N - d) r * py_V T n (py_ft sc st ss) N d r)) (hb : ∀ r, r < n → rb (8 * (N - d) + r) = lN (py_ft sc st ss (N - d) r * py_C T n (py_ft sc st ss) N d r)) :
    ∀ (e q m : Nat), q + e = n → e < m →
    zf_X9_layRows_43 mt (nI n) (nI sc) xt xs k2 k8 m rw' rb (nI N) (nI (N - (d + 1))) (nI s) (nI (fb_sm (fun r => (if T s r = 0 then 0 else 1) * (py_ft sc st ss (N - d) r * py_V T n (py_ft sc st ss) N d r)) q)) (lN (py_mx (fun r => T s r * (py_ft sc st ss (N - d) r * py_C T n (py_ft sc st ss) N d r)) q)) (nI q) = k8 (upd rw' (8 * (N - (d + 1)) + s) (nI (py_ft sc st ss (N - (d + 1)) s * py_V T n (py_ft sc st ss) N (d + 1) s))) (vp_updL rb (8 * (N - (d + 1)) + s) (lN (py_ft sc st ss (N - (d + 1)) s * py_C T n (py_ft sc st ss) N (d + 1) s))) (nI N) (nI (N - (d + 1))) (nI (s + 1)) := by
  intro e
  induction e with
  | zero =>
    intro q m e1 e2
    obtain ⟨f, rfl⟩ : ∃ f, m = f + 1 := ⟨m - 1, by omega⟩
    have : q = n := by omega
    subst this
    show zf_X9_layRows_43_b mt _ _ _ _ _ _ _ _ _ _ _ _ _ _ _ = _
    unfold zf_X9_layRows_43_b
    rw [if_pos ((tn_le (by omega) (by omega)).mpr (by omega)), py_lr157 k2 k8 hN hsc hst hss h1 h2 (t := N - (d + 1)) (s := s) (by omega) (by omega)]
    rfl
  | succ e ih =>
    intro q m e1 e2
    obtain ⟨f, rfl⟩ : ∃ f, m = f + 1 := ⟨m - 1, by omega⟩
    have := ih (q + 1) f (by omega) (by omega)
    rw [← this]
    have hTs := hT s q
    have e8 : (8 : Int32) * nI s + nI q = nI (8 * s + q) := by rw [show (8 : Int32) = nI 8 from rfl, pk_mul, nI_add]
    have e9 : (8 : Int32) * nI (N - (d + 1)) + (8 : Int32) + nI q = nI (8 * (N - d) + q) := by
      rw [show (8 : Int32) = nI 8 from rfl, pk_mul, nI_add, nI_add]
      congr 1
      omega
    have hCb : py_ft sc st ss (N - d) q * py_C T n (py_ft sc st ss) N d q ≤ 10 ^ d := by
      have := Nat.mul_le_mul (py_ft_le sc st ss (N - d) q) (py_C_le (n := n) (N := N) hT (py_ft_le sc st ss) d q)
      rw [Nat.one_mul] at this
      exact this
    have hgq : ∀ q, T s q * (py_ft sc st ss (N - d) q * py_C T n (py_ft sc st ss) N d q) ≤ 10 ^ (d + 1) := fun q => by
      have h3 : py_ft sc st ss (N - d) q * py_C T n (py_ft sc st ss) N d q ≤ 10 ^ d := by
        have := Nat.mul_le_mul (py_ft_le sc st ss (N - d) q) (py_C_le (n := n) (N := N) hT (py_ft_le sc st ss) d q)
        rw [Nat.one_mul] at this
        exact this
      have h4 := Nat.mul_le_mul (hT s q) h3
      rw [Nat.mul_comm 10, ← Nat.pow_succ] at h4
      exact h4
    have h10 := py_p10_63 (e := d + 1) (by omega)
    have hg := hgq q
    have hmx : py_mx (fun r => T s r * (py_ft sc st ss (N - d) r * py_C T n (py_ft sc st ss) N d r)) q ≤ 10 ^ (d + 1) := py_mx_le (fun k _ => hgq k)
    show zf_X9_layRows_43_b mt _ _ _ _ _ _ _ _ _ _ _ _ _ _ _ = _
    unfold zf_X9_layRows_43_b zf_X9_layRows_97 zf_X9_layRows_149
    rw [if_neg (nI_ge (a := q) (b := n) (by omega) (by omega)), if_neg (nI_ge (a := N - (d + 1)) (b := N) (by omega) (by omega)), e8, e9, if_neg (tn_in (a := 8 * s + q) (N := 64) (by omega) (by decide)), tn_cl (a := 8 * s + q) (by omega), hm s q (by omega) (by omega),
      if_neg (tn_in (a := 8 * (N - d) + q) (N := 80) (by omega) (by decide)), if_neg (tn_in (a := 8 * (N - d) + q) (N := 80) (by omega) (by decide)), if_neg (tn_in (a := 8 * (N - d) + q) (N := 80) (by omega) (by decide)), tn_cl (a := 8 * (N - d) + q) (by omega), hw q (by omega), hb q (by omega), tl_i (by omega), tl_mul, show nI q + (1 : Int32) = nI (q + 1) from nI_1 q]
    have emx : py_mx (fun r => T s r * (py_ft sc st ss (N - d) r * py_C T n (py_ft sc st ss) N d r)) (q + 1) = if py_mx (fun r => T s r * (py_ft sc st ss (N - d) r * py_C T n (py_ft sc st ss) N d r)) q < T s q * (py_ft sc st ss (N - d) q * py_C T n (py_ft sc st ss) N d q) then T s q * (py_ft sc st ss (N - d) q * py_C T n (py_ft sc st ss) N d q) else py_mx (fun r => T s r * (py_ft sc st ss (N - d) r * py_C T n (py_ft sc st ss) N d r)) q := rfl
    rw [emx, fb_sm_succ]
    have cmp : lg_cmp (lN (T s q * (py_ft sc st ss (N - d) q * py_C T n (py_ft sc st ss) N d q))) (lN (py_mx (fun r => T s r * (py_ft sc st ss (N - d) r * py_C T n (py_ft sc st ss) N d r)) q)) ≤ 0 ↔ ¬ py_mx (fun r => T s r * (py_ft sc st ss (N - d) r * py_C T n (py_ft sc st ss) N d r)) q < T s q * (py_ft sc st ss (N - d) q * py_C T n (py_ft sc st ss) N d q) := by
      rw [tl_cmp_le, pk_lLT (by omega) (by omega)]
    by_cases c1 : T s q = 0
    · rw [if_pos ((py_z0 (by omega)).mpr c1), if_pos c1, Nat.zero_mul, Nat.add_zero, Int32.add_zero]
      by_cases c2 : py_mx (fun r => T s r * (py_ft sc st ss (N - d) r * py_C T n (py_ft sc st ss) N d r)) q < T s q * (py_ft sc st ss (N - d) q * py_C T n (py_ft sc st ss) N d q)
      · rw [if_neg (fun z => cmp.mp z c2), if_pos c2]
        rfl
      · rw [if_pos (cmp.mpr c2), if_neg c2]
        rfl
    · rw [if_neg (fun z => c1 ((py_z0 (by omega)).mp z)), if_neg c1, Nat.one_mul, nI_add]
      by_cases c2 : py_mx (fun r => T s r * (py_ft sc st ss (N - d) r * py_C T n (py_ft sc st ss) N d r)) q < T s q * (py_ft sc st ss (N - d) q * py_C T n (py_ft sc st ss) N d q)
      · rw [if_neg (fun z => cmp.mp z c2), if_pos c2]
      · rw [if_pos (cmp.mpr c2), if_neg c2]
end PYLR
section PYLR2
variable {n N sc : Nat} {T : Nat → Nat → Nat} {st ss : Nat → Nat} {mt xt xs : Nat → Int32}
/-- the rows from N - d on, and in the row before it the seats below q -/
def py_RW (T : Nat → Nat → Nat) (n N sc : Nat) (st ss : Nat → Nat) (d : Nat) (rw' : Nat → Int32) (rb : Nat → Int64) : Prop :=
  ∀ e r, e < d → r < n → rw' (8 * (N - e) + r) = nI (py_ft sc st ss (N - e) r * py_V T n (py_ft sc st ss) N e r) ∧ rb (8 * (N - e) + r) = lN (py_ft sc st ss (N - e) r * py_C T n (py_ft sc st ss) N e r)
theorem py_lr8 (k2 : (Nat → Int32) → (Nat → Int64) → Int32 → Int32 → Option ((Nat → Int32) × (Nat → Int64))) (h8 : n ≤ 8) (hm : ∀ i j, i < 8 → j < 8 → mt (8 * i + j) = nI (T i j)) (hT : ∀ i j, T i j ≤ 10) (hN : N ≤ 9) (hsc : sc ≤ 8) (hst : ∀ i, i < sc → 1 ≤ st i ∧ st i < 100) (hss : ∀ i, i < sc → ss i < 100) (h1 : ∀ i, i < sc → xt i = nI (st i)) (h2 : ∀ i, i < sc → xs i = nI (ss i)) {d : Nat} (hd : d ≤ N) :
    ∀ (e q m : Nat) (rw' : Nat → Int32) (rb : Nat → Int64), q + e = n → e < m → py_RW T n N sc st ss d rw' rb → (∀ r, r < q → rw' (8 * (N - d) + r) = nI (py_ft sc st ss (N - d) r * py_V T n (py_ft sc st ss) N d r) ∧ rb (8 * (N - d) + r) = lN (py_ft sc st ss (N - d) r * py_C T n (py_ft sc st ss) N d r)) →
    ∃ rw2 rb2, zf_X9_layRows_8 mt (nI n) (nI sc) xt xs k2 m rw' rb (nI N) (nI (N - d)) (nI q) = k2 rw2 rb2 (nI N) (nI (N - d) + -1) ∧ py_RW T n N sc st ss (d + 1) rw2 rb2 := by
  intro e
  induction e with
  | zero =>
    intro q m rw' rb e1 e2 hR hq
    obtain ⟨f, rfl⟩ : ∃ f, m = f + 1 := ⟨m - 1, by omega⟩
    have : q = n := by omega
    subst this
    refine ⟨rw', rb, ?_, fun e r he hr => ?_⟩
    · show zf_X9_layRows_8_b mt _ _ _ _ _ _ _ _ _ _ _ = _
      unfold zf_X9_layRows_8_b
      rw [if_pos ((tn_le (by omega) (by omega)).mpr (by omega))]
    · by_cases e9 : e = d
      · subst e9; exact hq r hr
      · exact hR e r (by omega) hr
  | succ e ih =>
    intro q m rw' rb e1 e2 hR hq
    obtain ⟨f, rfl⟩ : ∃ f, m = f + 1 := ⟨m - 1, by omega⟩
    have step : ∀ (A B : Nat), A = py_V T n (py_ft sc st ss) N d q → B = py_C T n (py_ft sc st ss) N d q → ∃ rw2 rb2, zf_X9_layRows_8 mt (nI n) (nI sc) xt xs k2 f (upd rw' (8 * (N - d) + q) (nI (py_ft sc st ss (N - d) q * A))) (vp_updL rb (8 * (N - d) + q) (lN (py_ft sc st ss (N - d) q * B))) (nI N) (nI (N - d)) (nI (q + 1)) = k2 rw2 rb2 (nI N) (nI (N - d) + -1) ∧ py_RW T n N sc st ss (d + 1) rw2 rb2 := by
      intro A B hA hB
      subst hA hB
      refine ih (q + 1) f _ _ (by omega) (by omega) (fun e' r he hr => ?_) (fun r hr => ?_)
      · have := hR e' r he hr
        rw [pk_un (by omega), pk_uLn (by omega)]
        exact this
      · by_cases e9 : r = q
        · subst e9
          rw [pk_us, pk_uLs]
          exact ⟨rfl, rfl⟩
        · rw [pk_un (by omega), pk_uLn (by omega)]
          exact hq r (by omega)
    show ∃ rw2 rb2, zf_X9_layRows_8_b mt _ _ _ _ _ _ _ _ _ _ _ = _ ∧ _
    unfold zf_X9_layRows_8_b zf_X9_layRows_26 zf_X9_layRows_38
    rw [if_neg (nI_ge (a := q) (b := n) (by omega) (by omega))]
    by_cases hd0 : d = 0
    · subst hd0
      rw [if_pos (show nI (N - 0) = nI N from rfl), if_pos (show nI (N - 0) = nI N from rfl)]
      have s1 := step 1 1 rfl rfl
      rw [← py_lr157 k2 (zf_X9_layRows_8 mt (nI n) (nI sc) xt xs k2 f) (mt := mt) (n := n) hN hsc hst hss h1 h2 (t := N - 0) (s := q) (by omega) (by omega)] at s1
      obtain ⟨rw2, rb2, a1, a2⟩ := s1
      refine ⟨rw2, rb2, ?_, a2⟩
      rw [← a1]
      show zf_X9_layRows_43 mt (nI n) (nI sc) xt xs k2 _ (2999 + 1) rw' rb (nI N) (nI (N - 0)) (nI q) 1 1 0 = _
      show zf_X9_layRows_43_b mt (nI n) (nI sc) xt xs k2 _ _ rw' rb (nI N) (nI (N - 0)) (nI q) 1 1 0 = _
      unfold zf_X9_layRows_43_b
      rw [if_neg (show ¬ nI n ≤ (0 : Int32) from nI_ge (a := 0) (b := n) (by omega) (by omega)), if_pos ((tn_le (a := N) (b := N - 0) (by omega) (by omega)).mpr (by omega))]
      rfl
    · obtain ⟨d', rfl⟩ : ∃ d', d = d' + 1 := ⟨d - 1, by omega⟩
      rw [if_neg (show ¬ nI (N - (d' + 1)) = nI N from fun z => absurd ((tn_eq (by omega) (by omega)).mp z) (by omega)), if_neg (show ¬ nI (N - (d' + 1)) = nI N from fun z => absurd ((tn_eq (by omega) (by omega)).mp z) (by omega))]
      have a := py_lr43 k2 (zf_X9_layRows_8 mt (nI n) (nI sc) xt xs k2 f) h8 hm hT hN hsc hst hss h1 h2 (d := d') (s := q) (rw' := rw') (rb := rb) (by omega) (by omega) (fun r hr => (hR d' r (by omega) hr).1) (fun r hr => (hR d' r (by omega) hr).2) n 0 zfuel (by omega) (by unfold zfuel; omega)
      rw [show zf_X9_layRows_43 mt (nI n) (nI sc) xt xs k2 (zf_X9_layRows_8 mt (nI n) (nI sc) xt xs k2 f) zfuel rw' rb (nI N) (nI (N - (d' + 1))) (nI q) 0 0 0 = _ from a]
      exact step _ _ rfl rfl
theorem py_lr2 (h8 : n ≤ 8) (hm : ∀ i j, i < 8 → j < 8 → mt (8 * i + j) = nI (T i j)) (hT : ∀ i j, T i j ≤ 10) (hN : N ≤ 9) (hsc : sc ≤ 8) (hst : ∀ i, i < sc → 1 ≤ st i ∧ st i < 100) (hss : ∀ i, i < sc → ss i < 100) (h1 : ∀ i, i < sc → xt i = nI (st i)) (h2 : ∀ i, i < sc → xs i = nI (ss i)) :
    ∀ (t d m : Nat) (rw' : Nat → Int32) (rb : Nat → Int64), d + t = N → t + 1 < m → py_RW T n N sc st ss d rw' rb →
    ∃ rw2 rb2, zf_X9_layRows_2 mt (nI n) (nI sc) xt xs m rw' rb (nI N) (nI t) = some (rw2, rb2) ∧ py_RW T n N sc st ss (N + 1) rw2 rb2 := by
  intro t
  induction t with
  | zero =>
    intro d m rw' rb e1 e2 hR
    obtain ⟨f, rfl⟩ : ∃ f, m = f + 1 := ⟨m - 1, by omega⟩
    obtain ⟨g, rfl⟩ : ∃ g, f = g + 1 := ⟨f - 1, by omega⟩
    obtain ⟨rw2, rb2, a1, a2⟩ := py_lr8 (zf_X9_layRows_2 mt (nI n) (nI sc) xt xs (g + 1)) h8 hm hT hN hsc hst hss h1 h2 (d := d) (by omega) n 0 zfuel rw' rb (by omega) (by unfold zfuel; omega) hR (fun r hr => absurd hr (by omega))
    have : d = N := by omega
    subst this
    refine ⟨rw2, rb2, ?_, a2⟩
    show zf_X9_layRows_2_b mt _ _ _ _ _ _ _ _ _ = _
    unfold zf_X9_layRows_2_b
    rw [if_neg (by decide)]
    rw [Nat.sub_self] at a1
    rw [show zf_X9_layRows_8 mt (nI n) (nI sc) xt xs (zf_X9_layRows_2 mt (nI n) (nI sc) xt xs (g + 1)) zfuel rw' rb (nI d) (nI 0) 0 = _ from a1]
    show zf_X9_layRows_2_b mt _ _ _ _ _ _ _ _ _ = _
    unfold zf_X9_layRows_2_b
    rw [if_pos (by decide)]
  | succ t ih =>
    intro d m rw' rb e1 e2 hR
    obtain ⟨f, rfl⟩ : ∃ f, m = f + 1 := ⟨m - 1, by omega⟩
    obtain ⟨rw1, rb1, a1, a2⟩ := py_lr8 (zf_X9_layRows_2 mt (nI n) (nI sc) xt xs f) h8 hm hT hN hsc hst hss h1 h2 (d := d) (by omega) n 0 zfuel rw' rb (by omega) (by unfold zfuel; omega) hR (fun r hr => absurd hr (by omega))
    obtain ⟨rw2, rb2, b1, b2⟩ := ih (d + 1) f rw1 rb1 (by omega) (by omega) a2
    refine ⟨rw2, rb2, ?_, b2⟩
    rw [← b1]
    show zf_X9_layRows_2_b mt _ _ _ _ _ _ _ _ _ = _
    unfold zf_X9_layRows_2_b
    rw [show N - d = t + 1 by omega, py_m1] at a1
    rw [if_neg (tn_n0 (by omega)), show zf_X9_layRows_8 mt (nI n) (nI sc) xt xs (zf_X9_layRows_2 mt (nI n) (nI sc) xt xs f) zfuel rw' rb (nI N) (nI (t + 1)) 0 = _ from a1]
end PYLR2
