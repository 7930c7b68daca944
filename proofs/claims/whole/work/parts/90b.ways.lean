/-! ===== ways ===== -/
def py_PW (T : Nat → Nat → Nat) (n : Nat) (f φ : Nat → Nat) (s : Nat) : Nat := fb_sm (fun r => (if T s r = 0 then 0 else 1) * (f r * φ r)) n
theorem py_PW_le {T : Nat → Nat → Nat} {n : Nat} {f : Nat → Nat} (h8 : n ≤ 8) (hf : ∀ r, f r ≤ 1) (s : Nat) : py_PW T n f (fun _ => 1) s ≤ 10 := by
  have := fb_sm_bound (f := fun r => (if T s r = 0 then 0 else 1) * (f r * 1)) (c := 1) (n := n) (fun r _ => by
    show (if T s r = 0 then 0 else 1) * (f r * 1) ≤ 1
    have := hf r
    by_cases e : T s r = 0
    · rw [if_pos e, Nat.zero_mul]; omega
    · rw [if_neg e, Nat.one_mul, Nat.mul_one]; exact this)
  have h2 : py_PW T n f (fun _ => 1) s ≤ n * 1 := this
  omega
section PYWY
variable {n sc : Nat} {T : Nat → Nat → Nat} {st ss : Nat → Nat} {ct xt xs : Nat → Int32} {fr : Int32}
theorem py_w57 (h8 : n ≤ 8) (hc : ∀ i j, i < 8 → j < 8 → ct (8 * i + j) = nI (T i j)) (hT : ∀ i j, T i j ≤ 10) (hsc : sc ≤ 8) (hst : ∀ i, i < sc → 1 ≤ st i ∧ st i < 100) (hss : ∀ i, i < sc → ss i < 100) (h1 : ∀ i, i < sc → xt i = nI (st i)) (h2 : ∀ i, i < sc → xs i = nI (ss i)) {Mx : Nat} (hMx : Mx < 2 ^ 63) (ow : Nat → Int64) (ol : Nat → Int32) (os : Int32) {s W τ : Nat} (hs : s < n) (hτ : τ < 100) (v3 vb v5 : Int32)
    (k11 : (Nat → Int64) → (Nat → Int32) → Int32 → (Nat → Int64) → (Nat → Int32) → Int32 → Int32 → Int32 → Option (Int32 × (Nat → Int64) × (Nat → Int32) × Int32 × (Nat → Int64) × (Nat → Int32) × Int32))
    (k20 : (Nat → Int64) → (Nat → Int32) → Int32 → (Nat → Int64) → (Nat → Int32) → Int32 → Int32 → Int32 → Int32 → Int32 → Option (Int32 × (Nat → Int64) × (Nat → Int32) × Int32 × (Nat → Int64) × (Nat → Int32) × Int32)) :
    ∀ (d r m : Nat) (nw : Nat → Int64) (nl : Nat → Int32) (ns : Int32) (kk : Nat) (L g : Nat → Nat), r + d = n → d < m → py_SP nw nl ns kk L g → (∀ j, j < kk → L j < n) → py_E kk L g (fun _ => 1) + W * py_PW T n (py_ft sc st ss τ) (fun _ => 1) s ≤ Mx + W * py_PW T r (py_ft sc st ss τ) (fun _ => 1) s →
    ∃ (nw' : Nat → Int64) (nl' : Nat → Int32) (ns' : Int32) (kk' : Nat) (L' g' : Nat → Nat), zf_X0_waysOf_61 ct (nI n) xt xs fr (nI sc) k11 k20 m ow ol os nw nl ns v3 (nI τ) vb v5 (nI s) (lN W) (nI r) = k20 ow ol os nw' nl' ns' v3 (nI τ) vb (v5 + 1) ∧ py_SP nw' nl' ns' kk' L' g' ∧ (∀ j, j < kk' → L' j < n) ∧
      (∀ φ, py_E kk' L' g' φ + W * py_PW T r (py_ft sc st ss τ) φ s = py_E kk L g φ + W * py_PW T n (py_ft sc st ss τ) φ s) := by
  intro d
  induction d with
  | zero =>
    intro r m nw nl ns kk L g e1 e2 hS hL hE
    obtain ⟨q, rfl⟩ : ∃ q, m = q + 1 := ⟨m - 1, by omega⟩
    have : r = n := by omega
    subst this
    refine ⟨nw, nl, ns, kk, L, g, ?_, hS, hL, fun φ => rfl⟩
    show zf_X0_waysOf_61_b ct _ _ _ fr _ _ _ _ _ _ _ _ _ _ _ _ _ _ _ _ _ = _
    unfold zf_X0_waysOf_61_b
    rw [if_pos ((tn_le (by omega) (by omega)).mpr (by omega))]
  | succ d ih =>
    intro r m nw nl ns kk L g e1 e2 hS hL hE
    obtain ⟨q, rfl⟩ : ∃ q, m = q + 1 := ⟨m - 1, by omega⟩
    have hTs := hT s r
    have hle := py_ft_le sc st ss τ r
    have hp := fb_sm_part (fun r => (if T s r = 0 then 0 else 1) * (py_ft sc st ss τ r * 1)) (show r < n by omega)
    have hpW : W * py_PW T r (py_ft sc st ss τ) (fun _ => 1) s + W * ((if T s r = 0 then 0 else 1) * (py_ft sc st ss τ r * 1)) ≤ W * py_PW T n (py_ft sc st ss τ) (fun _ => 1) s := by rw [← Nat.mul_add]; exact Nat.mul_le_mul_left _ hp
    have hsucc : ∀ φ, py_PW T (r + 1) (py_ft sc st ss τ) φ s = py_PW T r (py_ft sc st ss τ) φ s + (if T s r = 0 then 0 else 1) * (py_ft sc st ss τ r * φ r) := fun φ => rfl
    have skip : (∀ φ : Nat → Nat, (if T s r = 0 then 0 else 1) * (py_ft sc st ss τ r * φ r) = 0) → ∃ (nw' : Nat → Int64) (nl' : Nat → Int32) (ns' : Int32) (kk' : Nat) (L' g' : Nat → Nat), zf_X0_waysOf_61 ct (nI n) xt xs fr (nI sc) k11 k20 q ow ol os nw nl ns v3 (nI τ) vb v5 (nI s) (lN W) (nI (r + 1)) = k20 ow ol os nw' nl' ns' v3 (nI τ) vb (v5 + 1) ∧ py_SP nw' nl' ns' kk' L' g' ∧ (∀ j, j < kk' → L' j < n) ∧
      (∀ φ, py_E kk' L' g' φ + W * py_PW T r (py_ft sc st ss τ) φ s = py_E kk L g φ + W * py_PW T n (py_ft sc st ss τ) φ s) := by
      intro h0
      obtain ⟨w2, l2, s2, k2, L2, g2, b1, b2, b3, b4⟩ := ih (r + 1) q nw nl ns kk L g (by omega) (by omega) hS hL (by rw [hsucc, h0 (fun _ => 1), Nat.add_zero]; exact hE)
      refine ⟨w2, l2, s2, k2, L2, g2, b1, b2, b3, fun φ => ?_⟩
      have := b4 φ
      rw [hsucc, h0 φ, Nat.add_zero] at this
      exact this
    show ∃ (nw' : Nat → Int64) (nl' : Nat → Int32) (ns' : Int32) (kk' : Nat) (L' g' : Nat → Nat), zf_X0_waysOf_61_b ct _ _ _ fr _ _ _ _ _ _ _ _ _ _ _ _ _ _ _ _ _ = _ ∧ _
    unfold zf_X0_waysOf_61_b zf_X0_waysOf_103
    rw [if_neg (nI_ge (a := r) (b := n) (by omega) (by omega)), py_ten h8 hc hs (by omega)]
    simp only [zb]
    rw [py_fits hsc (fun i hi => (hst i hi).2) hss (t := τ) (s := r) (by omega) (by omega) h1 h2]
    simp only [zb]
    rw [show nI r + (1 : Int32) = nI (r + 1) from nI_1 r]
    by_cases c1 : T s r = 0
    · rw [if_pos ((py_z0 (by omega)).mpr c1)]
      exact skip (fun φ => by rw [if_pos c1, Nat.zero_mul])
    · rw [if_neg (fun z => c1 ((py_z0 (by omega)).mp z))]
      by_cases c2 : py_ft sc st ss τ r = 0
      · rw [if_pos (by rw [c2]; rfl)]
        exact skip (fun φ => by rw [c2, Nat.zero_mul, Nat.mul_zero])
      · have c3 : py_ft sc st ss τ r = 1 := by omega
        rw [if_neg (show ¬ nI (py_ft sc st ss τ r) = 0 from nI_ne0 (by omega) (by omega))]
        rw [if_neg c1, c3] at hpW
        obtain ⟨w1, l1, s1, k1, L1, g1, a1, a2, a3, a4⟩ := py_SP_add hS (x := r) (X := W) (by omega) (by omega)
        have hE1 := a3 (fun _ => 1)
        rw [a1]
        simp only [zb]
        obtain ⟨w2, l2, s2, k2, L2, g2, b1, b2, b3, b4⟩ := ih (r + 1) q w1 l1 s1 k1 L1 g1 (by omega) (by omega) a2 (a4 (fun y => y < n) hL (fun _ => by omega)) (by rw [hsucc, if_neg c1, c3, Nat.mul_add]; omega)
        refine ⟨w2, l2, s2, k2, L2, g2, b1, b2, b3, fun φ => ?_⟩
        have h9 := b4 φ
        have h10 := a3 φ
        rw [hsucc, if_neg c1, c3, Nat.one_mul, Nat.one_mul, Nat.mul_add] at h9
        omega
theorem py_w20 (h8 : n ≤ 8) (hc : ∀ i j, i < 8 → j < 8 → ct (8 * i + j) = nI (T i j)) (hT : ∀ i j, T i j ≤ 10) (hsc : sc ≤ 8) (hst : ∀ i, i < sc → 1 ≤ st i ∧ st i < 100) (hss : ∀ i, i < sc → ss i < 100) (h1 : ∀ i, i < sc → xt i = nI (st i)) (h2 : ∀ i, i < sc → xs i = nI (ss i)) {Mx : Nat} (hMx : Mx < 2 ^ 63) {ow : Nat → Int64} {ol : Nat → Int32} {os : Int32} {K : Nat} {Lo go : Nat → Nat} (hO : py_SP ow ol os K Lo go) (hLo : ∀ j, j < K → Lo j < n) {τ : Nat} (hτ : τ < 100) (v3 : Int32)
    (k11 : (Nat → Int64) → (Nat → Int32) → Int32 → (Nat → Int64) → (Nat → Int32) → Int32 → Int32 → Int32 → Option (Int32 × (Nat → Int64) × (Nat → Int32) × Int32 × (Nat → Int64) × (Nat → Int32) × Int32)) (hM2 : py_E K Lo go (py_PW T n (py_ft sc st ss τ) (fun _ => 1)) ≤ Mx) :
    ∀ (d y m : Nat) (nw : Nat → Int64) (nl : Nat → Int32) (ns : Int32) (k : Nat) (L g : Nat → Nat), y + d = K → d < m → py_SP nw nl ns k L g → (∀ j, j < k → L j < n) → py_E k L g (fun _ => 1) = fb_sm (fun i => go (Lo i) * py_PW T n (py_ft sc st ss τ) (fun _ => 1) (Lo i)) y →
    ∃ (nw' : Nat → Int64) (nl' : Nat → Int32) (ns' : Int32) (k' : Nat) (L' g' : Nat → Nat) (cw : Nat → Int64), zf_X0_waysOf_29 ct (nI n) xt xs fr (nI sc) k11 m ow ol os nw nl ns v3 (nI τ) os (nI y) = k11 nw' nl' ns' cw ol (nI 0) v3 (nI (τ + 1)) ∧ py_SP nw' nl' ns' k' L' g' ∧ (∀ j, j < k' → L' j < n) ∧ py_NO cw (nI 0) ∧
      (∀ φ, py_E k' L' g' φ + fb_sm (fun i => go (Lo i) * py_PW T n (py_ft sc st ss τ) φ (Lo i)) y = py_E k L g φ + py_E K Lo go (py_PW T n (py_ft sc st ss τ) φ)) := by
  intro d
  induction d with
  | zero =>
    intro y m nw nl ns k L g e1 e2 hS hL hE
    obtain ⟨q, rfl⟩ : ∃ q, m = q + 1 := ⟨m - 1, by omega⟩
    have : y = K := by omega
    subst this
    obtain ⟨cw, c1, c2⟩ := py_stepOn (w2 := nw) (lv2 := nl) (s2 := ns) (py_SP_CL hO)
    refine ⟨nw, nl, ns, k, L, g, cw, ?_, hS, hL, c2, fun φ => rfl⟩
    have hK := hO.2.1
    have eK := hO.1
    subst eK
    show zf_X0_waysOf_29_b ct _ _ _ fr _ _ _ _ _ _ _ _ _ _ _ _ _ = _
    unfold zf_X0_waysOf_29_b
    rw [if_pos ((tn_le (by omega) (by omega)).mpr (by omega)), c1, show nI τ + (1 : Int32) = nI (τ + 1) from nI_1 τ]
    rfl
  | succ d ih =>
    intro y m nw nl ns k L g e1 e2 hS hL hE
    obtain ⟨q, rfl⟩ : ∃ q, m = q + 1 := ⟨m - 1, by omega⟩
    have hK := hO.2.1
    have hp' := fb_sm_part (fun i => go (Lo i) * py_PW T n (py_ft sc st ss τ) (fun _ => 1) (Lo i)) (show y < K by omega)
    have hp2 : fb_sm (fun i => go (Lo i) * py_PW T n (py_ft sc st ss τ) (fun _ => 1) (Lo i)) y + go (Lo y) * py_PW T n (py_ft sc st ss τ) (fun _ => 1) (Lo y) ≤ py_E K Lo go (py_PW T n (py_ft sc st ss τ) (fun _ => 1)) := hp'
    have hl := hLo y (by omega)
    have z1 : ∀ φ, go (Lo y) * py_PW T 0 (py_ft sc st ss τ) φ (Lo y) = 0 := fun φ => Nat.mul_zero _
    obtain ⟨w1, l1, s1, k1, L1, g1, a1, a2, a3, a4⟩ := py_w57 (fr := fr) h8 hc hT hsc hst hss h1 h2 hMx ow ol os (s := Lo y) (W := go (Lo y)) (τ := τ) hl hτ v3 os (nI y) k11 (zf_X0_waysOf_29 ct (nI n) xt xs fr (nI sc) k11 q) n 0 zfuel nw nl ns k L g (by omega) (by unfold zfuel; omega) hS hL (by
      have := z1 (fun _ => 1)
      omega)
    have hE1 := a4 (fun _ => 1)
    rw [z1] at hE1
    obtain ⟨w2, l2, s2, k2, L2, g2, cw, b1, b2, b3, b4, b5⟩ := ih (y + 1) q w1 l1 s1 k1 L1 g1 (by omega) (by omega) a2 a3 (by rw [fb_sm_succ]; omega)
    refine ⟨w2, l2, s2, k2, L2, g2, cw, ?_, b2, b3, b4, fun φ => ?_⟩
    · have eK := hO.1
      rw [← b1, show nI (y + 1) = nI y + 1 from (nI_1 y).symm, ← a1]
      show zf_X0_waysOf_29_b ct _ _ _ fr _ _ _ _ _ _ _ _ _ _ _ _ _ = _
      unfold zf_X0_waysOf_29_b
      rw [py_stateAt hO (show y < K by omega), eK, if_neg (nI_ge (a := y) (b := K) (by omega) (by omega))]
      simp only [zb]
      rw [py_weightOf hO (by omega)]
      rfl
    · have h9 := b5 φ
      have h10 := a4 φ
      rw [z1] at h10
      rw [fb_sm_succ] at h9
      omega
theorem py_w127 (h8 : n ≤ 8) {ow nw : Nat → Int64} {ol nl : Nat → Int32} {os ns : Int32} {K : Nat} {Lo go : Nat → Nat} (hO : py_SP ow ol os K Lo go) : ∀ (d s m : Nat), s + d = n → d < m →
    zf_X0_waysOf_131 ct (nI n) xt xs fr (nI sc) m ow ol os nw nl ns (lN (fb_sm go s)) (nI s) = some (nI (fb_sm go n), ow, ol, os, nw, nl, ns) := by
  intro d
  induction d with
  | zero =>
    intro s m e1 e2
    obtain ⟨q, rfl⟩ : ∃ q, m = q + 1 := ⟨m - 1, by omega⟩
    have : s = n := by omega
    subst this
    show zf_X0_waysOf_131_b ct _ xt xs fr (nI sc) _ _ _ _ _ _ _ _ _ = _
    unfold zf_X0_waysOf_131_b
    rw [if_pos ((tn_le (by omega) (by omega)).mpr (by omega)), lN_i]
  | succ d ih =>
    intro s m e1 e2
    obtain ⟨q, rfl⟩ : ∃ q, m = q + 1 := ⟨m - 1, by omega⟩
    rw [← ih (s + 1) q (by omega) (by omega)]
    show zf_X0_waysOf_131_b ct _ xt xs fr (nI sc) _ _ _ _ _ _ _ _ _ = _
    unfold zf_X0_waysOf_131_b
    rw [if_neg (nI_ge (a := s) (b := n) (by omega) (by omega)), py_weightOf hO (by omega), show nI s + (1 : Int32) = nI (s + 1) from nI_1 s]
    simp only [zb]
    rw [tl_add]
    rfl
theorem py_w_sum {ow : Nat → Int64} {ol : Nat → Int32} {os : Int32} {K : Nat} {Lo go : Nat → Nat} (h8 : n ≤ 8) (hO : py_SP ow ol os K Lo go) (hLo : ∀ j, j < K → Lo j < n) : fb_sm go n = py_E K Lo go (fun _ => 1) := by
  have e1 : fb_sm go n = fb_sm (fun s => fb_sm (fun i => go (Lo i) * (if Lo i = s then 1 else 0)) K) n := fb_sm_cong (fun s hs => (py_E_delta hO (x := s) (by omega)).symm)
  rw [e1, py_sm_swap (fun s i => go (Lo i) * (if Lo i = s then 1 else 0))]
  refine fb_sm_cong (fun i hi => ?_)
  rw [py_sm_mull (fun s => if Lo i = s then 1 else 0)]
  have e2 : fb_sm (fun s => if Lo i = s then 1 else 0) n = fb_sm (fun s => if s = Lo i then 1 else 0) n := fb_sm_cong (fun s _ => by
    by_cases e : Lo i = s
    · rw [if_pos e, if_pos e.symm]
    · rw [if_neg e, if_neg (fun z => e z.symm)])
  rw [e2, py_sm_one (hLo i hi)]
theorem py_w11 (h8 : n ≤ 8) (hc : ∀ i j, i < 8 → j < 8 → ct (8 * i + j) = nI (T i j)) (hT : ∀ i j, T i j ≤ 10) (hsc : sc ≤ 8) (hst : ∀ i, i < sc → 1 ≤ st i ∧ st i < 100) (hss : ∀ i, i < sc → ss i < 100) (h1 : ∀ i, i < sc → xt i = nI (st i)) (h2 : ∀ i, i < sc → xs i = nI (ss i)) {N R : Nat} (hN : N ≤ 9) :
    ∀ (d τ m : Nat) (ow nw : Nat → Int64) (ol nl : Nat → Int32) (os ns : Int32) (K : Nat) (Lo go : Nat → Nat), τ + d = N → d < m → py_SP ow ol os K Lo go → (∀ j, j < K → Lo j < n) → py_NO nw ns → py_E K Lo go (fun _ => 1) ≤ 10 ^ τ → py_E K Lo go (py_V T n (py_ft sc st ss) N d) = R →
    ∃ (ow' nw' : Nat → Int64) (ol' nl' : Nat → Int32) (os' ns' : Int32), zf_X0_waysOf_11 ct (nI n) xt xs fr (nI sc) m ow ol os nw nl ns (nI N) (nI (τ + 1)) = some (nI R, ow', ol', os', nw', nl', ns') ∧ py_RS ow' ol' os' nw' ns' := by
  intro d
  induction d with
  | zero =>
    intro τ m ow nw ol nl os ns K Lo go e1 e2 hO hL hN' hm hE
    obtain ⟨q, rfl⟩ : ∃ q, m = q + 1 := ⟨m - 1, by omega⟩
    have : τ = N := by omega
    subst this
    refine ⟨ow, nw, ol, nl, os, ns, ?_, ⟨py_SP_CL hO, hN'⟩⟩
    show zf_X0_waysOf_11_b ct _ _ _ fr _ _ _ _ _ _ _ _ _ _ = _
    unfold zf_X0_waysOf_11_b
    have a := py_w127 (ct := ct) (xt := xt) (xs := xs) (fr := fr) (sc := sc) (nw := nw) (nl := nl) (ns := ns) h8 hO n 0 zfuel (by omega) (by unfold zfuel; omega)
    rw [if_pos (nI_lt (by omega) (by omega)), show zf_X0_waysOf_131 ct (nI n) xt xs fr (nI sc) zfuel ow ol os nw nl ns 0 0 = _ from a, py_w_sum h8 hO hL, ← hE]
    rfl
  | succ d ih =>
    intro τ m ow nw ol nl os ns K Lo go e1 e2 hO hL hN' hm hE
    obtain ⟨q, rfl⟩ : ∃ q, m = q + 1 := ⟨m - 1, by omega⟩
    have hb : py_E K Lo go (py_PW T n (py_ft sc st ss (τ + 1)) (fun _ => 1)) ≤ 10 ^ (τ + 1) := by
      have h3 : py_E K Lo go (py_PW T n (py_ft sc st ss (τ + 1)) (fun _ => 1)) ≤ fb_sm (fun i => go (Lo i) * 1 * 10) K := fb_sm_le (fun i _ => by
        show go (Lo i) * _ ≤ go (Lo i) * 1 * 10
        rw [Nat.mul_one]
        exact Nat.mul_le_mul_left _ (py_PW_le h8 (py_ft_le sc st ss (τ + 1)) _))
      rw [py_sm_mulr (fun i => go (Lo i) * 1) 10] at h3
      have h4 : fb_sm (fun i => go (Lo i) * 1) K = py_E K Lo go (fun _ => 1) := rfl
      rw [Nat.pow_succ]
      omega
    have h10 := py_p10_63 (e := τ + 1) (by omega)
    obtain ⟨w1, l1, s1, k1, L1, g1, cw, a1, a2, a3, a4, a5⟩ := py_w20 (fr := fr) h8 hc hT hsc hst hss h1 h2 h10 hO hL (τ := τ + 1) (by omega) (nI N) (zf_X0_waysOf_11 ct (nI n) xt xs fr (nI sc) q) hb K 0 zfuel nw nl ns 0 (fun _ => 0) (fun _ => 0) (by omega) (by have := hO.2.1; unfold zfuel; omega) (py_NO_SP hN' _) (fun j hj => absurd hj (by omega)) rfl
    have hE' : ∀ φ, py_E k1 L1 g1 φ = py_E K Lo go (py_PW T n (py_ft sc st ss (τ + 1)) φ) := by
      intro φ
      have h9 := a5 φ
      have e1 : py_E 0 (fun _ => 0) (fun _ => 0) φ = 0 := rfl
      have e2 : fb_sm (fun i => go (Lo i) * py_PW T n (py_ft sc st ss (τ + 1)) φ (Lo i)) 0 = 0 := rfl
      omega
    obtain ⟨ow', nw', ol', nl', os', ns', b1, b2⟩ := ih (τ + 1) q w1 cw l1 ol s1 (nI 0) k1 L1 g1 (by omega) (by omega) a2 a3 a4 (by rw [hE']; exact hb) (by
      rw [hE', ← hE, show τ + 1 = N - d by omega]
      rfl)
    refine ⟨ow', nw', ol', nl', os', ns', ?_, b2⟩
    rw [← b1, ← a1]
    show zf_X0_waysOf_11_b ct _ _ _ fr _ _ _ _ _ _ _ _ _ _ = _
    unfold zf_X0_waysOf_11_b
    rw [if_neg (nI_nlt (a := N) (b := τ + 1) (by omega) (by omega))]
    rfl
end PYWY
section PYWY3
variable {n kd pn b h sc : Nat} {T : Nat → Nat → Nat} {hs st ss : Nat → Nat} {sd : Int64}
variable {ct mt xh xt xs ma mw mt' ms' : Nat → Int32} {cs ck cp ms mk mr x0 x1 x2 x3 x4 mp mf mh mn mc : Int32} {x5 md : Int64}
theorem po_ways (hN : py_RN n T kd pn ct cs ck cp mt ms mk mr) (hG : py_RG n b h hs sc st ss sd xh xt xs x0 x1 x2 x3 x4 x5 mp mf mh mn ma mw mc mt' ms' md) {ow nw : Nat → Int64} {ol : Nat → Int32} (nl : Nat → Int32) {os ns : Int32} (hS : py_RS ow ol os nw ns) (rw' : Nat → Int32) (rb : Nat → Int64) (p0 : Int32) :
    ∃ r ow' ol' os' nw' nl' ns' rw2 rb2, zf_X8_ways p0 ct cs xt xs x0 x4 ow ol os nw nl ns = some (r, ow', ol', os', nw', nl', ns') ∧ zf_X9_ways p0 mt ms mf mc mt' ms' rw' rb = some (r, rw2, rb2) ∧ py_RS ow' ol' os' nw' ns' := by
  obtain ⟨h2, h8, -, -, rfl, rfl, -, -, -, -, hc, hm, hz, hr, -⟩ := hN
  obtain ⟨hb, hh, hsc, hhs, hss, -, -, -, g1, g2, g3, g4, rfl, -, -, -, rfl, -, -, rfl, -, -, rfl, -⟩ := hG
  have hT := py_RN_le hz hr
  have hst1 : ∀ i, i < sc → 1 ≤ st i ∧ st i < 100 := fun i hi => ⟨(hss i hi).1, by have := (hss i hi).2.1; omega⟩
  have hss1 : ∀ i, i < sc → ss i < 100 := fun i hi => by have := (hss i hi).2.2; omega
  unfold zf_X8_ways zf_X9_ways
  rw [py_rng (lo := 1) (hi := 9) (lo' := 1) (hi' := 9) (by decide) (by decide)]
  simp only [zb]
  by_cases hq : p0 < 1
  · rw [if_pos hq, if_pos (Or.inl hq), if_pos rfl]
    exact ⟨_, _, _, _, _, _, _, _, _, rfl, rfl, hS⟩
  · rw [if_neg hq]
    by_cases hq2 : p0 ≤ 9
    · rw [if_pos hq2, if_neg (show ¬ (p0 < 1 ∨ 9 < p0) from fun q => q.elim hq (fun q => absurd hq2 (Int32.not_le.mpr q))), if_neg zone]
      obtain ⟨N, hN9, rfl⟩ := nI_of2 (x := p0) (M := 9) (n := 9) (by decide) (fun z => hq (Int32.lt_trans z (by decide))) hq2
      obtain ⟨w1, l1, s1, k, L, g, a1, a2, a3, a4⟩ := py_startWith hS.1 (x := b) (by omega)
      obtain ⟨ow', nw', ol', nl', os', ns', b1, b2⟩ := py_w11 (fr := nI b) h8 hc hT hsc hst1 hss1 g1 g2 (N := N) (R := py_V T n (py_ft sc st ss) N N b) hN9 N 0 zfuel w1 nw l1 nl s1 ns k L g (by omega) (by unfold zfuel; omega) a2 (fun j hj => by rw [a4 j hj]; exact hb) hS.2 (by rw [a3]; exact Nat.le_refl 1) (a3 _)
      obtain ⟨rw2, rb2, c1, c2⟩ := py_lr2 h8 hm hT hN9 hsc hst1 hss1 g3 g4 N 0 zfuel rw' rb (by omega) (by unfold zfuel; omega) (fun e r he => absurd he (by omega))
      have e1 : zf_X0_waysOf (nI N) ct (nI n) xt xs (nI b) (nI sc) ow ol os nw nl ns = some (nI (py_V T n (py_ft sc st ss) N N b), ow', ol', os', nw', nl', ns') := by
        unfold zf_X0_waysOf
        rw [a1]
        exact b1
      have e2 : zf_X9_layRows (nI N) mt (nI n) (nI sc) mt' ms' rw' rb = some (rw2, rb2) := c1
      have e3 := (c2 N b (by omega) hb).1
      rw [Nat.sub_self, py_ft_0 (fun i hi => (hst1 i hi).1), Nat.one_mul, Nat.mul_zero, Nat.zero_add] at e3
      rw [e1, e2]
      simp only [zb]
      rw [if_neg (tn_in (a := b) (N := 80) (by omega) (by decide)), tn_cl (a := b) (by omega), e3]
      exact ⟨_, _, _, _, _, _, _, _, _, rfl, rfl, b2⟩
    · rw [if_neg hq2, if_pos (Or.inr (py_nle hq2)), if_pos rfl]
      exact ⟨_, _, _, _, _, _, _, _, _, rfl, rfl, hS⟩
end PYWY3
