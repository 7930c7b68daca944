section PYHB
variable {n : Nat} {T : Nat → Nat → Nat} {ct : Nat → Int32}
theorem py_hb52 (h8 : n ≤ 8) (hc : ∀ i j, i < 8 → j < 8 → ct (8 * i + j) = nI (T i j)) (hT : ∀ i j, T i j ≤ 10) {Mx : Nat} (hMx : Mx < 2 ^ 63) (ow : Nat → Int64) {k s X : Nat} (hkn : k % 8 < n) (hs : s < n) (hX : X < 2 ^ 63) (v3 : Int32) (v5 : Int64)
    (k27 : (Nat → Int64) → (Nat → Int32) → Int32 → Int32 → Int32 → Int64 → Int64 → Int32 → Option (Int64 × (Nat → Int64) × (Nat → Int32) × Int32)) :
    ∀ (d r m : Nat) (nw : Nat → Int64) (nl : Nat → Int32) (ns : Int32) (M kk : Nat) (L g : Nat → Nat), r + d = n → d < m → py_SP nw nl ns kk L g → (∀ j, j < kk → L j < 64 ∧ L j / 8 < n ∧ L j % 8 < n ∧ ¬ L j / 8 = L j % 8) → py_E kk L g (fun _ => 1) + X * fb_sm (py_g1 T (fun _ => 1) k s) n ≤ Mx + X * fb_sm (py_g1 T (fun _ => 1) k s) r →
    ∃ (nw' : Nat → Int64) (nl' : Nat → Int32) (ns' : Int32) (M' kk' : Nat) (L' g' : Nat → Nat), zf_X0_handBoth_52 ow ct (nI n) k27 m nw nl ns v3 (nI (k % 8)) v5 (lN M) (nI s) (lN X) (nI r) = k27 nw' nl' ns' v3 (nI (k % 8)) v5 (lN M') (nI (s + 1)) ∧ py_SP nw' nl' ns' kk' L' g' ∧ (∀ j, j < kk' → L' j < 64 ∧ L' j / 8 < n ∧ L' j % 8 < n ∧ ¬ L' j / 8 = L' j % 8) ∧
      (∀ φ, py_E kk' L' g' φ + X * fb_sm (py_g1 T φ k s) r = py_E kk L g φ + X * fb_sm (py_g1 T φ k s) n) ∧ M' + X * fb_sm (py_h1 T k s) r = M + X * fb_sm (py_h1 T k s) n := by
  intro d
  induction d with
  | zero =>
    intro r m nw nl ns M kk L g h1 h2 hS hL hE
    obtain ⟨q, rfl⟩ : ∃ q, m = q + 1 := ⟨m - 1, by omega⟩
    have : r = n := by omega
    subst this
    refine ⟨nw, nl, ns, M, kk, L, g, ?_, hS, hL, fun φ => rfl, rfl⟩
    show zf_X0_handBoth_52_b ow ct _ _ _ _ _ _ _ _ _ _ _ _ _ = _
    unfold zf_X0_handBoth_52_b zf_X0_handBoth_122
    rw [if_pos ((tn_le (by omega) (by omega)).mpr (by omega)), show nI s + (1 : Int32) = nI (s + 1) from nI_1 s]
  | succ d ih =>
    intro r m nw nl ns M kk L g h1 h2 hS hL hE
    obtain ⟨q, rfl⟩ : ∃ q, m = q + 1 := ⟨m - 1, by omega⟩
    have hTs := hT (k % 8) r
    have hp := fb_sm_part (py_g1 T (fun _ => 1) k s) (show r < n by omega)
    have hpX : X * fb_sm (py_g1 T (fun _ => 1) k s) r + X * py_g1 T (fun _ => 1) k s r ≤ X * fb_sm (py_g1 T (fun _ => 1) k s) n := by rw [← Nat.mul_add]; exact Nat.mul_le_mul_left _ hp
    show ∃ (nw' : Nat → Int64) (nl' : Nat → Int32) (ns' : Int32) (M' kk' : Nat) (L' g' : Nat → Nat), zf_X0_handBoth_52_b ow ct _ _ _ _ _ _ _ _ _ _ _ _ _ = _ ∧ _
    unfold zf_X0_handBoth_52_b zf_X0_handBoth_122 zf_X0_handBoth_116
    rw [if_neg (nI_ge (a := r) (b := n) (by omega) (by omega)), py_ten h8 hc hkn (by omega)]
    by_cases hX0 : X = 0
    · subst hX0
      rw [if_pos (by rw [tl_cmp_eq]; rfl), show nI s + (1 : Int32) = nI (s + 1) from nI_1 s]
      exact ⟨nw, nl, ns, M, kk, L, g, rfl, hS, hL, fun φ => by rw [Nat.zero_mul, Nat.zero_mul], by rw [Nat.zero_mul, Nat.zero_mul]⟩
    · rw [if_neg (show ¬ lg_cmp (lN X) 0 = 0 from fun z => hX0 ((tl_zero hX).mp ((tl_cmp_eq _ _).mp z)))]
      simp only [zb]
      rw [tl_i (by omega), tl_mul, show nI s * (8 : Int32) + nI r = nI (8 * s + r) from by rw [show (8 : Int32) = nI 8 from rfl, pk_mul, nI_add, Nat.mul_comm], show nI r + (1 : Int32) = nI (r + 1) from nI_1 r]
      by_cases e : s = r
      · rw [if_pos (by rw [e]), tl_add]
        have g0 : ∀ φ, py_g1 T φ k s r = 0 := fun φ => by unfold py_g1; rw [if_pos e, Nat.mul_zero]
        have h0 : py_h1 T k s r = T (k % 8) r := by unfold py_h1; rw [if_pos e, Nat.mul_one]
        have hg := g0 (fun _ => 1)
        obtain ⟨w2, l2, s2, M2, k2, L2, g2, b1, b2, b3, b4, b5⟩ := ih (r + 1) q nw nl ns (M + X * T (k % 8) r) kk L g (by omega) (by omega) hS hL (by rw [fb_sm_succ, hg]; exact hE)
        refine ⟨w2, l2, s2, M2, k2, L2, g2, b1, b2, b3, fun φ => ?_, ?_⟩
        · have := b4 φ
          rw [fb_sm_succ, g0 φ] at this
          exact this
        · rw [fb_sm_succ, h0, Nat.mul_add] at b5
          omega
      · rw [if_neg (fun z => e ((tn_eq (by omega) (by omega)).mp z))]
        have g0 : ∀ φ, py_g1 T φ k s r = T (k % 8) r * φ (8 * s + r) := fun φ => by unfold py_g1; rw [if_neg e]
        have h0 : py_h1 T k s r = 0 := by unfold py_h1; rw [if_neg e, Nat.mul_zero]
        have hg : py_g1 T (fun _ => 1) k s r = T (k % 8) r := by rw [g0, Nat.mul_one]
        rw [hg] at hpX
        obtain ⟨w1, l1, s1, k1, L1, g1, a1, a2, a3, a4⟩ := py_SP_add hS (x := 8 * s + r) (X := X * T (k % 8) r) (by omega) (by omega)
        have hE1 := a3 (fun _ => 1)
        rw [Nat.mul_one] at hE1
        rw [a1]
        simp only [zb]
        obtain ⟨w2, l2, s2, M2, k2, L2, g2, b1, b2, b3, b4, b5⟩ := ih (r + 1) q w1 l1 s1 M k1 L1 g1 (by omega) (by omega) a2 (a4 (fun y => y < 64 ∧ y / 8 < n ∧ y % 8 < n ∧ ¬ y / 8 = y % 8) hL (fun _ => by omega)) (by rw [fb_sm_succ, hg, Nat.mul_add]; omega)
        refine ⟨w2, l2, s2, M2, k2, L2, g2, b1, b2, b3, fun φ => ?_, ?_⟩
        · have h9 := b4 φ
          have h10 := a3 φ
          rw [fb_sm_succ, g0 φ, Nat.mul_add] at h9
          have h11 : X * (T (k % 8) r * φ (8 * s + r)) = X * T (k % 8) r * φ (8 * s + r) := (Nat.mul_assoc _ _ _).symm
          omega
        · rw [fb_sm_succ, h0, Nat.add_zero] at b5
          exact b5
theorem py_hb27 (h8 : n ≤ 8) (hc : ∀ i j, i < 8 → j < 8 → ct (8 * i + j) = nI (T i j)) (hT : ∀ i j, T i j ≤ 10) {Mx : Nat} (hMx : Mx < 2 ^ 63) (ow : Nat → Int64) {k W : Nat} (hkn : k % 8 < n) (hkd : k / 8 < n) (hW : 10 * W < 2 ^ 63) :
    ∀ (d s m : Nat) (nw : Nat → Int64) (nl : Nat → Int32) (ns : Int32) (M kk : Nat) (L g : Nat → Nat), s + d = n → d < m → py_SP nw nl ns kk L g → (∀ j, j < kk → L j < 64 ∧ L j / 8 < n ∧ L j % 8 < n ∧ ¬ L j / 8 = L j % 8) → py_E kk L g (fun _ => 1) + W * py_GM T n (fun _ => 1) k ≤ Mx + W * fb_sm (fun s => T (k / 8) s * fb_sm (py_g1 T (fun _ => 1) k s) n) s →
    ∃ (nw' : Nat → Int64) (nl' : Nat → Int32) (ns' : Int32) (M' kk' : Nat) (L' g' : Nat → Nat), zf_X0_handBoth_27 ow ct (nI n) m nw nl ns (nI (k / 8)) (nI (k % 8)) (lN W) (lN M) (nI s) = some (lN M', nw', nl', ns') ∧ py_SP nw' nl' ns' kk' L' g' ∧ (∀ j, j < kk' → L' j < 64 ∧ L' j / 8 < n ∧ L' j % 8 < n ∧ ¬ L' j / 8 = L' j % 8) ∧
      (∀ φ, py_E kk' L' g' φ + W * fb_sm (fun s => T (k / 8) s * fb_sm (py_g1 T φ k s) n) s = py_E kk L g φ + W * py_GM T n φ k) ∧ M' + W * fb_sm (fun s => T (k / 8) s * fb_sm (py_h1 T k s) n) s = M + W * py_HM T n k := by
  intro d
  induction d with
  | zero =>
    intro s m nw nl ns M kk L g h1 h2 hS hL hE
    obtain ⟨q, rfl⟩ : ∃ q, m = q + 1 := ⟨m - 1, by omega⟩
    have : s = n := by omega
    subst this
    refine ⟨nw, nl, ns, M, kk, L, g, ?_, hS, hL, fun φ => rfl, rfl⟩
    show zf_X0_handBoth_27_b ow ct _ _ _ _ _ _ _ _ _ _ = _
    unfold zf_X0_handBoth_27_b
    rw [if_pos ((tn_le (by omega) (by omega)).mpr (by omega))]
  | succ d ih =>
    intro s m nw nl ns M kk L g h1 h2 hS hL hE
    obtain ⟨q, rfl⟩ : ∃ q, m = q + 1 := ⟨m - 1, by omega⟩
    have hTs := hT (k / 8) s
    have hWT : W * T (k / 8) s ≤ W * 10 := Nat.mul_le_mul_left _ hTs
    have hp := fb_sm_part (fun s => T (k / 8) s * fb_sm (py_g1 T (fun _ => 1) k s) n) (show s < n by omega)
    have hpW : W * fb_sm (fun s => T (k / 8) s * fb_sm (py_g1 T (fun _ => 1) k s) n) s + W * (T (k / 8) s * fb_sm (py_g1 T (fun _ => 1) k s) n) ≤ W * fb_sm (fun s => T (k / 8) s * fb_sm (py_g1 T (fun _ => 1) k s) n) n := by rw [← Nat.mul_add]; exact Nat.mul_le_mul_left _ hp
    have hG : py_GM T n (fun _ => 1) k = fb_sm (fun s => T (k / 8) s * fb_sm (py_g1 T (fun _ => 1) k s) n) n := rfl
    rw [hG] at hE
    have hA : W * (T (k / 8) s * fb_sm (py_g1 T (fun _ => 1) k s) n) = W * T (k / 8) s * fb_sm (py_g1 T (fun _ => 1) k s) n := (Nat.mul_assoc _ _ _).symm
    obtain ⟨w1, l1, s1, M1, k1, L1, g1, a1, a2, a3, a4, a5⟩ := py_hb52 h8 hc hT hMx ow (k := k) (s := s) (X := W * T (k / 8) s) hkn (by omega) (by omega) (nI (k / 8)) (lN W) (zf_X0_handBoth_27 ow ct (nI n) q) n 0 zfuel nw nl ns M kk L g (by omega) (by unfold zfuel; omega) hS hL (by
      have : W * T (k / 8) s * fb_sm (py_g1 T (fun _ => 1) k s) 0 = 0 := Nat.mul_zero _
      omega)
    have hE1 := a4 (fun _ => 1)
    have z1 : ∀ φ, W * T (k / 8) s * fb_sm (py_g1 T φ k s) 0 = 0 := fun φ => Nat.mul_zero _
    rw [z1] at hE1
    obtain ⟨w2, l2, s2, M2, k2, L2, g2, b1, b2, b3, b4, b5⟩ := ih (s + 1) q w1 l1 s1 M1 k1 L1 g1 (by omega) (by omega) a2 a3 (by rw [hG, fb_sm_succ, Nat.mul_add]; omega)
    refine ⟨w2, l2, s2, M2, k2, L2, g2, ?_, b2, b3, fun φ => ?_, ?_⟩
    · rw [← b1, ← a1]
      show zf_X0_handBoth_27_b ow ct _ _ _ _ _ _ _ _ _ _ = _
      unfold zf_X0_handBoth_27_b
      rw [if_neg (nI_ge (a := s) (b := n) (by omega) (by omega)), py_ten h8 hc hkd (by omega)]
      simp only [zb]
      rw [tl_i (by omega), tl_mul]
      rfl
    · have h9 := b4 φ
      have h10 := a4 φ
      rw [z1] at h10
      rw [fb_sm_succ, Nat.mul_add] at h9
      have h11 : W * (T (k / 8) s * fb_sm (py_g1 T φ k s) n) = W * T (k / 8) s * fb_sm (py_g1 T φ k s) n := (Nat.mul_assoc _ _ _).symm
      omega
    · rw [fb_sm_succ, Nat.mul_add] at b5
      have h12 : W * T (k / 8) s * fb_sm (py_h1 T k s) 0 = 0 := Nat.mul_zero _
      have h11 : W * (T (k / 8) s * fb_sm (py_h1 T k s) n) = W * T (k / 8) s * fb_sm (py_h1 T k s) n := (Nat.mul_assoc _ _ _).symm
      omega
theorem py_hb (h8 : n ≤ 8) (hc : ∀ i j, i < 8 → j < 8 → ct (8 * i + j) = nI (T i j)) (hT : ∀ i j, T i j ≤ 10) {Mx : Nat} (hMx : Mx < 2 ^ 63) {ow : Nat → Int64} {ol : Nat → Int32} {os : Int32} {K : Nat} {Lo go : Nat → Nat} (hO : py_SP ow ol os K Lo go) {k : Nat} (hk : k < 64) (hkn : k % 8 < n) (hkd : k / 8 < n) (hW : 10 * go k < 2 ^ 63)
    {nw : Nat → Int64} {nl : Nat → Int32} {ns : Int32} {kk : Nat} {L g : Nat → Nat} (hS : py_SP nw nl ns kk L g) (hL : ∀ j, j < kk → L j < 64 ∧ L j / 8 < n ∧ L j % 8 < n ∧ ¬ L j / 8 = L j % 8) (hE : py_E kk L g (fun _ => 1) + go k * py_GM T n (fun _ => 1) k ≤ Mx) :
    ∃ (nw' : Nat → Int64) (nl' : Nat → Int32) (ns' : Int32) (kk' : Nat) (L' g' : Nat → Nat), zf_X0_handBoth (nI k) ow ct (nI n) nw nl ns = some (lN (go k * py_HM T n k), nw', nl', ns') ∧ py_SP nw' nl' ns' kk' L' g' ∧ (∀ j, j < kk' → L' j < 64 ∧ L' j / 8 < n ∧ L' j % 8 < n ∧ ¬ L' j / 8 = L' j % 8) ∧
      (∀ φ, py_E kk' L' g' φ = py_E kk L g φ + go k * py_GM T n φ k) := by
  obtain ⟨w2, l2, s2, M2, k2, L2, g2, b1, b2, b3, b4, b5⟩ := py_hb27 h8 hc hT hMx ow (k := k) (W := go k) hkn hkd hW n 0 zfuel nw nl ns 0 kk L g (by omega) (by unfold zfuel; omega) hS hL (by
    have : go k * fb_sm (fun s => T (k / 8) s * fb_sm (py_g1 T (fun _ => 1) k s) n) 0 = 0 := Nat.mul_zero _
    omega)
  have e0 : go k * fb_sm (fun s => T (k / 8) s * fb_sm (py_h1 T k s) n) 0 = 0 := Nat.mul_zero _
  have eM : M2 = go k * py_HM T n k := by omega
  refine ⟨w2, l2, s2, k2, L2, g2, ?_, b2, b3, fun φ => ?_⟩
  · rw [← eM, ← b1]
    unfold zf_X0_handBoth
    rw [py_weightOf hO (by omega), show nI k - nI k / (8 : Int32) * (8 : Int32) = nI (k % 8) from pk_rem (a := k) (d := 8) (by omega) (by decide) (by decide), show nI k / (8 : Int32) = nI (k / 8) from pk_div (a := k) (d := 8) (by omega) (by decide) (by decide)]
    rfl
  · have h9 := b4 φ
    have : go k * fb_sm (fun s => T (k / 8) s * fb_sm (py_g1 T φ k s) n) 0 = 0 := Nat.mul_zero _
    omega
theorem py_mw53 (h8 : n ≤ 8) (hc : ∀ i j, i < 8 → j < 8 → ct (8 * i + j) = nI (T i j)) (hT : ∀ i j, T i j ≤ 10) (hR : ∀ i, fb_sm (T i) n ≤ 10) {M : Nat} (hM : M < 2 ^ 63) {ow : Nat → Int64} {ol : Nat → Int32} {os : Int32} {K : Nat} {Lo go : Nat → Nat} (hO : py_SP ow ol os K Lo go) (hLo : ∀ j, j < K → Lo j < 64 ∧ Lo j / 8 < n ∧ Lo j % 8 < n ∧ ¬ Lo j / 8 = Lo j % 8) {R : Nat} (v4 v7 : Int32)
    (k30 : (Nat → Int64) → (Nat → Int32) → Int32 → (Nat → Int64) → (Nat → Int32) → Int32 → Int32 → Int64 → Int32 → Option (Int64 × (Nat → Int64) × (Nat → Int32) × Int32 × (Nat → Int64) × (Nat → Int32) × Int32)) (hM2 : py_E K Lo go (py_GM T n (fun _ => 1)) ≤ M) (hM3 : 10 * py_E K Lo go (fun _ => 1) < 2 ^ 63) :
    ∀ (d y m : Nat) (c : Nat) (nw : Nat → Int64) (nl : Nat → Int32) (ns : Int32) (k : Nat) (L g : Nat → Nat), y + d = K → d < m → py_SP nw nl ns k L g → (∀ j, j < k → L j < 64 ∧ L j / 8 < n ∧ L j % 8 < n ∧ ¬ L j / 8 = L j % 8) → py_E k L g (fun _ => 1) = fb_sm (fun i => go (Lo i) * py_GM T n (fun _ => 1) (Lo i)) y →
    ∃ (nw' : Nat → Int64) (nl' : Nat → Int32) (ns' : Int32) (k' : Nat) (L' g' : Nat → Nat) (c' : Nat) (cw : Nat → Int64), zf_X0_meetWeight_62 ct (nI n) k30 m ow ol os nw nl ns v4 (lN c) v7 (lN R) os (nI y) = k30 nw' nl' ns' cw ol (nI 0) v4 (lN c') (v7 + 1) ∧ py_SP nw' nl' ns' k' L' g' ∧ (∀ j, j < k' → L' j < 64 ∧ L' j / 8 < n ∧ L' j % 8 < n ∧ ¬ L' j / 8 = L' j % 8) ∧ py_NO cw (nI 0) ∧
      (∀ φ, py_E k' L' g' φ + fb_sm (fun i => go (Lo i) * py_GM T n φ (Lo i)) y = py_E k L g φ + py_E K Lo go (py_GM T n φ)) ∧ c' + R * fb_sm (fun i => go (Lo i) * py_HM T n (Lo i)) y = c + R * py_E K Lo go (py_HM T n) := by
  intro d
  induction d with
  | zero =>
    intro y m c nw nl ns k L g h1 h2 hS hL hE
    obtain ⟨q, rfl⟩ : ∃ q, m = q + 1 := ⟨m - 1, by omega⟩
    have : y = K := by omega
    subst this
    obtain ⟨cw, c1, c2⟩ := py_stepOn (w2 := nw) (lv2 := nl) (s2 := ns) (py_SP_CL hO)
    refine ⟨nw, nl, ns, k, L, g, c, cw, ?_, hS, hL, c2, fun φ => rfl, rfl⟩
    have hK := hO.2.1
    have eK := hO.1
    subst eK
    show zf_X0_meetWeight_62_b ct _ _ _ _ _ _ _ _ _ _ _ _ _ _ _ = _
    unfold zf_X0_meetWeight_62_b
    rw [if_pos ((tn_le (by omega) (by omega)).mpr (by omega)), c1]
    rfl
  | succ d ih =>
    intro y m c nw nl ns k L g h1 h2 hS hL hE
    obtain ⟨q, rfl⟩ : ∃ q, m = q + 1 := ⟨m - 1, by omega⟩
    have hK := hO.2.1
    have hp' := fb_sm_part (fun i => go (Lo i) * py_GM T n (fun _ => 1) (Lo i)) (show y < K by omega)
    have hp2 : fb_sm (fun i => go (Lo i) * py_GM T n (fun _ => 1) (Lo i)) y + go (Lo y) * py_GM T n (fun _ => 1) (Lo y) ≤ py_E K Lo go (py_GM T n (fun _ => 1)) := hp'
    have hgo := py_E_le hO (x := Lo y) (hO.2.2.1 y (by omega)).1
    have hl := hLo y (by omega)
    obtain ⟨w1, l1, s1, k1, L1, g1, a1, a2, a3, a4⟩ := py_hb h8 hc hT hM hO (k := Lo y) hl.1 hl.2.2.1 hl.2.1 (by omega) hS hL (by omega)
    have hE1 := a4 (fun _ => 1)
    obtain ⟨w2, l2, s2, k2, L2, g2, c2, cw, b1, b2, b3, b4, b5, b6⟩ := ih (y + 1) q (c + R * (go (Lo y) * py_HM T n (Lo y))) w1 l1 s1 k1 L1 g1 (by omega) (by omega) a2 a3 (by rw [fb_sm_succ]; omega)
    refine ⟨w2, l2, s2, k2, L2, g2, c2, cw, ?_, b2, b3, b4, fun φ => ?_, ?_⟩
    · have eK := hO.1
      show zf_X0_meetWeight_62_b ct _ _ _ _ _ _ _ _ _ _ _ _ _ _ _ = _
      unfold zf_X0_meetWeight_62_b
      rw [py_stateAt hO (show y < K by omega), eK, if_neg (nI_ge (a := y) (b := K) (by omega) (by omega))]
      simp only [zb]
      rw [a1]
      simp only [zb]
      rw [← eK, show nI y + (1 : Int32) = nI (y + 1) from nI_1 y, tl_mul, tl_add]
      exact b1
    · have h9 := b5 φ
      have h10 := a4 φ
      rw [fb_sm_succ] at h9
      omega
    · rw [fb_sm_succ, Nat.mul_add] at b6
      omega
theorem py_mw30 (h8 : n ≤ 8) (hc : ∀ i j, i < 8 → j < 8 → ct (8 * i + j) = nI (T i j)) (hT : ∀ i j, T i j ≤ 10) (hR : ∀ i, fb_sm (T i) n ≤ 10) {k0 t : Nat} (ht : t ≤ 8) :
    ∀ (d τ m : Nat) (ow nw : Nat → Int64) (ol nl : Nat → Int32) (os ns : Int32) (K : Nat) (Lo go : Nat → Nat), τ + d = t → d < m → py_SP ow ol os K Lo go → (∀ j, j < K → Lo j < 64 ∧ Lo j / 8 < n ∧ Lo j % 8 < n ∧ ¬ Lo j / 8 = Lo j % 8) → py_NO nw ns → (∀ φ, py_E K Lo go φ = py_iG T n τ φ k0) →
    ∃ (ow' nw' : Nat → Int64) (ol' nl' : Nat → Int32) (os' ns' : Int32), zf_X0_meetWeight_30 ct (nI n) m ow ol os nw nl ns (nI t) (lN (100 ^ (t - τ) * py_mz T n k0 τ)) (nI (τ + 1)) = some (lN (py_mz T n k0 t), ow', ol', os', nw', nl', ns') ∧ py_RS ow' ol' os' nw' ns' := by
  intro d
  induction d with
  | zero =>
    intro τ m ow nw ol nl os ns K Lo go h1 h2 hO hL hN hE
    obtain ⟨q, rfl⟩ : ∃ q, m = q + 1 := ⟨m - 1, by omega⟩
    have : τ = t := by omega
    subst this
    refine ⟨ow, nw, ol, nl, os, ns, ?_, ⟨py_SP_CL hO, hN⟩⟩
    show zf_X0_meetWeight_30_b ct _ _ _ _ _ _ _ _ _ _ _ = _
    unfold zf_X0_meetWeight_30_b
    rw [if_pos (nI_lt (by omega) (by omega)), Nat.sub_self, Nat.pow_zero, Nat.one_mul]
  | succ d ih =>
    intro τ m ow nw ol nl os ns K Lo go h1 h2 hO hL hN hE
    obtain ⟨q, rfl⟩ : ∃ q, m = q + 1 := ⟨m - 1, by omega⟩
    have hm1 := py_iG_le hR τ 1 (fun _ => 1) (fun _ => Nat.le_refl 1) k0
    rw [Nat.one_mul, ← hE] at hm1
    have hm2 := py_iG_le hR (τ + 1) 1 (fun _ => 1) (fun _ => Nat.le_refl 1) k0
    rw [Nat.one_mul] at hm2
    have hm3 : py_iG T n (τ + 1) (fun _ => 1) k0 = py_E K Lo go (py_GM T n (fun _ => 1)) := (hE _).symm
    rw [hm3] at hm2
    have hp1 := py_p100 τ (by omega)
    have hp2 := py_p100 (τ + 1) (by omega)
    obtain ⟨w1, l1, s1, k1, L1, g1, c1, cw, a1, a2, a3, a4, a5, a6⟩ := py_mw53 h8 hc hT hR hp2.1 hO hL (R := 100 ^ (t - (τ + 1))) (nI t) (nI (τ + 1)) (zf_X0_meetWeight_30 ct (nI n) q) hm2 (by omega) K 0 zfuel (100 ^ (t - τ) * py_mz T n k0 τ) nw nl ns 0 (fun _ => 0) (fun _ => 0) (by omega) (by have := hO.2.1; unfold zfuel; omega) (py_NO_SP hN _) (fun j hj => absurd hj (by omega)) rfl
    have hE' : ∀ φ, py_E k1 L1 g1 φ = py_iG T n (τ + 1) φ k0 := by
      intro φ
      have h9 := a5 φ
      have e1 : py_E 0 (fun _ => 0) (fun _ => 0) φ = 0 := rfl
      have e2 : fb_sm (fun i => go (Lo i) * py_GM T n φ (Lo i)) 0 = 0 := rfl
      show _ = py_iG T n τ (py_GM T n φ) k0
      rw [← hE]
      omega
    have hc1 : c1 = 100 ^ (t - (τ + 1)) * py_mz T n k0 (τ + 1) := by
      have e2 : fb_sm (fun i => go (Lo i) * py_HM T n (Lo i)) 0 = 0 := rfl
      rw [e2, Nat.mul_zero, Nat.add_zero, hE] at a6
      show _ = 100 ^ (t - (τ + 1)) * (100 * py_mz T n k0 τ + py_iG T n τ (py_HM T n) k0)
      rw [a6, Nat.mul_add, show t - τ = t - (τ + 1) + 1 by omega, Nat.pow_succ, Nat.mul_assoc]
    obtain ⟨ow', nw', ol', nl', os', ns', b1, b2⟩ := ih (τ + 1) q w1 cw l1 ol s1 (nI 0) k1 L1 g1 (by omega) (by omega) a2 a3 a4 hE'
    refine ⟨ow', nw', ol', nl', os', ns', ?_, b2⟩
    rw [← b1, ← hc1]
    show zf_X0_meetWeight_30_b ct _ _ _ _ _ _ _ _ _ _ _ = _
    unfold zf_X0_meetWeight_30_b
    rw [if_neg (nI_nlt (a := t) (b := τ + 1) (by omega) (by omega)), pk_sub (by omega), show zf_X8_power (100 : Int64) (nI (t - (τ + 1))) = _ from tp_c (B := 100) (by omega)]
    simp only [zb]
    rw [show zf_X0_meetWeight_62 ct (nI n) (zf_X0_meetWeight_30 ct (nI n) q) zfuel ow ol os nw nl ns (nI t) (lN (100 ^ (t - τ) * py_mz T n k0 τ)) (nI (τ + 1)) (lN (100 ^ (t - (τ + 1)))) os 0 = _ from a1, show nI (τ + 1) + (1 : Int32) = nI (τ + 1 + 1) from nI_1 _]
theorem py_mw (h8 : n ≤ 8) (hc : ∀ i j, i < 8 → j < 8 → ct (8 * i + j) = nI (T i j)) (hT : ∀ i j, T i j ≤ 10) (hR : ∀ i, fb_sm (T i) n ≤ 10) {p q t : Nat} (hp : p < n) (hq : q < n) (hpq : ¬ p = q) (ht : t ≤ 8) {ow nw : Nat → Int64} {ol : Nat → Int32} (nl : Nat → Int32) {os ns : Int32} (hS : py_RS ow ol os nw ns) :
    ∃ (ow' nw' : Nat → Int64) (ol' nl' : Nat → Int32) (os' ns' : Int32), zf_X0_meetWeight (nI p) (nI q) (nI t) ct (nI n) ow ol os nw nl ns = some (lN (py_mz T n (8 * p + q) t), ow', ol', os', nw', nl', ns') ∧ py_RS ow' ol' os' nw' ns' := by
  obtain ⟨w1, l1, s1, k, L, g, a1, a2, a3, a4⟩ := py_startWith hS.1 (x := 8 * p + q) (by omega)
  obtain ⟨ow', nw', ol', nl', os', ns', b1, b2⟩ := py_mw30 h8 hc hT hR (k0 := 8 * p + q) ht t 0 zfuel w1 nw l1 nl s1 ns k L g (by omega) (by unfold zfuel; omega) a2 (fun j hj => by rw [a4 j hj]; omega) hS.2 (fun φ => a3 φ)
  refine ⟨ow', nw', ol', nl', os', ns', ?_, b2⟩
  unfold zf_X0_meetWeight
  rw [if_neg (fun z => hpq ((tn_eq (by omega) (by omega)).mp z)), show nI p * (8 : Int32) + nI q = nI (8 * p + q) from by rw [show (8 : Int32) = nI 8 from rfl, pk_mul, nI_add, Nat.mul_comm], a1]
  simp only [zb]
  rw [show (100 ^ (t - 0) * py_mz T n (8 * p + q) 0) = 0 from Nat.mul_zero _] at b1
  exact b1
end PYHB
section PYMEET3
variable {n kd pn : Nat} {T : Nat → Nat → Nat}
variable {ct mt : Nat → Int32} {cs ck cp ms mk mr : Int32}
theorem po_meet (hN : py_RN n T kd pn ct cs ck cp mt ms mk mr) {ow nw : Nat → Int64} {ol : Nat → Int32} (nl : Nat → Int32) {os ns : Int32} (hS : py_RS ow ol os nw ns) (w sp : Nat → Int64) (p0 p1 p2 u : Int32) :
    ∃ r ow' ol' os' nw' nl' ns' w' sp', zf_X8_meet p0 p1 p2 u ct cs ow ol os nw nl ns = some (r, ow', ol', os', nw', nl', ns') ∧ zf_X9_meet p0 p1 p2 u mt ms w sp = some (r, w', sp') ∧ py_RS ow' ol' os' nw' ns' := by
  obtain ⟨h2, h8, -, -, rfl, rfl, -, -, -, -, hc, hm, hz, hr, -⟩ := hN
  have hR := py_RN_R hz hr
  have hT := py_RN_le hz hr
  unfold zf_X8_meet zf_X9_meet
  rcases tn_seat p0 (n := n) (by omega) with ⟨p, hp, rfl⟩ | h0
  · rcases tn_seat p1 (n := n) (by omega) with ⟨q, hq, rfl⟩ | h0
    · rw [py_has1 h8 hp, py_isSeat1 (by omega) h8 hp, py_has1 h8 hq, py_isSeat1 (by omega) h8 hq, py_rng (lo := 0) (hi := 8) (lo' := 0) (hi' := 8) (by decide) (by decide)]
      simp only [zb, if_neg zone]
      by_cases hq0 : p2 < 0
      · rw [if_pos hq0, if_pos (Or.inl hq0), if_pos rfl]
        exact ⟨_, _, _, _, _, _, _, _, _, rfl, rfl, hS⟩
      · rw [if_neg hq0]
        by_cases hq2 : p2 ≤ 8
        · rw [if_pos hq2, if_neg (show ¬ (p2 < 0 ∨ 8 < p2) from fun q => q.elim hq0 (fun q => absurd hq2 (Int32.not_le.mpr q))), if_neg zone]
          obtain ⟨t, ht, rfl⟩ := nI_of2 (x := p2) (M := 8) (n := 8) (by decide) hq0 hq2
          have hb := py_p100 t ht
          have hmz := py_mz_le hR (8 * p + q) t
          rw [show zf_X8_power (100 : Int64) (nI t) = _ from tp_c (B := 100) (by omega)]
          by_cases hpq : p = q
          · obtain ⟨w', sp', a1⟩ := py_meetM h8 hm hz hT hR (p := p) (q := q) (by omega) (by omega) ht u w sp (m0 := 1) (by omega)
            rw [if_pos (by rw [hpq]), show (1 : Int64) = lN 1 from rfl, a1]
            unfold zf_X0_meetWeight
            rw [if_pos (by rw [hpq]), show zf_X8_power (100 : Int64) (nI t) = _ from tp_c (B := 100) (by omega)]
            simp only [zb]
            rw [py_frC u hb.1 (Nat.pow_pos (by decide)) hb.1]
            refine ⟨_, _, _, _, _, _, _, w', sp', rfl, ?_, hS⟩
            rw [Nat.mul_one, show 1 - 1 = 0 from rfl, Nat.zero_mul, Nat.add_zero]
          · obtain ⟨w', sp', a1⟩ := py_meetM h8 hm hz hT hR (p := p) (q := q) (by omega) (by omega) ht u w sp (m0 := 0) (by omega)
            obtain ⟨ow', nw', ol', nl', os', ns', b1, b2⟩ := py_mw h8 hc hT hR hp hq hpq ht nl hS
            rw [if_neg (fun z => hpq ((tn_eq (by omega) (by omega)).mp z)), show (0 : Int64) = lN 0 from rfl, a1, b1]
            simp only [zb]
            rw [py_frC u (by omega) (Nat.pow_pos (by decide)) hb.1]
            refine ⟨_, _, _, _, _, _, _, w', sp', rfl, ?_, b2⟩
            rw [Nat.mul_zero, Nat.zero_add, Nat.sub_zero, Nat.one_mul]
        · rw [if_neg hq2, if_pos (Or.inr (py_nle hq2)), if_pos rfl]
          exact ⟨_, _, _, _, _, _, _, _, _, rfl, rfl, hS⟩
    · rw [py_has1 h8 hp, py_isSeat1 (by omega) h8 hp, py_has0 h0, py_isSeat0 (by omega) h8 h0]
      exact ⟨_, _, _, _, _, _, _, _, _, rfl, rfl, hS⟩
  · rw [py_has0 h0, py_isSeat0 (by omega) h8 h0]
    exact ⟨_, _, _, _, _, _, _, _, _, rfl, rfl, hS⟩
end PYMEET3
