/-! ===== at ===== -/
def py_PC (T : Nat → Nat → Nat) (n : Nat) (φ : Nat → Nat) (i : Nat) : Nat := fb_sm (fun s => T i s * φ s) n
def py_itC (T : Nat → Nat → Nat) (n : Nat) : Nat → (Nat → Nat) → Nat → Nat
  | 0, φ => φ
  | t + 1, φ => py_itC T n t (py_PC T n φ)
theorem py_sm_mulr (f : Nat → Nat) (c : Nat) : ∀ m, fb_sm (fun s => f s * c) m = fb_sm f m * c
  | 0 => (Nat.zero_mul c).symm
  | m + 1 => by rw [fb_sm_succ, fb_sm_succ, py_sm_mulr f c m, Nat.add_mul]
theorem py_itC_le {n : Nat} {T : Nat → Nat → Nat} (hR : ∀ i, fb_sm (T i) n ≤ 10) : ∀ (t c : Nat) (φ : Nat → Nat), (∀ k, φ k ≤ c) → ∀ k, py_itC T n t φ k ≤ c * 10 ^ t
  | 0, c, φ, h, k => by rw [Nat.pow_zero, Nat.mul_one]; exact h k
  | t + 1, c, φ, h, k => by
    have := py_itC_le hR t (c * 10) (py_PC T n φ) (fun k => by
      have h1 : py_PC T n φ k ≤ fb_sm (fun s => T k s * c) n := fb_sm_le (fun s _ => Nat.mul_le_mul_left _ (h _))
      rw [py_sm_mulr] at h1
      have h3 : fb_sm (T k) n * c ≤ 10 * c := Nat.mul_le_mul_right _ (hR _)
      rw [Nat.mul_comm c 10]
      omega) k
    show py_itC T n t (py_PC T n φ) k ≤ _
    rw [Nat.pow_succ, Nat.mul_comm (10 ^ t) 10, ← Nat.mul_assoc]
    exact this
theorem py_it_mod {n : Nat} {T : Nat → Nat → Nat} (h8 : n ≤ 8) : ∀ (t : Nat) (φ : Nat → Nat) (k : Nat), py_it T n t (fun k => φ (k % 8)) k = py_itC T n t φ (k % 8)
  | 0, φ, k => rfl
  | t + 1, φ, k => by
    show py_it T n t (py_PM T n (fun k => φ (k % 8))) k = py_itC T n t (py_PC T n φ) (k % 8)
    rw [← py_it_mod h8 t (py_PC T n φ) k]
    congr 1
    funext k
    unfold py_PM py_PC
    refine fb_sm_cong (fun s hs => ?_)
    show T (k % 8) s * φ ((8 * (k / 8 ||| 2 ^ s) + s) % 8) = _
    rw [show (8 * (k / 8 ||| 2 ^ s) + s) % 8 = s by omega]
theorem py_modsum (a : Nat → Nat) (s : Nat) (hs : s < 8) : ∀ N, py_F (8 * N) a (fun k => if k % 8 = s then 1 else 0) = fb_sm (fun q => a (8 * q + s)) N
  | 0 => rfl
  | N + 1 => by
    have ih := py_modsum a s hs N
    unfold py_F at ih ⊢
    rw [fb_sm_succ, show 8 * (N + 1) = 8 * N + 8 by omega, fb_sm_split, ih]
    congr 1
    have : fb_sm (fun k => a (8 * N + k) * (if (8 * N + k) % 8 = s then 1 else 0)) 8 = fb_sm (fun k => if k = s then a (8 * N + s) else 0) 8 := fb_sm_cong (fun k hk => by
      by_cases e : k = s
      · rw [if_pos e, if_pos (by omega), e, Nat.mul_one]
      · rw [if_neg e, if_neg (by omega), Nat.mul_zero])
    rw [this, py_sm_one hs]
section PYAT
variable {n : Nat} {T : Nat → Nat → Nat} {ct : Nat → Int32}
variable (k8 : (Nat → Int64) → (Nat → Int32) → Int32 → (Nat → Int64) → (Nat → Int32) → Int32 → Int32 → Int32 → Int32 → Option (Int64 × (Nat → Int64) × (Nat → Int32) × Int32 × (Nat → Int64) × (Nat → Int32) × Int32))
theorem py_w54 (h8 : n ≤ 8) (hc : ∀ i j, i < 8 → j < 8 → ct (8 * i + j) = nI (T i j)) (hT : ∀ i j, T i j ≤ 10) {M : Nat} (hM : M < 2 ^ 63)
    (k17 : (Nat → Int64) → (Nat → Int32) → Int32 → (Nat → Int64) → (Nat → Int32) → Int32 → Int32 → Int32 → Int32 → Int32 → Int32 → Option (Int64 × (Nat → Int64) × (Nat → Int32) × Int32 × (Nat → Int64) × (Nat → Int32) × Int32))
    (ow : Nat → Int64) (ol : Nat → Int32) (os v3 v4 v5 vb v6 : Int32) {i W : Nat} (hi : i < n) : ∀ (d s m : Nat) (nw : Nat → Int64) (nl : Nat → Int32) (ns : Int32) (k : Nat) (L g : Nat → Nat), s + d = n → d < m → py_SP nw nl ns k L g → (∀ j, j < k → L j < n) → py_E k L g (fun _ => 1) + W * fb_sm (T i) n ≤ M + W * fb_sm (T i) s →
    ∃ (nw' : Nat → Int64) (nl' : Nat → Int32) (ns' : Int32) (k' : Nat) (L' g' : Nat → Nat), zf_X0_weightAt_58 ct (nI n) k8 k17 m ow ol os nw nl ns v3 v4 v5 vb v6 (nI i) (lN W) (nI s) = k17 ow ol os nw' nl' ns' v3 v4 v5 vb (v6 + 1) ∧ py_SP nw' nl' ns' k' L' g' ∧ (∀ j, j < k' → L' j < n) ∧ (∀ φ, py_E k' L' g' φ + W * fb_sm (fun s => T i s * φ s) s = py_E k L g φ + W * py_PC T n φ i) := by
  intro d
  induction d with
  | zero =>
    intro s m nw nl ns k L g h1 h2 hS hL hE
    obtain ⟨q, rfl⟩ : ∃ q, m = q + 1 := ⟨m - 1, by omega⟩
    have : s = n := by omega
    subst this
    refine ⟨nw, nl, ns, k, L, g, ?_, hS, hL, fun φ => rfl⟩
    show zf_X0_weightAt_58_b _ _ k8 _ _ _ _ _ _ _ _ _ _ _ _ _ _ _ _ = _
    unfold zf_X0_weightAt_58_b
    rw [if_pos ((tn_le (by omega) (by omega)).mpr (by omega))]
  | succ d ih =>
    intro s m nw nl ns k L g h1 h2 hS hL hE
    obtain ⟨q, rfl⟩ : ∃ q, m = q + 1 := ⟨m - 1, by omega⟩
    have hTs := hT i s
    have hp := fb_sm_part (T i) (show s < n by omega)
    have hpW : W * fb_sm (T i) s + W * T i s ≤ W * fb_sm (T i) n := by rw [← Nat.mul_add]; exact Nat.mul_le_mul_left _ hp
    obtain ⟨w1, l1, s1, k1, L1, g1, a1, a2, a3, a4⟩ := py_SP_add hS (x := s) (X := W * T i s) (by omega) (by omega)
    have hE1 := a3 (fun _ => 1)
    rw [Nat.mul_one] at hE1
    obtain ⟨w2, l2, s2, k2, L2, g2, b1, b2, b3, b4⟩ := ih (s + 1) q w1 l1 s1 k1 L1 g1 (by omega) (by omega) a2 (a4 (fun y => y < n) hL (fun _ => by omega)) (by rw [fb_sm_succ, Nat.mul_add]; omega)
    refine ⟨w2, l2, s2, k2, L2, g2, ?_, b2, b3, fun φ => ?_⟩
    · show zf_X0_weightAt_58_b _ _ k8 _ _ _ _ _ _ _ _ _ _ _ _ _ _ _ _ = _
      unfold zf_X0_weightAt_58_b
      rw [if_neg (nI_ge (a := s) (b := n) (by omega) (by omega)), py_ten h8 hc hi (by omega)]
      simp only [zb]
      rw [tl_i (by omega), tl_mul, a1]
      simp only [zb]
      rw [show nI s + (1 : Int32) = nI (s + 1) from nI_1 s]
      exact b1
    · have h9 := b4 φ
      have h10 := a3 φ
      rw [fb_sm_succ, Nat.mul_add] at h9
      have h11 : W * (T i s * φ s) = W * T i s * φ s := (Nat.mul_assoc _ _ _).symm
      omega
theorem py_w17 (h8 : n ≤ 8) (hc : ∀ i j, i < 8 → j < 8 → ct (8 * i + j) = nI (T i j)) (hT : ∀ i j, T i j ≤ 10) (hR : ∀ i, fb_sm (T i) n ≤ 10) {M : Nat} (hM : M < 2 ^ 63) {ow : Nat → Int64} {ol : Nat → Int32} {os : Int32} {K : Nat} {Lo go : Nat → Nat} (hO : py_SP ow ol os K Lo go) (hLo : ∀ j, j < K → Lo j < n) (v3 v4 v5 : Int32) :
    ∀ (d y m : Nat) (nw : Nat → Int64) (nl : Nat → Int32) (ns : Int32) (k : Nat) (L g : Nat → Nat), y + d = K → d < m → py_SP nw nl ns k L g → (∀ j, j < k → L j < n) → py_E k L g (fun _ => 1) + 10 * fb_sm (fun i => go (Lo i)) K ≤ M + 10 * fb_sm (fun i => go (Lo i)) y →
    ∃ (nw' : Nat → Int64) (nl' : Nat → Int32) (ns' : Int32) (k' : Nat) (L' g' : Nat → Nat) (cw : Nat → Int64), zf_X0_weightAt_26 ct (nI n) k8 m ow ol os nw nl ns v3 v4 v5 os (nI y) = k8 nw' nl' ns' cw ol (nI 0) v3 v4 (v5 + 1) ∧ py_SP nw' nl' ns' k' L' g' ∧ (∀ j, j < k' → L' j < n) ∧ py_NO cw (nI 0) ∧ (∀ φ, py_E k' L' g' φ + fb_sm (fun i => go (Lo i) * py_PC T n φ (Lo i)) y = py_E k L g φ + py_E K Lo go (py_PC T n φ)) := by
  intro d
  induction d with
  | zero =>
    intro y m nw nl ns k L g h1 h2 hS hL hE
    obtain ⟨q, rfl⟩ : ∃ q, m = q + 1 := ⟨m - 1, by omega⟩
    have : y = K := by omega
    subst this
    obtain ⟨cw, c1, c2⟩ := py_stepOn (w2 := nw) (lv2 := nl) (s2 := ns) (py_SP_CL hO)
    refine ⟨nw, nl, ns, k, L, g, cw, ?_, hS, hL, c2, fun φ => rfl⟩
    have hK := hO.2.1
    have eK := hO.1
    subst eK
    show zf_X0_weightAt_26_b _ _ _ _ _ _ _ _ _ _ _ _ _ _ _ = _
    unfold zf_X0_weightAt_26_b
    rw [if_pos ((tn_le (by omega) (by omega)).mpr (by omega)), c1]
    rfl
  | succ d ih =>
    intro y m nw nl ns k L g h1 h2 hS hL hE
    obtain ⟨q, rfl⟩ : ∃ q, m = q + 1 := ⟨m - 1, by omega⟩
    have hK := hO.2.1
    have hx : Lo y < 2048 := (hO.2.2.1 y (by omega)).1
    have hp := fb_sm_part (fun i => go (Lo i)) (show y < K by omega)
    have hp' : fb_sm (fun i => go (Lo i)) y + go (Lo y) ≤ fb_sm (fun i => go (Lo i)) K := hp
    have hW : go (Lo y) * fb_sm (T (Lo y)) n ≤ 10 * go (Lo y) := by rw [Nat.mul_comm 10]; exact Nat.mul_le_mul_left _ (hR _)
    obtain ⟨w1, l1, s1, k1, L1, g1, a1, a2, a3, a4⟩ := py_w54 k8 h8 hc hT hM (zf_X0_weightAt_26 ct (nI n) k8 q) ow ol os v3 v4 v5 os (nI y) (i := Lo y) (W := go (Lo y)) (hLo y (by omega)) n 0 zfuel nw nl ns k L g (by omega) (by unfold zfuel; omega) hS hL (by
      have : go (Lo y) * fb_sm (T (Lo y)) 0 = 0 := Nat.mul_zero _
      omega)
    have hE1 := a4 (fun _ => 1)
    have hPC1 : py_PC T n (fun _ => 1) (Lo y) = fb_sm (T (Lo y)) n := fb_sm_cong (fun s _ => Nat.mul_one _)
    have h00 : go (Lo y) * fb_sm (fun s => T (Lo y) s * 1) 0 = 0 := Nat.mul_zero _
    rw [hPC1] at hE1
    obtain ⟨w2, l2, s2, k2, L2, g2, cw, b1, b2, b3, b4, b5⟩ := ih (y + 1) q w1 l1 s1 k1 L1 g1 (by omega) (by omega) a2 a3 (by rw [fb_sm_succ]; omega)
    refine ⟨w2, l2, s2, k2, L2, g2, cw, ?_, b2, b3, b4, fun φ => ?_⟩
    · have eK := hO.1
      show zf_X0_weightAt_26_b _ _ _ _ _ _ _ _ _ _ _ _ _ _ _ = _
      unfold zf_X0_weightAt_26_b
      rw [py_stateAt hO (show y < K by omega)]
      simp only [zb]
      rw [py_weightOf hO hx, eK, if_neg (nI_ge (a := y) (b := K) (by omega) (by omega))]
      simp only [zb]
      rw [← eK, show zf_X0_weightAt_58 ct (nI n) k8 (zf_X0_weightAt_26 ct (nI n) k8 q) zfuel ow ol os nw nl ns v3 v4 v5 os (nI y) (nI (Lo y)) (lN (go (Lo y))) 0 = _ from a1, show nI y + (1 : Int32) = nI (y + 1) from nI_1 y]
      exact b1
    · have h9 := b5 φ
      have h10 := a4 φ
      rw [fb_sm_succ] at h9
      have h11 : go (Lo y) * fb_sm (fun s => T (Lo y) s * φ s) 0 = 0 := Nat.mul_zero _
      omega
end PYAT
section PYAT2
variable {n : Nat} {T : Nat → Nat → Nat} {ct : Nat → Int32}
theorem py_w8 (h8 : n ≤ 8) (hc : ∀ i j, i < 8 → j < 8 → ct (8 * i + j) = nI (T i j)) (hT : ∀ i j, T i j ≤ 10) (hR : ∀ i, fb_sm (T i) n ≤ 10) {pos t seat : Nat} (ht : t ≤ 12) (hseat : seat < 8) :
    ∀ (d τ m : Nat) (ow nw : Nat → Int64) (ol nl : Nat → Int32) (os ns : Int32) (K : Nat) (Lo go : Nat → Nat), τ + d = t → d < m → py_SP ow ol os K Lo go → (∀ j, j < K → Lo j < n) → py_NO nw ns → (∀ φ, py_E K Lo go φ = py_itC T n τ φ pos) →
    ∃ (ow' nw' : Nat → Int64) (ol' nl' : Nat → Int32) (os' ns' : Int32), zf_X0_weightAt_8 ct (nI n) m ow ol os nw nl ns (nI t) (nI seat) (nI τ) = some (lN (py_itC T n t (fun y => if y = seat then 1 else 0) pos), ow', ol', os', nw', nl', ns') ∧ py_CL ow' ol' os' ∧ py_NO nw' ns' := by
  intro d
  induction d with
  | zero =>
    intro τ m ow nw ol nl os ns K Lo go h1 h2 hO hL hN hE
    obtain ⟨q, rfl⟩ : ∃ q, m = q + 1 := ⟨m - 1, by omega⟩
    have : τ = t := by omega
    subst this
    refine ⟨ow, nw, ol, nl, os, ns, ?_, py_SP_CL hO, hN⟩
    show zf_X0_weightAt_8_b _ _ _ _ _ _ _ _ _ _ _ _ = _
    unfold zf_X0_weightAt_8_b
    rw [if_pos ((tn_le (by omega) (by omega)).mpr (by omega)), py_weightOf hO (by omega)]
    simp only [zb]
    rw [← hE, py_E_delta hO (by omega)]
  | succ d ih =>
    intro τ m ow nw ol nl os ns K Lo go h1 h2 hO hL hN hE
    obtain ⟨q, rfl⟩ : ∃ q, m = q + 1 := ⟨m - 1, by omega⟩
    have hm1 := py_itC_le hR τ 1 (fun _ => 1) (fun _ => Nat.le_refl 1) pos
    rw [Nat.one_mul, ← hE] at hm1
    have hsum : fb_sm (fun i => go (Lo i)) K = py_E K Lo go (fun _ => 1) := fb_sm_cong (fun i _ => (Nat.mul_one _).symm)
    have h10 := py_p10_63 (e := τ + 1) (by omega)
    obtain ⟨w1, l1, s1, k1, L1, g1, cw, a1, a2, a3, a4, a5⟩ := py_w17 (zf_X0_weightAt_8 ct (nI n) q) h8 hc hT hR h10 hO hL (nI t) (nI seat) (nI τ) K 0 zfuel nw nl ns 0 (fun _ => 0) (fun _ => 0) (by omega) (by have := hO.2.1; unfold zfuel; omega) (py_NO_SP hN _) (fun j hj => absurd hj (by omega)) (by
      have e1 : py_E 0 (fun _ => 0) (fun _ => 0) (fun _ => 1) = 0 := rfl
      have e2 : fb_sm (fun i => go (Lo i)) 0 = 0 := rfl
      rw [Nat.pow_succ]
      omega)
    have hE' : ∀ φ, py_E k1 L1 g1 φ = py_itC T n (τ + 1) φ pos := by
      intro φ
      have h9 := a5 φ
      have e1 : py_E 0 (fun _ => 0) (fun _ => 0) φ = 0 := rfl
      have e2 : fb_sm (fun i => go (Lo i) * py_PC T n φ (Lo i)) 0 = 0 := rfl
      show _ = py_itC T n τ (py_PC T n φ) pos
      rw [← hE]
      omega
    obtain ⟨ow', nw', ol', nl', os', ns', b1, b2, b3⟩ := ih (τ + 1) q w1 cw l1 ol s1 (nI 0) k1 L1 g1 (by omega) (by omega) a2 a3 a4 hE'
    refine ⟨ow', nw', ol', nl', os', ns', ?_, b2, b3⟩
    rw [← b1]
    show zf_X0_weightAt_8_b _ _ _ _ _ _ _ _ _ _ _ _ = _
    unfold zf_X0_weightAt_8_b
    rw [if_neg (nI_ge (a := τ) (b := t) (by omega) (by omega)), show zf_X0_weightAt_26 ct (nI n) (zf_X0_weightAt_8 ct (nI n) q) zfuel ow ol os nw nl ns (nI t) (nI seat) (nI τ) os 0 = _ from a1, show nI τ + (1 : Int32) = nI (τ + 1) from nI_1 τ]
theorem py_weightAt (h8 : n ≤ 8) (hc : ∀ i j, i < 8 → j < 8 → ct (8 * i + j) = nI (T i j)) (hT : ∀ i j, T i j ≤ 10) (hR : ∀ i, fb_sm (T i) n ≤ 10) {pos t seat : Nat} (ht : t ≤ 12) (hseat : seat < 8) (hpos : pos < n) {ow nw : Nat → Int64} {ol nl : Nat → Int32} {os ns : Int32} (hO : py_CL ow ol os) (hN : py_NO nw ns) :
    ∃ (ow' nw' : Nat → Int64) (ol' nl' : Nat → Int32) (os' ns' : Int32), zf_X0_weightAt (nI pos) (nI t) (nI seat) ct (nI n) ow ol os nw nl ns = some (lN (py_itC T n t (fun y => if y = seat then 1 else 0) pos), ow', ol', os', nw', nl', ns') ∧ py_CL ow' ol' os' ∧ py_NO nw' ns' := by
  obtain ⟨w1, l1, s1, k, L, g, a1, a2, a3, a4⟩ := py_startWith hO (x := pos) (by omega)
  obtain ⟨ow', nw', ol', nl', os', ns', b1, b2⟩ := py_w8 h8 hc hT hR (pos := pos) ht hseat t 0 zfuel w1 nw l1 nl s1 ns k L g (by omega) (by unfold zfuel; omega) a2 (fun j hj => by rw [a4 j hj]; exact hpos) hN (fun φ => a3 φ)
  refine ⟨ow', nw', ol', nl', os', ns', ?_, b2⟩
  unfold zf_X0_weightAt
  rw [a1]
  exact b1
/-- the model's sum over all who had it -/
theorem py_m47 {w sp la : Nat → Int64} {a : Nat → Nat} (hw : py_AR w a 2048) {t s : Nat} (ht : t ≤ 12) (hs : s < 8) (mt : Nat → Int32) (sts pl hd u : Int32) : ∀ (d q m : Nat), q + d = 256 → d < m → zf_X9_at_47 mt sts pl hd m w sp la (nI t) (nI s) u (lN (fb_sm (fun q => a (8 * q + s)) q)) (nI q) = Option.bind (zf_X9_part (lN (fb_sm (fun q => a (8 * q + s)) 256)) (lN (10 ^ t)) u) (fun x => some (x, w, sp, la)) := by
  intro d
  induction d with
  | zero =>
    intro q m h1 h2
    obtain ⟨f, rfl⟩ : ∃ f, m = f + 1 := ⟨m - 1, by omega⟩
    have : q = 256 := by omega
    subst this
    show zf_X9_at_47_b mt sts pl hd _ _ _ _ _ _ _ _ _ = _
    unfold zf_X9_at_47_b
    rw [if_pos (by decide), show zf_X9_power (10 : Int32) (nI t) = _ from tp_m (b := 10) (by decide) (by omega)]
    rfl
  | succ d ih =>
    intro q m h1 h2
    obtain ⟨f, rfl⟩ : ∃ f, m = f + 1 := ⟨m - 1, by omega⟩
    have := ih (q + 1) f (by omega) (by omega)
    rw [fb_sm_succ, ← tl_add] at this
    rw [← this]
    show zf_X9_at_47_b mt sts pl hd _ _ _ _ _ _ _ _ _ = _
    unfold zf_X9_at_47_b
    rw [if_neg (show ¬ (256 : Int32) ≤ nI q from nI_ge (a := q) (b := 256) (by omega) (by decide)), show (8 : Int32) * nI q + nI s = nI (8 * q + s) from by rw [show (8 : Int32) = nI 8 from rfl, pk_mul, nI_add], if_neg (tn_in (by omega) (by decide)), tn_cl (by omega), hw _ (by omega), show nI q + (1 : Int32) = nI (q + 1) from nI_1 q]
end PYAT2
theorem py_RN_R {n : Nat} {T : Nat → Nat → Nat} (hz : ∀ i j, n ≤ i ∨ n ≤ j → T i j = 0) (hr : ∀ i, i < n → fb_sm (T i) n = 10) (i : Nat) : fb_sm (T i) n ≤ 10 := by
  by_cases h : i < n
  · rw [hr i h]; exact Nat.le_refl _
  · rw [fb_sm_cong (g := fun _ => 0) (fun k _ => hz i k (by omega)), fb_sm_const]
    omega
/-- the class's spreads between calls -/
def py_RS (ow : Nat → Int64) (ol : Nat → Int32) (os : Int32) (nw : Nat → Int64) (ns : Int32) : Prop := py_CL ow ol os ∧ py_NO nw ns
section PYAT3
variable {n kd pn b h sc : Nat} {T : Nat → Nat → Nat} {hs st ss : Nat → Nat} {sd : Int64}
variable {ct mt xh xt xs ma mw mt' ms' : Nat → Int32} {cs ck cp ms mk mr x0 x1 x2 x3 x4 mp mf mh mn mc : Int32} {x5 md : Int64}
theorem po_at (hN : py_RN n T kd pn ct cs ck cp mt ms mk mr) (hG : py_RG n b h hs sc st ss sd xh xt xs x0 x1 x2 x3 x4 x5 mp mf mh mn ma mw mc mt' ms' md) {ow nw : Nat → Int64} {ol : Nat → Int32} (nl : Nat → Int32) {os ns : Int32} (hS : py_RS ow ol os nw ns) (w sp la : Nat → Int64) (p0 p1 u : Int32) :
    ∃ r ow' ol' os' nw' nl' ns' w' sp' la', zf_X8_at p0 p1 u ct cs x1 ow ol os nw nl ns = some (r, ow', ol', os', nw', nl', ns') ∧ zf_X9_at p0 p1 u mt ms mp mh w sp la = some (r, w', sp', la') ∧ py_RS ow' ol' os' nw' ns' := by
  obtain ⟨h2, h8, -, -, rfl, rfl, -, -, -, -, hc, hm, hz, hr, -⟩ := hN
  obtain ⟨hb, hh, -, hhs, -, -, -, -, -, -, -, -, -, rfl, -, -, -, -, rfl, -, rfl, -, -, -⟩ := hG
  have hp := py_pl_lt hb hhs
  have hd := py_hd_lt hb hhs
  have hp8 := py_pow8 h8
  have hR := py_RN_R hz hr
  have hT := py_RN_le hz hr
  unfold zf_X8_at zf_X9_at
  rcases tn_seat p1 (n := n) (by omega) with ⟨j, hj, rfl⟩ | h0
  · rw [py_has1 h8 hj, py_isSeat1 (by omega) h8 hj, py_rng (lo := 0) (hi := 12) (lo' := 0) (hi' := 12) (by decide) (by decide)]
    simp only [zb, if_neg zone]
    by_cases hq : p0 < 0
    · rw [if_pos hq, if_pos (Or.inl hq), if_pos rfl]
      exact ⟨_, _, _, _, _, _, _, _, _, _, rfl, rfl, hS⟩
    · rw [if_neg hq]
      by_cases hq2 : p0 ≤ 12
      · rw [if_pos hq2, if_neg (show ¬ (p0 < 0 ∨ 12 < p0) from fun q => q.elim hq (fun q => absurd hq2 (Int32.not_le.mpr q))), if_neg zone]
        obtain ⟨t, ht, rfl⟩ := nI_of2 (x := p0) (M := 12) (n := 12) (by decide) hq hq2
        obtain ⟨ow', nw', ol', nl', os', ns', a1, a2, a3⟩ := py_weightAt h8 hc hT hR (pos := py_pl b hs h) (t := t) (seat := j) ht (by omega) hp (nl := nl) hS.1 hS.2
        obtain ⟨w', sp', la', a, z, b1, b2, b3, b4, b5⟩ := py_lay (by omega) h8 hm hT hR (t := t) (pos := py_pl b hs h) (set := py_hd b hs h) ht (by omega) (by omega) w sp la
        rw [a1, b1]
        simp only [zb]
        have h47 := py_m47 (sp := sp') (la := la') b2 (t := t) (s := j) ht (by omega) mt (nI n) (nI (py_pl b hs h)) (nI (py_hd b hs h)) u 256 0 zfuel (by omega) (by unfold zfuel; omega)
        have hsum : fb_sm (fun q => a (8 * q + j)) 256 = py_itC T n t (fun y => if y = j then 1 else 0) (py_pl b hs h) := by
          rw [← py_modsum a j (by omega) 256]
          show py_F 2048 a _ = _
          rw [b4, py_it_mod h8 t (fun y => if y = j then 1 else 0), show (8 * py_hd b hs h + py_pl b hs h) % 8 = py_pl b hs h by omega]
        have hle := py_itC_le hR t 1 (fun y => if y = j then 1 else 0) (fun k => by
          show (if k = j then 1 else 0) ≤ 1
          by_cases e : k = j
          · rw [if_pos e]; exact Nat.le_refl 1
          · rw [if_neg e]; omega) (py_pl b hs h)
        have h10 := py_p10_63 (e := t) (by omega)
        rw [show zf_X9_at_47 mt (nI n) (nI (py_pl b hs h)) (nI (py_hd b hs h)) zfuel w' sp' la' (nI t) (nI j) u 0 0 = _ from h47, hsum, show zf_X8_power (10 : Int64) (nI t) = _ from tp_c (B := 10) (by omega), py_frM u (by omega) (py_p10 t) h10]
        simp only [zb]
        rw [py_frC u (by omega) (py_p10 t) h10]
        exact ⟨_, _, _, _, _, _, _, _, _, _, rfl, rfl, a2, a3⟩
      · rw [if_neg hq2, if_pos (Or.inr (py_nle hq2)), if_pos rfl]
        exact ⟨_, _, _, _, _, _, _, _, _, _, rfl, rfl, hS⟩
  · rw [py_has0 h0, py_isSeat0 (by omega) h8 h0]
    exact ⟨_, _, _, _, _, _, _, _, _, _, rfl, rfl, hS⟩
end PYAT3
