/-! ===== who is last ===== -/
theorem py_orA : ∀ n, n < 9 → ∀ s, s < n → (2 ^ n - 1) ||| 2 ^ s = 2 ^ n - 1 := by decide
/-- naught where all have had it -/
def py_van (n : Nat) (φ : Nat → Nat) : Prop := ∀ k, k / 8 = 2 ^ n - 1 → φ k = 0
def py_nu (n : Nat) (k : Nat) : Nat := if k / 8 = 2 ^ n - 1 then 0 else 1
theorem py_nu_van (n : Nat) : py_van n (py_nu n) := fun k h => if_pos h
theorem py_ch_van (T : Nat → Nat → Nat) (n j : Nat) : py_van n (py_ch T n j) := fun k h => by unfold py_ch; rw [if_neg (fun z => z.2 h), Nat.mul_zero]
theorem py_PM_van {n : Nat} (T : Nat → Nat → Nat) (h8 : n ≤ 8) {φ : Nat → Nat} (h : py_van n φ) : py_van n (py_PM T n φ) := by
  intro k hk
  unfold py_PM
  have : fb_sm (fun s => T (k % 8) s * φ (8 * (k / 8 ||| 2 ^ s) + s)) n = fb_sm (fun _ => 0) n := fb_sm_cong (fun s hs => by
    rw [hk, py_orA n (by omega) s hs, h (8 * (2 ^ n - 1) + s) (by omega), Nat.mul_zero])
  rw [this, fb_sm_const, Nat.mul_zero]
theorem py_it_van {n : Nat} (T : Nat → Nat → Nat) (h8 : n ≤ 8) : ∀ (t : Nat) (φ : Nat → Nat), py_van n φ → ∀ k, k / 8 = 2 ^ n - 1 → py_it T n t φ k = 0
  | 0, φ, h, k, hk => h k hk
  | t + 1, φ, h, k, hk => py_it_van T h8 t (py_PM T n φ) (py_PM_van T h8 h) k hk
theorem py_z_full {n : Nat} (T : Nat → Nat → Nat) (h8 : n ≤ 8) {k0 : Nat} (hk : k0 / 8 = 2 ^ n - 1) : ∀ t j, py_z T n k0 t j = 0
  | 0, _ => rfl
  | t + 1, j => by
    show 10 * py_z T n k0 t j + py_it T n t (py_ch T n j) k0 = 0
    rw [py_z_full T h8 hk t j, py_it_van T h8 t _ (py_ch_van T n j) k0 hk]
section PYH
variable {n : Nat} {T : Nat → Nat → Nat} {ct : Nat → Int32}
theorem py_h25 (h8 : n ≤ 8) (hc : ∀ i j, i < 8 → j < 8 → ct (8 * i + j) = nI (T i j)) (hT : ∀ i j, T i j ≤ 10) {M : Nat} (hM : M < 2 ^ 63) (ow : Nat → Int64) {k R W : Nat} (hk : k < 2048) (hkn : k % 8 < n) (hkA : ¬ k / 8 = 2 ^ n - 1) :
    ∀ (d s m : Nat) (lw nw : Nat → Int64) (nl : Nat → Int32) (ns : Int32) (kk : Nat) (L g c : Nat → Nat), s + d = n → d < m → py_SP nw nl ns kk L g → (∀ j, j < kk → L j % 8 < n ∧ ¬ L j / 8 = 2 ^ n - 1) → py_AR lw c 8 → py_E kk L g (fun _ => 1) + W * fb_sm (T (k % 8)) n ≤ M + W * fb_sm (T (k % 8)) s →
    ∃ (lw' nw' : Nat → Int64) (nl' : Nat → Int32) (ns' : Int32) (kk' : Nat) (L' g' c' : Nat → Nat), zf_X0_handOn_25 ow ct (nI n) m lw nw nl ns (lN R) (nI (k / 8)) (nI (k % 8)) (lN W) (nI s) = some (lw', nw', nl', ns') ∧ py_SP nw' nl' ns' kk' L' g' ∧ (∀ j, j < kk' → L' j % 8 < n ∧ ¬ L' j / 8 = 2 ^ n - 1) ∧ py_AR lw' c' 8 ∧
      (∀ φ, py_van n φ → py_E kk' L' g' φ + W * fb_sm (fun s => T (k % 8) s * φ (8 * (k / 8 ||| 2 ^ s) + s)) s = py_E kk L g φ + W * py_PM T n φ k) ∧ (∀ j, j < 8 → c' j = c j + if s ≤ j ∧ j < n then W * py_ch T n j k * R else 0) ∧ py_E kk' L' g' (fun _ => 1) ≤ py_E kk L g (fun _ => 1) + W * fb_sm (fun j => T (k % 8) (s + j)) d := by
  have hp8 := py_pow8 h8
  intro d
  induction d with
  | zero =>
    intro s m lw nw nl ns kk L g c h1 h2 hS hL hl hE
    obtain ⟨q, rfl⟩ : ∃ q, m = q + 1 := ⟨m - 1, by omega⟩
    have : s = n := by omega
    subst this
    refine ⟨lw, nw, nl, ns, kk, L, g, c, ?_, hS, hL, hl, fun φ _ => rfl, fun j hj => by rw [if_neg (by omega), Nat.add_zero], Nat.le_add_right _ _⟩
    show zf_X0_handOn_25_b ow _ _ _ _ _ _ _ _ _ _ _ _ = _
    unfold zf_X0_handOn_25_b
    rw [if_pos ((tn_le (by omega) (by omega)).mpr (by omega))]
  | succ d ih =>
    intro s m lw nw nl ns kk L g c h1 h2 hS hL hl hE
    obtain ⟨q, rfl⟩ : ∃ q, m = q + 1 := ⟨m - 1, by omega⟩
    have hTs := hT (k % 8) s
    have hp := fb_sm_part (T (k % 8)) (show s < n by omega)
    have hpW : W * fb_sm (T (k % 8)) s + W * T (k % 8) s ≤ W * fb_sm (T (k % 8)) n := by rw [← Nat.mul_add]; exact Nat.mul_le_mul_left _ hp
    have hkd : k / 8 < 2 ^ 8 := by omega
    have hor : k / 8 ||| 2 ^ s < 2 ^ 8 := Nat.or_lt_two_pow hkd (Nat.pow_lt_pow_right (by decide) (by omega))
    have e4 : nI (k / 8) ||| ((1 : Int32) <<< (nI s &&& 31)) = nI (k / 8 ||| 2 ^ s) := by rw [tb_sh s (by omega), fa_or]
    have e5 : nI (k / 8 ||| 2 ^ s) * (8 : Int32) + nI s = nI (8 * (k / 8 ||| 2 ^ s) + s) := by rw [show (8 : Int32) = nI 8 from rfl, pk_mul, nI_add, Nat.mul_comm]
    have hsplit : fb_sm (fun j => T (k % 8) (s + j)) (d + 1) = T (k % 8) s + fb_sm (fun j => T (k % 8) (s + 1 + j)) d := by
      have := fb_sm_split (fun j => T (k % 8) (s + j)) 1 d
      rw [show 1 + d = d + 1 by omega] at this
      rw [this]
      congr 1
      · show 0 + T (k % 8) (s + 0) = _; rw [Nat.zero_add, Nat.add_zero]
      · refine fb_sm_cong (fun j _ => ?_)
        show T (k % 8) (s + (1 + j)) = _
        rw [show s + (1 + j) = s + 1 + j by omega]
    have hsplitW : W * fb_sm (fun j => T (k % 8) (s + j)) (d + 1) = W * T (k % 8) s + W * fb_sm (fun j => T (k % 8) (s + 1 + j)) d := by rw [hsplit, Nat.mul_add]
    show ∃ (lw' nw' : Nat → Int64) (nl' : Nat → Int32) (ns' : Int32) (kk' : Nat) (L' g' c' : Nat → Nat), zf_X0_handOn_25_b ow _ _ _ _ _ _ _ _ _ _ _ _ = _ ∧ _
    unfold zf_X0_handOn_25_b zf_X0_handOn_107
    rw [if_neg (nI_ge (a := s) (b := n) (by omega) (by omega)), if_neg (show ¬ (8 : Int32) ≤ nI s from nI_ge (a := s) (b := 8) (by omega) (by decide)), py_ten h8 hc hkn (by omega), py_allBits h8]
    simp only [zb]
    rw [e4, e5, tl_i (by omega), tl_mul, show nI s + (1 : Int32) = nI (s + 1) from nI_1 s]
    by_cases hA : k / 8 ||| 2 ^ s = 2 ^ n - 1
    · rw [if_pos (by rw [hA]), if_neg (tn_in (by omega) (by decide)), tn_cl (by omega), tl_mul]
      have hl' := py_AR_upd (X := W * T (k % 8) s * R) hl (show s < 8 by omega)
      obtain ⟨lw2, w2, l2, s2, k2, L2, g2, c2, b1, b2, b3, b4, b5, b6, b7⟩ := ih (s + 1) q _ nw nl ns kk L g _ (by omega) (by omega) hS hL hl' (by rw [fb_sm_succ, Nat.mul_add]; omega)
      refine ⟨lw2, w2, l2, s2, k2, L2, g2, c2, b1, b2, b3, b4, fun φ hφ => ?_, fun j hj => ?_, by omega⟩
      · have h9 := b5 φ hφ
        rw [fb_sm_succ, Nat.mul_add, hφ (8 * (k / 8 ||| 2 ^ s) + s) (by omega), Nat.mul_zero, Nat.mul_zero] at h9
        omega
      · rw [b6 j hj]
        show (if j = s then c s + W * T (k % 8) s * R else c j) + _ = _
        by_cases e : j = s
        · subst e
          rw [if_pos rfl, if_neg (by omega), if_pos (by omega), Nat.add_zero]
          unfold py_ch
          rw [if_pos ⟨hA, hkA⟩, Nat.mul_one]
        · rw [if_neg e]
          by_cases e' : s ≤ j ∧ j < n
          · rw [if_pos e', if_pos (by omega)]
          · rw [if_neg e', if_neg (by omega)]
    · rw [if_neg (fun z => hA ((tn_eq (by omega) (by omega)).mp z))]
      obtain ⟨w1, l1, s1, k1, L1, g1, a1, a2, a3, a4⟩ := py_SP_add hS (x := 8 * (k / 8 ||| 2 ^ s) + s) (X := W * T (k % 8) s) (by omega) (by omega)
      have hE1 := a3 (fun _ => 1)
      rw [Nat.mul_one] at hE1
      rw [a1]
      simp only [zb]
      obtain ⟨lw2, w2, l2, s2, k2, L2, g2, c2, b1, b2, b3, b4, b5, b6, b7⟩ := ih (s + 1) q lw w1 l1 s1 k1 L1 g1 c (by omega) (by omega) a2 (a4 (fun y => y % 8 < n ∧ ¬ y / 8 = 2 ^ n - 1) hL (fun _ => ⟨by omega, fun z => hA (by omega)⟩)) hl (by rw [fb_sm_succ, Nat.mul_add]; omega)
      refine ⟨lw2, w2, l2, s2, k2, L2, g2, c2, b1, b2, b3, b4, fun φ hφ => ?_, fun j hj => ?_, by omega⟩
      · have h9 := b5 φ hφ
        have h10 := a3 φ
        rw [fb_sm_succ, Nat.mul_add] at h9
        have h11 : W * (T (k % 8) s * φ (8 * (k / 8 ||| 2 ^ s) + s)) = W * T (k % 8) s * φ (8 * (k / 8 ||| 2 ^ s) + s) := (Nat.mul_assoc _ _ _).symm
        omega
      · rw [b6 j hj]
        by_cases e : j = s
        · subst e
          rw [if_neg (by omega), if_pos (by omega)]
          unfold py_ch
          rw [if_neg (fun z => hA z.1), Nat.mul_zero, Nat.mul_zero, Nat.zero_mul]
        · by_cases e' : s ≤ j ∧ j < n
          · rw [if_pos e', if_pos (by omega)]
          · rw [if_neg e', if_neg (by omega)]
theorem py_handOn (h8 : n ≤ 8) (hc : ∀ i j, i < 8 → j < 8 → ct (8 * i + j) = nI (T i j)) (hT : ∀ i j, T i j ≤ 10) (hR : ∀ i, fb_sm (T i) n ≤ 10) {M : Nat} (hM : M < 2 ^ 63) {ow : Nat → Int64} {ol : Nat → Int32} {os : Int32} {K : Nat} {Lo go : Nat → Nat} (hO : py_SP ow ol os K Lo go) {k R : Nat} (hk : k < 2048) (hkn : k % 8 < n) (hkA : ¬ k / 8 = 2 ^ n - 1)
    {lw nw : Nat → Int64} {nl : Nat → Int32} {ns : Int32} {kk : Nat} {L g c : Nat → Nat} (hS : py_SP nw nl ns kk L g) (hL : ∀ j, j < kk → L j % 8 < n ∧ ¬ L j / 8 = 2 ^ n - 1) (hl : py_AR lw c 8) (hE : py_E kk L g (fun _ => 1) + 10 * go k ≤ M) :
    ∃ (lw' nw' : Nat → Int64) (nl' : Nat → Int32) (ns' : Int32) (kk' : Nat) (L' g' c' : Nat → Nat), zf_X0_handOn (nI k) (lN R) ow ct (nI n) lw nw nl ns = some (lw', nw', nl', ns') ∧ py_SP nw' nl' ns' kk' L' g' ∧ (∀ j, j < kk' → L' j % 8 < n ∧ ¬ L' j / 8 = 2 ^ n - 1) ∧ py_AR lw' c' 8 ∧
      (∀ φ, py_van n φ → py_E kk' L' g' φ = py_E kk L g φ + go k * py_PM T n φ k) ∧ (∀ j, j < n → c' j = c j + go k * py_ch T n j k * R) ∧ py_E kk' L' g' (fun _ => 1) ≤ py_E kk L g (fun _ => 1) + 10 * go k := by
  have hW : go k * fb_sm (T (k % 8)) n ≤ 10 * go k := by rw [Nat.mul_comm 10]; exact Nat.mul_le_mul_left _ (hR _)
  obtain ⟨lw2, w2, l2, s2, k2, L2, g2, c2, b1, b2, b3, b4, b5, b6, b7⟩ := py_h25 h8 hc hT hM ow (k := k) (R := R) (W := go k) hk hkn hkA n 0 zfuel lw nw nl ns kk L g c (by omega) (by unfold zfuel; omega) hS hL hl (by
    have : go k * fb_sm (T (k % 8)) 0 = 0 := Nat.mul_zero _
    omega)
  refine ⟨lw2, w2, l2, s2, k2, L2, g2, c2, ?_, b2, b3, b4, fun φ hφ => ?_, fun j hj => ?_, ?_⟩
  · unfold zf_X0_handOn
    rw [py_weightOf hO hk, show nI k - nI k / (8 : Int32) * (8 : Int32) = nI (k % 8) from pk_rem (a := k) (d := 8) (by omega) (by decide) (by decide), show nI k / (8 : Int32) = nI (k / 8) from pk_div (a := k) (d := 8) (by omega) (by decide) (by decide)]
    exact b1
  · have h9 := b5 φ hφ
    have : go k * fb_sm (fun s => T (k % 8) s * φ (8 * (k / 8 ||| 2 ^ s) + s)) 0 = 0 := Nat.mul_zero _
    omega
  · rw [b6 j (by omega), if_pos ⟨by omega, hj⟩]
  · have e : fb_sm (fun j => T (k % 8) (0 + j)) n = fb_sm (T (k % 8)) n := fb_sm_cong (fun j _ => by rw [Nat.zero_add])
    rw [e] at b7
    omega
end PYH
section PYH2
variable {n : Nat} {T : Nat → Nat → Nat} {ct : Nat → Int32}
theorem py_wl69 (h8 : n ≤ 8) (hc : ∀ i j, i < 8 → j < 8 → ct (8 * i + j) = nI (T i j)) (hT : ∀ i j, T i j ≤ 10) (hR : ∀ i, fb_sm (T i) n ≤ 10) {M : Nat} (hM : M < 2 ^ 63) {ow : Nat → Int64} {ol : Nat → Int32} {os : Int32} {K : Nat} {Lo go : Nat → Nat} (hO : py_SP ow ol os K Lo go) (hLo : ∀ j, j < K → Lo j % 8 < n ∧ ¬ Lo j / 8 = 2 ^ n - 1) {R : Nat} (v4 v5 : Int32)
    (k46 : (Nat → Int64) → (Nat → Int64) → (Nat → Int32) → Int32 → (Nat → Int64) → (Nat → Int32) → Int32 → Int32 → Int32 → Option ((Nat → Int64) × (Nat → Int64) × (Nat → Int32) × Int32 × (Nat → Int64) × (Nat → Int32) × Int32)) :
    ∀ (d y m : Nat) (lw nw : Nat → Int64) (nl : Nat → Int32) (ns : Int32) (k : Nat) (L g c : Nat → Nat), y + d = K → d < m → py_SP nw nl ns k L g → (∀ j, j < k → L j % 8 < n ∧ ¬ L j / 8 = 2 ^ n - 1) → py_AR lw c 8 → py_E k L g (fun _ => 1) + 10 * fb_sm (fun i => go (Lo i)) K ≤ M + 10 * fb_sm (fun i => go (Lo i)) y →
    ∃ (lw' nw' : Nat → Int64) (nl' : Nat → Int32) (ns' : Int32) (k' : Nat) (L' g' c' : Nat → Nat) (cw : Nat → Int64), zf_X0_weighLast_78 ct (nI n) k46 m lw ow ol os nw nl ns v4 v5 (lN R) os (nI y) = k46 lw' nw' nl' ns' cw ol (nI 0) v4 (v5 + 1) ∧ py_SP nw' nl' ns' k' L' g' ∧ (∀ j, j < k' → L' j % 8 < n ∧ ¬ L' j / 8 = 2 ^ n - 1) ∧ py_AR lw' c' 8 ∧ py_NO cw (nI 0) ∧
      (∀ φ, py_van n φ → py_E k' L' g' φ + fb_sm (fun i => go (Lo i) * py_PM T n φ (Lo i)) y = py_E k L g φ + py_E K Lo go (py_PM T n φ)) ∧ (∀ j, j < n → c' j + fb_sm (fun i => go (Lo i) * py_ch T n j (Lo i)) y * R = c j + py_E K Lo go (py_ch T n j) * R) := by
  intro d
  induction d with
  | zero =>
    intro y m lw nw nl ns k L g c h1 h2 hS hL hl hE
    obtain ⟨q, rfl⟩ : ∃ q, m = q + 1 := ⟨m - 1, by omega⟩
    have : y = K := by omega
    subst this
    obtain ⟨cw, c1, c2⟩ := py_stepOn (w2 := nw) (lv2 := nl) (s2 := ns) (py_SP_CL hO)
    refine ⟨lw, nw, nl, ns, k, L, g, c, cw, ?_, hS, hL, hl, c2, fun φ _ => rfl, fun j _ => rfl⟩
    have hK := hO.2.1
    have eK := hO.1
    subst eK
    show zf_X0_weighLast_78_b _ _ _ _ _ _ _ _ _ _ _ _ _ _ _ _ = _
    unfold zf_X0_weighLast_78_b
    rw [if_pos ((tn_le (by omega) (by omega)).mpr (by omega)), c1]
    rfl
  | succ d ih =>
    intro y m lw nw nl ns k L g c h1 h2 hS hL hl hE
    obtain ⟨q, rfl⟩ : ∃ q, m = q + 1 := ⟨m - 1, by omega⟩
    have hK := hO.2.1
    have hx : Lo y < 2048 := (hO.2.2.1 y (by omega)).1
    have hp' : fb_sm (fun i => go (Lo i)) y + go (Lo y) ≤ fb_sm (fun i => go (Lo i)) K := fb_sm_part (fun i => go (Lo i)) (show y < K by omega)
    obtain ⟨lw1, w1, l1, s1, k1, L1, g1, c1, a1, a2, a3, a4, a5, a6, a7⟩ := py_handOn h8 hc hT hR hM hO (k := Lo y) (R := R) hx (hLo y (by omega)).1 (hLo y (by omega)).2 hS hL hl (by omega)
    obtain ⟨lw2, w2, l2, s2, k2, L2, g2, c2, cw, b1, b2, b3, b4, b5, b6, b7⟩ := ih (y + 1) q lw1 w1 l1 s1 k1 L1 g1 c1 (by omega) (by omega) a2 a3 a4 (by rw [fb_sm_succ]; omega)
    refine ⟨lw2, w2, l2, s2, k2, L2, g2, c2, cw, ?_, b2, b3, b4, b5, fun φ hφ => ?_, fun j hj => ?_⟩
    · have eK := hO.1
      show zf_X0_weighLast_78_b _ _ _ _ _ _ _ _ _ _ _ _ _ _ _ _ = _
      unfold zf_X0_weighLast_78_b
      rw [py_stateAt hO (show y < K by omega), eK, if_neg (nI_ge (a := y) (b := K) (by omega) (by omega))]
      simp only [zb]
      rw [a1]
      simp only [zb]
      rw [← eK, show nI y + (1 : Int32) = nI (y + 1) from nI_1 y]
      exact b1
    · have h9 := b6 φ hφ
      have h10 := a5 φ hφ
      rw [fb_sm_succ] at h9
      omega
    · have h9 := b7 j hj
      have h10 := a6 j hj
      rw [fb_sm_succ, Nat.add_mul] at h9
      omega
theorem py_wl46 (h8 : n ≤ 8) (hc : ∀ i j, i < 8 → j < 8 → ct (8 * i + j) = nI (T i j)) (hT : ∀ i j, T i j ≤ 10) (hR : ∀ i, fb_sm (T i) n ≤ 10) {k0 t : Nat} (ht : t ≤ 12) :
    ∀ (d τ m : Nat) (lw ow nw : Nat → Int64) (ol nl : Nat → Int32) (os ns : Int32) (K : Nat) (Lo go c : Nat → Nat), τ + d = t → d < m → py_SP ow ol os K Lo go → (∀ j, j < K → Lo j % 8 < n ∧ ¬ Lo j / 8 = 2 ^ n - 1) → py_NO nw ns → py_AR lw c 8 → (∀ φ, py_van n φ → py_E K Lo go φ = py_it T n τ φ k0) → (∀ j, j < n → c j = 10 ^ (t - τ) * py_z T n k0 τ j) →
    ∃ (lw' ow' nw' : Nat → Int64) (ol' nl' : Nat → Int32) (os' ns' : Int32), zf_X0_weighLast_46 ct (nI n) m lw ow ol os nw nl ns (nI t) (nI (τ + 1)) = some (lw', ow', ol', os', nw', nl', ns') ∧ py_RS ow' ol' os' nw' ns' ∧ (∀ j, j < n → lw' j = lN (py_z T n k0 t j)) := by
  intro d
  induction d with
  | zero =>
    intro τ m lw ow nw ol nl os ns K Lo go c h1 h2 hO hL hN hl hE hcz
    obtain ⟨q, rfl⟩ : ∃ q, m = q + 1 := ⟨m - 1, by omega⟩
    have : τ = t := by omega
    subst this
    refine ⟨lw, ow, nw, ol, nl, os, ns, ?_, ⟨py_SP_CL hO, hN⟩, fun j hj => ?_⟩
    · show zf_X0_weighLast_46_b _ _ _ _ _ _ _ _ _ _ _ _ = _
      unfold zf_X0_weighLast_46_b
      rw [if_pos (nI_lt (by omega) (by omega))]
    · rw [hl j (by omega), hcz j hj, Nat.sub_self, Nat.pow_zero, Nat.one_mul]
  | succ d ih =>
    intro τ m lw ow nw ol nl os ns K Lo go c h1 h2 hO hL hN hl hE hcz
    obtain ⟨q, rfl⟩ : ∃ q, m = q + 1 := ⟨m - 1, by omega⟩
    have hnu : py_E K Lo go (fun _ => 1) = py_E K Lo go (py_nu n) := fb_sm_cong (fun i hi => by unfold py_nu; rw [if_neg (hL i hi).2])
    have hm1 := py_it_le hR τ 1 (py_nu n) (fun k => by unfold py_nu; by_cases e : k / 8 = 2 ^ n - 1 <;> simp [e]) k0
    rw [Nat.one_mul, ← hE _ (py_nu_van n), ← hnu] at hm1
    have hsum : fb_sm (fun i => go (Lo i)) K = py_E K Lo go (fun _ => 1) := fb_sm_cong (fun i _ => (Nat.mul_one _).symm)
    have h10 := py_p10_63 (e := τ + 1) (by omega)
    obtain ⟨lw1, w1, l1, s1, k1, L1, g1, c1, cw, a1, a2, a3, a4, a5, a6, a7⟩ := py_wl69 h8 hc hT hR h10 hO hL (R := 10 ^ (t - (τ + 1))) (nI t) (nI (τ + 1)) (zf_X0_weighLast_46 ct (nI n) q) K 0 zfuel lw nw nl ns 0 (fun _ => 0) (fun _ => 0) c (by omega) (by have := hO.2.1; unfold zfuel; omega) (py_NO_SP hN _) (fun j hj => absurd hj (by omega)) hl (by
      have e1 : py_E 0 (fun _ => 0) (fun _ => 0) (fun _ => 1) = 0 := rfl
      have e2 : fb_sm (fun i => go (Lo i)) 0 = 0 := rfl
      rw [Nat.pow_succ]
      omega)
    obtain ⟨lw', ow', nw', ol', nl', os', ns', b1, b2, b3⟩ := ih (τ + 1) q lw1 w1 cw l1 ol s1 (nI 0) k1 L1 g1 c1 (by omega) (by omega) a2 a3 a5 a4 (fun φ hφ => by
      have h9 := a6 φ hφ
      have e1 : py_E 0 (fun _ => 0) (fun _ => 0) φ = 0 := rfl
      have e2 : fb_sm (fun i => go (Lo i) * py_PM T n φ (Lo i)) 0 = 0 := rfl
      show _ = py_it T n τ (py_PM T n φ) k0
      rw [← hE _ (py_PM_van T h8 hφ)]
      omega) (fun j hj => by
      have h9 := a7 j hj
      have e2 : fb_sm (fun i => go (Lo i) * py_ch T n j (Lo i)) 0 = 0 := rfl
      rw [e2, Nat.zero_mul, Nat.add_zero, hE _ (py_ch_van T n j), hcz j hj] at h9
      show _ = 10 ^ (t - (τ + 1)) * (10 * py_z T n k0 τ j + py_it T n τ (py_ch T n j) k0)
      rw [h9, Nat.mul_add, show t - τ = t - (τ + 1) + 1 by omega, Nat.pow_succ, Nat.mul_assoc, Nat.mul_comm (py_it T n τ (py_ch T n j) k0)])
    refine ⟨lw', ow', nw', ol', nl', os', ns', ?_, b2, b3⟩
    rw [← b1]
    show zf_X0_weighLast_46_b _ _ _ _ _ _ _ _ _ _ _ _ = _
    unfold zf_X0_weighLast_46_b
    rw [if_neg (nI_nlt (a := t) (b := τ + 1) (by omega) (by omega)), pk_sub (by omega), show zf_X8_power (10 : Int64) (nI (t - (τ + 1))) = _ from tp_c (B := 10) (by omega)]
    simp only [zb]
    rw [show zf_X0_weighLast_78 ct (nI n) (zf_X0_weighLast_46 ct (nI n) q) zfuel lw ow ol os nw nl ns (nI t) (nI (τ + 1)) (lN (10 ^ (t - (τ + 1)))) os 0 = _ from a1, show nI (τ + 1) + (1 : Int32) = nI (τ + 1 + 1) from nI_1 _]
theorem py_wl3 (h8 : n ≤ 8) (hc : ∀ i j, i < 8 → j < 8 → ct (8 * i + j) = nI (T i j)) (hT : ∀ i j, T i j ≤ 10) (hR : ∀ i, fb_sm (T i) n ≤ 10) {pos set t : Nat} (ht : t ≤ 12) (hpos : pos < n) (hset : set < 2 ^ n) {ow nw : Nat → Int64} {ol nl : Nat → Int32} {os ns : Int32} (hS : py_RS ow ol os nw ns) :
    ∀ (d y m : Nat) (lw : Nat → Int64), y + d = 8 → d < m → (∀ x, x < y → lw x = 0) →
    ∃ (lw' ow' nw' : Nat → Int64) (ol' nl' : Nat → Int32) (os' ns' : Int32), zf_X0_weighLast_3 ct (nI n) m lw ow ol os nw nl ns (nI pos) (nI set) (nI t) (nI y) = some (lw', ow', ol', os', nw', nl', ns') ∧ py_RS ow' ol' os' nw' ns' ∧ (∀ j, j < n → lw' j = lN (py_z T n (8 * set + pos) t j)) := by
  have hp8 := py_pow8 h8
  intro d
  induction d with
  | zero =>
    intro y m lw h1 h2 h
    obtain ⟨q, rfl⟩ : ∃ q, m = q + 1 := ⟨m - 1, by omega⟩
    have : y = 8 := by omega
    subst this
    show ∃ (lw' ow' nw' : Nat → Int64) (ol' nl' : Nat → Int32) (os' ns' : Int32), zf_X0_weighLast_3_b _ _ _ _ _ _ _ _ _ _ _ _ _ _ = _ ∧ _
    unfold zf_X0_weighLast_3_b
    rw [if_pos (by decide), py_allBits h8]
    simp only [zb]
    by_cases hA : set = 2 ^ n - 1
    · rw [if_pos (by rw [hA])]
      refine ⟨_, _, _, _, _, _, _, rfl, hS, fun j hj => ?_⟩
      rw [h j (by omega), py_z_full T h8 (by omega)]
      rfl
    · rw [if_neg (fun z => hA ((tn_eq (by omega) (by omega)).mp z)), show nI set * (8 : Int32) + nI pos = nI (8 * set + pos) from by rw [show (8 : Int32) = nI 8 from rfl, pk_mul, nI_add, Nat.mul_comm]]
      obtain ⟨w1, l1, s1, k, L, g, a1, a2, a3, a4⟩ := py_startWith hS.1 (x := 8 * set + pos) (by omega)
      rw [a1]
      simp only [zb]
      exact py_wl46 h8 hc hT hR (k0 := 8 * set + pos) ht t 0 zfuel lw w1 nw l1 nl s1 ns k L g (fun _ => 0) (by omega) (by unfold zfuel; omega) a2 (fun j hj => by rw [a4 j hj]; exact ⟨by omega, fun z => hA (by omega)⟩) hS.2 (fun x hx => h x hx) (fun φ _ => a3 φ) (fun j _ => (Nat.mul_zero _).symm)
  | succ d ih =>
    intro y m lw h1 h2 h
    obtain ⟨q, rfl⟩ : ∃ q, m = q + 1 := ⟨m - 1, by omega⟩
    show ∃ (lw' ow' nw' : Nat → Int64) (ol' nl' : Nat → Int32) (os' ns' : Int32), zf_X0_weighLast_3_b _ _ _ _ _ _ _ _ _ _ _ _ _ _ = _ ∧ _
    unfold zf_X0_weighLast_3_b
    rw [if_neg (show ¬ (8 : Int32) ≤ nI y from nI_ge (a := y) (b := 8) (by omega) (by decide)), if_neg (tn_in (by omega) (by decide)), tn_cl (by omega), show nI y + (1 : Int32) = nI (y + 1) from nI_1 y]
    exact ih (y + 1) q _ (by omega) (by omega) (by
      intro x hx
      by_cases e : x = y
      · rw [e, pk_uLs]
      · rw [pk_uLn e]; exact h x (by omega))
theorem py_wl (h8 : n ≤ 8) (hc : ∀ i j, i < 8 → j < 8 → ct (8 * i + j) = nI (T i j)) (hT : ∀ i j, T i j ≤ 10) (hR : ∀ i, fb_sm (T i) n ≤ 10) {pos set t : Nat} (ht : t ≤ 12) (hpos : pos < n) (hset : set < 2 ^ n) {ow nw : Nat → Int64} {ol : Nat → Int32} (nl : Nat → Int32) {os ns : Int32} (hS : py_RS ow ol os nw ns) (lw : Nat → Int64) :
    ∃ (lw' ow' nw' : Nat → Int64) (ol' nl' : Nat → Int32) (os' ns' : Int32), zf_X0_weighLast (nI pos) (nI set) (nI t) ct (nI n) lw ow ol os nw nl ns = some (lw', ow', ol', os', nw', nl', ns') ∧ py_RS ow' ol' os' nw' ns' ∧ (∀ j, j < n → lw' j = lN (py_z T n (8 * set + pos) t j)) :=
  py_wl3 h8 hc hT hR ht hpos hset hS 8 0 zfuel lw (by omega) (by unfold zfuel; omega) (fun x hx => absurd hx (by omega))
end PYH2
