section PYLAY2
variable {n : Nat} {T : Nat → Nat → Nat} {mt : Nat → Int32}
theorem py_it_le (hR : ∀ i, fb_sm (T i) n ≤ 10) : ∀ (t c : Nat) (ψ : Nat → Nat), (∀ k, ψ k ≤ c) → ∀ k, py_it T n t ψ k ≤ c * 10 ^ t
  | 0, c, ψ, h, k => by rw [Nat.pow_zero, Nat.mul_one]; exact h k
  | t + 1, c, ψ, h, k => by
    have := py_it_le hR t (c * 10) (py_PM T n ψ) (fun k => by
      have h1 : py_PM T n ψ k ≤ fb_sm (fun s => T (k % 8) s * c) n := fb_sm_le (fun s _ => Nat.mul_le_mul_left _ (h _))
      have h2 : fb_sm (fun s => T (k % 8) s * c) n = fb_sm (T (k % 8)) n * c := by
        have : ∀ m, fb_sm (fun s => T (k % 8) s * c) m = fb_sm (T (k % 8)) m * c := by
          intro m
          induction m with
          | zero => exact (Nat.zero_mul c).symm
          | succ m ih => rw [fb_sm_succ, fb_sm_succ, ih, Nat.add_mul]
        exact this n
      have h3 : fb_sm (T (k % 8)) n * c ≤ 10 * c := Nat.mul_le_mul_right _ (hR _)
      rw [Nat.mul_comm c 10]
      omega) k
    show py_it T n t (py_PM T n ψ) k ≤ _
    rw [Nat.pow_succ, Nat.mul_comm (10 ^ t) 10, ← Nat.mul_assoc]
    exact this
theorem py_a_le {N : Nat} {a : Nat → Nat} {k : Nat} (hk : k < N) : a k ≤ py_F N a (fun _ => 1) := by
  have := fb_sm_part (fun x => a x * 1) hk
  have e : (fun x => a x * 1) k = a k := Nat.mul_one _
  show a k ≤ fb_sm (fun x => a x * 1) N
  omega
variable (k77 : (Nat → Int64) → (Nat → Int64) → (Nat → Int64) → Int32 → Int32 → Int32 → Option ((Nat → Int64) × (Nat → Int64) × (Nat → Int64)))
theorem py_l277 (sp la : Nat → Int64) (v1 v4 v5 : Int32) : ∀ (d k m : Nat) (w : Nat → Int64), k + d = 2048 → d < m → (∀ x, x < k → w x = sp x) → ∃ w' : Nat → Int64, zf_X9_lay_277 mt (nI n) k77 m w sp la v1 v4 v5 (nI k) = k77 w' sp la v1 v4 (v5 + 1) ∧ ∀ x, x < 2048 → w' x = sp x := by
  intro d
  induction d with
  | zero =>
    intro k m w h1 h2 h
    obtain ⟨q, rfl⟩ : ∃ q, m = q + 1 := ⟨m - 1, by omega⟩
    have : k = 2048 := by omega
    subst this
    refine ⟨w, ?_, h⟩
    show zf_X9_lay_277_b mt (nI n) _ _ _ _ _ _ _ _ _ = _
    unfold zf_X9_lay_277_b
    rw [if_pos (by decide)]
  | succ d ih =>
    intro k m w h1 h2 h
    obtain ⟨q, rfl⟩ : ∃ q, m = q + 1 := ⟨m - 1, by omega⟩
    obtain ⟨w', g1, g2⟩ := ih (k + 1) q (vp_updL w k (sp k)) (by omega) (by omega) (by
      intro x hx
      by_cases e : x = k
      · rw [e, pk_uLs]
      · rw [pk_uLn e]; exact h x (by omega))
    refine ⟨w', ?_, g2⟩
    rw [← g1]
    show zf_X9_lay_277_b mt (nI n) _ _ _ _ _ _ _ _ _ = _
    unfold zf_X9_lay_277_b
    rw [if_neg (show ¬ (2048 : Int32) ≤ nI k from nI_ge (a := k) (b := 2048) (by omega) (by decide)), if_neg (tn_in (by omega) (by decide)), tn_cl (by omega), show nI k + (1 : Int32) = nI (k + 1) from nI_1 k]
theorem py_l111 (w sp : Nat → Int64) (z : Nat → Nat) (v1 v4 v5 : Int32) : ∀ (d k m : Nat) (la : Nat → Int64), k + d = 8 → d < m → (∀ x, x < 8 → la x = lN (if x < k then 10 * z x else z x)) → ∃ la' : Nat → Int64, zf_X9_lay_111 mt (nI n) k77 m w sp la v1 v4 v5 (nI k) = zf_X9_lay_140 mt (nI n) k77 zfuel w sp la' v1 v4 v5 (nI 0) ∧ py_AR la' (fun x => 10 * z x) 8 := by
  intro d
  induction d with
  | zero =>
    intro k m la h1 h2 h
    obtain ⟨q, rfl⟩ : ∃ q, m = q + 1 := ⟨m - 1, by omega⟩
    have : k = 8 := by omega
    subst this
    refine ⟨la, ?_, fun x hx => by rw [h x hx, if_pos hx]⟩
    show zf_X9_lay_111_b mt (nI n) _ _ _ _ _ _ _ _ _ = _
    unfold zf_X9_lay_111_b
    rw [if_pos (by decide)]
    rfl
  | succ d ih =>
    intro k m la h1 h2 h
    obtain ⟨q, rfl⟩ : ∃ q, m = q + 1 := ⟨m - 1, by omega⟩
    obtain ⟨la', g1, g2⟩ := ih (k + 1) q (vp_updL la k (la k * 10)) (by omega) (by omega) (by
      intro x hx
      by_cases e : x = k
      · rw [e, pk_uLs, h k (by omega), if_neg (by omega), if_pos (by omega), show (10 : Int64) = lN 10 from rfl, tl_mul, Nat.mul_comm]
      · rw [pk_uLn e, h x hx]
        by_cases e' : x < k
        · rw [if_pos e', if_pos (by omega)]
        · rw [if_neg e', if_neg (by omega)])
    refine ⟨la', ?_, g2⟩
    rw [← g1]
    show zf_X9_lay_111_b mt (nI n) _ _ _ _ _ _ _ _ _ = _
    unfold zf_X9_lay_111_b
    rw [if_neg (show ¬ (8 : Int32) ≤ nI k from nI_ge (a := k) (b := 8) (by omega) (by decide)), if_neg (tn_in (by omega) (by decide)), tn_cl (by omega), show nI k + (1 : Int32) = nI (k + 1) from nI_1 k]
theorem py_l86 (w la : Nat → Int64) (v1 v4 v5 : Int32) : ∀ (d k m : Nat) (sp : Nat → Int64), k + d = 2048 → d < m → (∀ x, x < k → sp x = 0) → ∃ sp' : Nat → Int64, zf_X9_lay_86 mt (nI n) k77 m w sp la v1 v4 v5 (nI k) = zf_X9_lay_111 mt (nI n) k77 zfuel w sp' la v1 v4 v5 (nI 0) ∧ ∀ x, x < 2048 → sp' x = 0 := by
  intro d
  induction d with
  | zero =>
    intro k m sp h1 h2 h
    obtain ⟨q, rfl⟩ : ∃ q, m = q + 1 := ⟨m - 1, by omega⟩
    have : k = 2048 := by omega
    subst this
    refine ⟨sp, ?_, h⟩
    show zf_X9_lay_86_b mt (nI n) _ _ _ _ _ _ _ _ _ = _
    unfold zf_X9_lay_86_b
    rw [if_pos (by decide)]
    rfl
  | succ d ih =>
    intro k m sp h1 h2 h
    obtain ⟨q, rfl⟩ : ∃ q, m = q + 1 := ⟨m - 1, by omega⟩
    obtain ⟨sp', g1, g2⟩ := ih (k + 1) q (vp_updL sp k 0) (by omega) (by omega) (by
      intro x hx
      by_cases e : x = k
      · rw [e, pk_uLs]
      · rw [pk_uLn e]; exact h x (by omega))
    refine ⟨sp', ?_, g2⟩
    rw [← g1]
    show zf_X9_lay_86_b mt (nI n) _ _ _ _ _ _ _ _ _ = _
    unfold zf_X9_lay_86_b
    rw [if_neg (show ¬ (2048 : Int32) ≤ nI k from nI_ge (a := k) (b := 2048) (by omega) (by decide)), if_neg (tn_in (by omega) (by decide)), tn_cl (by omega), show nI k + (1 : Int32) = nI (k + 1) from nI_1 k]
theorem py_l77 (h1n : 1 ≤ n) (h8 : n ≤ 8) (hm : ∀ i j, i < 8 → j < 8 → mt (8 * i + j) = nI (T i j)) (hT : ∀ i j, T i j ≤ 10) (hR : ∀ i, fb_sm (T i) n ≤ 10) (k0 t : Nat) (ht : t ≤ 12) :
    ∀ (d τ m : Nat) (w sp la : Nat → Int64) (a z : Nat → Nat), τ + d = t → d < m → py_AR w a 2048 → py_AR la z 8 → (∀ ψ, py_F 2048 a ψ = py_it T n τ ψ k0) → (∀ j, j < n → z j = py_z T n k0 τ j) →
      ∃ (w' sp' la' : Nat → Int64) (a' z' : Nat → Nat), zf_X9_lay_77 mt (nI n) m w sp la (nI t) (nI (2 ^ n - 1)) (nI τ) = some (w', sp', la') ∧ py_AR w' a' 2048 ∧ py_AR la' z' 8 ∧ (∀ ψ, py_F 2048 a' ψ = py_it T n t ψ k0) ∧ (∀ j, j < n → z' j = py_z T n k0 t j) := by
  intro d
  induction d with
  | zero =>
    intro τ m w sp la a z h1 h2 hw hl hF hz
    obtain ⟨q, rfl⟩ : ∃ q, m = q + 1 := ⟨m - 1, by omega⟩
    have : τ = t := by omega
    subst this
    refine ⟨w, sp, la, a, z, ?_, hw, hl, hF, hz⟩
    show zf_X9_lay_77_b _ _ _ _ _ _ _ _ _ = _
    unfold zf_X9_lay_77_b
    rw [if_pos ((tn_le (by omega) (by omega)).mpr (by omega))]
  | succ d ih =>
    intro τ m w sp la a z h1 h2 hw hl hF hz
    obtain ⟨q, rfl⟩ : ∃ q, m = q + 1 := ⟨m - 1, by omega⟩
    have ha : ∀ k, k < 2048 → a k < 2 ^ 63 := by
      intro k hk
      have h3 := py_a_le (a := a) hk
      rw [hF] at h3
      have h4 := py_it_le hR τ 1 (fun _ => 1) (fun _ => Nat.le_refl 1) k0
      rw [Nat.one_mul] at h4
      have h5 := py_p10_63 (e := τ) (by omega)
      omega
    obtain ⟨sp1, a1, a2⟩ := py_l86 (mt := mt) (n := n) (zf_X9_lay_77 mt (nI n) q) w la (nI t) (nI (2 ^ n - 1)) (nI τ) 2048 0 zfuel sp (by omega) (by unfold zfuel; omega) (fun x hx => absurd hx (by omega))
    obtain ⟨la1, b1, b2⟩ := py_l111 (mt := mt) (n := n) (zf_X9_lay_77 mt (nI n) q) w sp1 z (nI t) (nI (2 ^ n - 1)) (nI τ) 8 0 zfuel la (by omega) (by unfold zfuel; omega) (fun x hx => by rw [hl x hx, if_neg (by omega)])
    obtain ⟨sp2, la2, c2, z2, c1, c3, c4, c5, c6, c7⟩ := py_l140 h1n h8 hm hT hw ha (zf_X9_lay_77 mt (nI n) q) (nI t) (nI τ) 2048 0 zfuel sp1 la1 (fun _ => 0) (fun x => 10 * z x) (by omega) (by unfold zfuel; omega) (fun x hx => a2 x hx) b2
    obtain ⟨w3, d1, d2⟩ := py_l277 (mt := mt) (n := n) (zf_X9_lay_77 mt (nI n) q) sp2 la2 (nI t) (nI (2 ^ n - 1)) (nI τ) 2048 0 zfuel w (by omega) (by unfold zfuel; omega) (fun x hx => absurd hx (by omega))
    have hF2 : ∀ ψ, py_F 2048 c2 ψ = py_it T n (τ + 1) ψ k0 := by
      intro ψ
      have h9 := c5 ψ
      have h10 : py_F 2048 (fun _ => 0) ψ = 0 := by
        unfold py_F
        rw [fb_sm_cong (g := fun _ => 0) (fun k _ => Nat.zero_mul _), fb_sm_const, Nat.mul_zero]
      have h11 : py_F 0 a (py_PM T n ψ) = 0 := rfl
      have h12 := hF (py_PM T n ψ)
      show _ = py_it T n τ (py_PM T n ψ) k0
      omega
    have hz2 : ∀ j, j < n → z2 j = py_z T n k0 (τ + 1) j := by
      intro j hj
      have h9 := c6 j hj
      have h11 : py_F 0 a (py_ch T n j) = 0 := rfl
      have h12 := hF (py_ch T n j)
      have h13 := hz j hj
      show _ = 10 * py_z T n k0 τ j + py_it T n τ (py_ch T n j) k0
      rw [← h13]
      have h14 : (fun x => 10 * z x) j = 10 * z j := rfl
      omega
    obtain ⟨w', sp', la', a', z', e1, e2⟩ := ih (τ + 1) q w3 sp2 la2 c2 z2 (by omega) (by omega) (fun x hx => by rw [d2 x hx, c3 x hx]) c4 hF2 hz2
    refine ⟨w', sp', la', a', z', ?_, e2⟩
    rw [← e1]
    show zf_X9_lay_77_b _ _ _ _ _ _ _ _ _ = _
    unfold zf_X9_lay_77_b
    rw [if_neg (nI_ge (a := τ) (b := t) (by omega) (by omega)), show zf_X9_lay_86 mt (nI n) (zf_X9_lay_77 mt (nI n) q) zfuel w sp la (nI t) (nI (2 ^ n - 1)) (nI τ) 0 = _ from a1, b1, c1, show zf_X9_lay_277 mt (nI n) (zf_X9_lay_77 mt (nI n) q) zfuel w sp2 la2 (nI t) (nI (2 ^ n - 1)) (nI τ) 0 = _ from d1, show nI τ + (1 : Int32) = nI (τ + 1) from nI_1 τ]
theorem py_l53 (w sp : Nat → Int64) (v1 v4 : Int32) : ∀ (d k m : Nat) (la : Nat → Int64), k + d = 8 → d < m → (∀ x, x < k → la x = 0) → ∃ la' : Nat → Int64, zf_X9_lay_53 mt (nI n) m w sp la v1 v4 (nI k) = zf_X9_lay_77 mt (nI n) zfuel w sp la' v1 v4 (nI 0) ∧ ∀ x, x < 8 → la' x = 0 := by
  intro d
  induction d with
  | zero =>
    intro k m la h1 h2 h
    obtain ⟨q, rfl⟩ : ∃ q, m = q + 1 := ⟨m - 1, by omega⟩
    have : k = 8 := by omega
    subst this
    refine ⟨la, ?_, h⟩
    show zf_X9_lay_53_b _ _ _ _ _ _ _ _ _ = _
    unfold zf_X9_lay_53_b
    rw [if_pos (by decide)]
    rfl
  | succ d ih =>
    intro k m la h1 h2 h
    obtain ⟨q, rfl⟩ : ∃ q, m = q + 1 := ⟨m - 1, by omega⟩
    obtain ⟨la', g1, g2⟩ := ih (k + 1) q (vp_updL la k 0) (by omega) (by omega) (by
      intro x hx
      by_cases e : x = k
      · rw [e, pk_uLs]
      · rw [pk_uLn e]; exact h x (by omega))
    refine ⟨la', ?_, g2⟩
    rw [← g1]
    show zf_X9_lay_53_b _ _ _ _ _ _ _ _ _ = _
    unfold zf_X9_lay_53_b
    rw [if_neg (show ¬ (8 : Int32) ≤ nI k from nI_ge (a := k) (b := 8) (by omega) (by decide)), if_neg (tn_in (by omega) (by decide)), tn_cl (by omega), show nI k + (1 : Int32) = nI (k + 1) from nI_1 k]
theorem py_l13 (sp la : Nat → Int64) (v1 v4 : Int32) {pos set : Nat} (hpos : pos < 8) (hset : set < 256) : ∀ (d k m : Nat) (w : Nat → Int64), k + d = 2048 → d < m → (∀ x, x < k → w x = lN (if x = 8 * set + pos then 1 else 0)) → ∃ w' : Nat → Int64, zf_X9_lay_13 mt (nI n) m w sp la v1 (nI pos) (nI set) v4 (nI k) = zf_X9_lay_53 mt (nI n) zfuel w' sp la v1 v4 (nI 0) ∧ py_AR w' (fun x => if x = 8 * set + pos then 1 else 0) 2048 := by
  intro d
  induction d with
  | zero =>
    intro k m w h1 h2 h
    obtain ⟨q, rfl⟩ : ∃ q, m = q + 1 := ⟨m - 1, by omega⟩
    have : k = 2048 := by omega
    subst this
    refine ⟨w, ?_, h⟩
    show zf_X9_lay_13_b _ _ _ _ _ _ _ _ _ _ _ = _
    unfold zf_X9_lay_13_b
    rw [if_pos (by decide)]
    rfl
  | succ d ih =>
    intro k m w h1 h2 h
    obtain ⟨q, rfl⟩ : ∃ q, m = q + 1 := ⟨m - 1, by omega⟩
    obtain ⟨w', g1, g2⟩ := ih (k + 1) q (vp_updL w k (lN (if k = 8 * set + pos then 1 else 0))) (by omega) (by omega) (by
      intro x hx
      by_cases e : x = k
      · rw [e, pk_uLs]
      · rw [pk_uLn e]; exact h x (by omega))
    refine ⟨w', ?_, g2⟩
    rw [← g1]
    show zf_X9_lay_13_b _ _ _ _ _ _ _ _ _ _ _ = _
    unfold zf_X9_lay_13_b zf_X9_lay_43
    rw [if_neg (show ¬ (2048 : Int32) ≤ nI k from nI_ge (a := k) (b := 2048) (by omega) (by decide)), if_neg (tn_in (by omega) (by decide)), if_neg (tn_in (by omega) (by decide)), tn_cl (by omega), show nI k + (1 : Int32) = nI (k + 1) from nI_1 k, show (8 : Int32) * nI set + nI pos = nI (8 * set + pos) from by rw [show (8 : Int32) = nI 8 from rfl, pk_mul, nI_add]]
    by_cases e : k = 8 * set + pos
    · rw [if_pos (by rw [e]), if_pos e]; rfl
    · rw [if_neg (fun z => e ((tn_eq (by omega) (by omega)).mp z)), if_neg e]; rfl
theorem py_lay (h1n : 1 ≤ n) (h8 : n ≤ 8) (hm : ∀ i j, i < 8 → j < 8 → mt (8 * i + j) = nI (T i j)) (hT : ∀ i j, T i j ≤ 10) (hR : ∀ i, fb_sm (T i) n ≤ 10) {t pos set : Nat} (ht : t ≤ 12) (hpos : pos < 8) (hset : set < 256) (w sp la : Nat → Int64) :
    ∃ (w' sp' la' : Nat → Int64) (a z : Nat → Nat), zf_X9_lay (nI t) (nI pos) (nI set) mt (nI n) w sp la = some (w', sp', la') ∧ py_AR w' a 2048 ∧ py_AR la' z 8 ∧ (∀ ψ, py_F 2048 a ψ = py_it T n t ψ (8 * set + pos)) ∧ (∀ j, j < n → z j = py_z T n (8 * set + pos) t j) := by
  obtain ⟨w1, a1, a2⟩ := py_l13 (mt := mt) (n := n) sp la (nI t) (nI (2 ^ n - 1)) hpos hset 2048 0 zfuel w (by omega) (by unfold zfuel; omega) (fun x hx => absurd hx (by omega))
  obtain ⟨la1, b1, b2⟩ := py_l53 (mt := mt) (n := n) w1 sp (nI t) (nI (2 ^ n - 1)) 8 0 zfuel la (by omega) (by unfold zfuel; omega) (fun x hx => absurd hx (by omega))
  obtain ⟨w', sp', la', a', z', e1, e2⟩ := py_l77 h1n h8 hm hT hR (8 * set + pos) t ht t 0 zfuel w1 sp la1 _ (fun _ => 0) (by omega) (by unfold zfuel; omega) a2 (fun x hx => b2 x hx) (fun ψ => by
    unfold py_F
    have : fb_sm (fun x => (if x = 8 * set + pos then 1 else 0) * ψ x) 2048 = fb_sm (fun x => if x = 8 * set + pos then ψ (8 * set + pos) else 0) 2048 := fb_sm_cong (fun x _ => by
      by_cases e : x = 8 * set + pos
      · rw [if_pos e, if_pos e, e, Nat.one_mul]
      · rw [if_neg e, if_neg e, Nat.zero_mul])
    rw [this, py_sm_one (by omega)]
    rfl) (fun j _ => rfl)
  refine ⟨w', sp', la', a', z', ?_, e2⟩
  unfold zf_X9_lay
  rw [py_all h8, show zf_X9_lay_13 mt (nI n) zfuel w sp la (nI t) (nI pos) (nI set) (nI (2 ^ n - 1)) 0 = _ from a1, b1, e1]
end PYLAY2
