/-! ===== the reference's lay: weights of (who had it, where it is) ===== -/
def py_F (N : Nat) (a ψ : Nat → Nat) : Nat := fb_sm (fun x => a x * ψ x) N
def py_AR (w : Nat → Int64) (a : Nat → Nat) (N : Nat) : Prop := ∀ x, x < N → w x = lN (a x)
def py_PM (T : Nat → Nat → Nat) (n : Nat) (ψ : Nat → Nat) (k : Nat) : Nat := fb_sm (fun s => T (k % 8) s * ψ (8 * (k / 8 ||| 2 ^ s) + s)) n
def py_it (T : Nat → Nat → Nat) (n : Nat) : Nat → (Nat → Nat) → Nat → Nat
  | 0, ψ => ψ
  | t + 1, ψ => py_it T n t (py_PM T n ψ)
/-- by that hand all have had it, and a seat was the last -/
def py_ch (T : Nat → Nat → Nat) (n j k : Nat) : Nat := T (k % 8) j * (if k / 8 ||| 2 ^ j = 2 ^ n - 1 ∧ ¬ k / 8 = 2 ^ n - 1 then 1 else 0)
def py_z (T : Nat → Nat → Nat) (n k0 : Nat) : Nat → Nat → Nat
  | 0, _ => 0
  | t + 1, j => 10 * py_z T n k0 t j + py_it T n t (py_ch T n j) k0
theorem py_F_upd {N x X : Nat} {a : Nat → Nat} (hx : x < N) (ψ : Nat → Nat) : py_F N (fun y => if y = x then a x + X else a y) ψ = py_F N a ψ + X * ψ x := by
  unfold py_F
  have e : fb_sm (fun y => (if y = x then a x + X else a y) * ψ y) N = fb_sm (fun y => if y = x then (a x + X) * ψ x else a y * ψ y) N := fb_sm_cong (fun y hy => by
    by_cases q : y = x
    · rw [if_pos q, if_pos q, q]
    · rw [if_neg q, if_neg q])
  rw [e]
  have h9 := fb_sm_upd (fun y => a y * ψ y) ((a x + X) * ψ x) hx
  have h11 : (a x + X) * ψ x = a x * ψ x + X * ψ x := Nat.add_mul _ _ _
  have h12 : (fun y => a y * ψ y) x = a x * ψ x := rfl
  omega
theorem py_AR_upd {w : Nat → Int64} {a : Nat → Nat} {N x X : Nat} (h : py_AR w a N) (hx : x < N) : py_AR (vp_updL w x (w x + lN X)) (fun y => if y = x then a x + X else a y) N := by
  intro y hy
  show _ = lN (if y = x then a x + X else a y)
  by_cases e : y = x
  · rw [if_pos e, e, pk_uLs, h x hx, tl_add]
  · rw [if_neg e, pk_uLn e, h y hy]
section PYLAY
variable {n : Nat} {T : Nat → Nat → Nat} {mt : Nat → Int32}
theorem py_l151 (h8 : n ≤ 8) (hm : ∀ i j, i < 8 → j < 8 → mt (8 * i + j) = nI (T i j)) (hT : ∀ i j, T i j ≤ 10) {w : Nat → Int64} {a : Nat → Nat} (hw : py_AR w a 2048) {k : Nat} (hk : k < 2048) (ha : 0 < a k) (ha2 : a k < 2 ^ 63) (k77 : (Nat → Int64) → (Nat → Int64) → (Nat → Int64) → Int32 → Int32 → Int32 → Option ((Nat → Int64) × (Nat → Int64) × (Nat → Int64))) (k140 : (Nat → Int64) → (Nat → Int64) → (Nat → Int64) → Int32 → Int32 → Int32 → Int32 → Option ((Nat → Int64) × (Nat → Int64) × (Nat → Int64))) (v1 v5 : Int32) :
    ∀ (d s m : Nat) (sp la : Nat → Int64) (c z : Nat → Nat), s + d = n → d < m → py_AR sp c 2048 → py_AR la z 8 → ∃ (sp' la' : Nat → Int64) (c' z' : Nat → Nat), zf_X9_lay_151 mt (nI n) k77 k140 m w sp la v1 (nI (2 ^ n - 1)) v5 (nI k) (nI s) = k140 w sp' la' v1 (nI (2 ^ n - 1)) v5 (nI (k + 1)) ∧ py_AR sp' c' 2048 ∧ py_AR la' z' 8 ∧
      (∀ ψ, py_F 2048 c' ψ + a k * fb_sm (fun s => T (k % 8) s * ψ (8 * (k / 8 ||| 2 ^ s) + s)) s = py_F 2048 c ψ + a k * py_PM T n ψ k) ∧ (∀ j, j < 8 → z' j = z j + if s ≤ j ∧ j < n then a k * py_ch T n j k else 0) := by
  have hp8 := py_pow8 h8
  intro d
  induction d with
  | zero =>
    intro s m sp la c z h1 h2 hsp hla
    obtain ⟨q, rfl⟩ : ∃ q, m = q + 1 := ⟨m - 1, by omega⟩
    refine ⟨sp, la, c, z, ?_, hsp, hla, fun ψ => ?_, fun j hj => ?_⟩
    · show zf_X9_lay_151_b _ _ k77 _ _ _ _ _ _ _ _ _ _ = _
      unfold zf_X9_lay_151_b zf_X9_lay_268
      rw [if_pos ((tn_le (by omega) (by omega)).mpr (by omega)), show nI k + (1 : Int32) = nI (k + 1) from nI_1 k]
    · have : s = n := by omega
      subst this
      rfl
    · rw [if_neg (by omega), Nat.add_zero]
  | succ d ih =>
    intro s m sp la c z h1 h2 hsp hla
    obtain ⟨q, rfl⟩ : ∃ q, m = q + 1 := ⟨m - 1, by omega⟩
    have hkd : k / 8 < 2 ^ 8 := by omega
    have hor : k / 8 ||| 2 ^ s < 2 ^ 8 := Nat.or_lt_two_pow hkd (Nat.pow_lt_pow_right (by decide) (by omega))
    have hTs := hT (k % 8) s
    have e1 : nI k - nI k / (8 : Int32) * (8 : Int32) = nI (k % 8) := pk_rem (a := k) (d := 8) (by omega) (by decide) (by decide)
    have e2 : nI k / (8 : Int32) = nI (k / 8) := pk_div (a := k) (d := 8) (by omega) (by decide) (by decide)
    have e1' : nI k - nI (k / 8) * (8 : Int32) = nI (k % 8) := by rw [← e2]; exact e1
    have e3 : (8 : Int32) * nI (k % 8) + nI s = nI (8 * (k % 8) + s) := by rw [show (8 : Int32) = nI 8 from rfl, pk_mul, nI_add]
    have e4 : nI (k / 8) ||| ((1 : Int32) <<< (nI s &&& 31)) = nI (k / 8 ||| 2 ^ s) := by rw [tb_sh s (by omega), fa_or]
    have e5 : (8 : Int32) * nI (k / 8 ||| 2 ^ s) + nI s = nI (8 * (k / 8 ||| 2 ^ s) + s) := by rw [show (8 : Int32) = nI 8 from rfl, pk_mul, nI_add]
    have hx : 8 * (k / 8 ||| 2 ^ s) + s < 2048 := by omega
    have ew : w k * (mt (8 * (k % 8) + s)).toInt64 = lN (a k * T (k % 8) s) := by rw [hw k hk, hm _ s (by omega) (by omega), tl_i (by omega), tl_mul]
    have hpos : ¬ lg_cmp (w k) 0 ≤ 0 := by rw [tl_cmp_le, hw k hk]; exact fun z => z ((tl_pos ha2).mpr ha)
    -- one hand
    have hsp' := py_AR_upd (X := a k * T (k % 8) s) hsp hx
    have hla' : ∀ X : Nat, py_AR (vp_updL la s (la s + lN X)) (fun y => if y = s then z s + X else z y) 8 := fun X => py_AR_upd hla (by omega)
    have A : ∀ X : Nat, X = a k * py_ch T n s k → ∃ (sp' la' : Nat → Int64) (c' z' : Nat → Nat), zf_X9_lay_151 mt (nI n) k77 k140 q w (vp_updL sp (8 * (k / 8 ||| 2 ^ s) + s) (sp (8 * (k / 8 ||| 2 ^ s) + s) + lN (a k * T (k % 8) s))) (vp_updL la s (la s + lN X)) v1 (nI (2 ^ n - 1)) v5 (nI k) (nI (s + 1)) = k140 w sp' la' v1 (nI (2 ^ n - 1)) v5 (nI (k + 1)) ∧ py_AR sp' c' 2048 ∧ py_AR la' z' 8 ∧
      (∀ ψ, py_F 2048 c' ψ + a k * fb_sm (fun s => T (k % 8) s * ψ (8 * (k / 8 ||| 2 ^ s) + s)) s = py_F 2048 c ψ + a k * py_PM T n ψ k) ∧ (∀ j, j < 8 → z' j = z j + if s ≤ j ∧ j < n then a k * py_ch T n j k else 0) := by
      intro X hX
      obtain ⟨sp', la', c', z', g1, g2, g3, g4, g5⟩ := ih (s + 1) q _ _ _ _ (by omega) (by omega) hsp' (hla' X)
      refine ⟨sp', la', c', z', g1, g2, g3, fun ψ => ?_, fun j hj => ?_⟩
      · have h9 := g4 ψ
        rw [py_F_upd hx, fb_sm_succ, Nat.mul_add] at h9
        have h10 : a k * (T (k % 8) s * ψ (8 * (k / 8 ||| 2 ^ s) + s)) = a k * T (k % 8) s * ψ (8 * (k / 8 ||| 2 ^ s) + s) := (Nat.mul_assoc _ _ _).symm
        omega
      · rw [g5 j hj]
        show (if j = s then z s + X else z j) + _ = _
        by_cases e : j = s
        · subst e
          rw [if_pos rfl, if_neg (by omega), if_pos (by omega), hX, Nat.add_zero]
        · rw [if_neg e]
          by_cases e' : s ≤ j ∧ j < n
          · rw [if_pos e', if_pos (by omega)]
          · rw [if_neg e', if_neg (by omega)]
    have hins : ¬ (nI s < 0 ∨ 8 ≤ s) := tn_in' (by omega) (by decide)
    have hs1 : nI s + (1 : Int32) = nI (s + 1) := nI_1 s
    show ∃ (sp' la' : Nat → Int64) (c' z' : Nat → Nat), zf_X9_lay_151_b _ _ k77 _ _ _ _ _ _ _ _ _ _ = _ ∧ _
    unfold zf_X9_lay_151_b zf_X9_lay_259 zf_X9_lay_260
    simp only [if_neg (nI_ge (a := s) (b := n) (by omega) (by omega)), e2, e1', e3, e4, e5, tn_cl (a := k) (by omega), tn_cl (a := s) (by omega), tn_cl (a := 8 * (k % 8) + s) (by omega), tn_cl (a := 8 * (k / 8 ||| 2 ^ s) + s) (by omega),
      if_neg (tn_in' (a := k) (N := 2048) (by omega) (by decide)), if_neg hpos, if_neg (tn_in' (a := 8 * (k % 8) + s) (N := 64) (by omega) (by decide)), if_neg (tn_in' (a := 8 * (k / 8 ||| 2 ^ s) + s) (N := 2048) hx (by decide)), if_neg hins, ew, hs1]
    by_cases hA : k / 8 ||| 2 ^ s = 2 ^ n - 1
    · rw [if_pos (show nI (k / 8 ||| 2 ^ s) = nI (2 ^ n - 1) by rw [hA])]
      by_cases hB : k / 8 = 2 ^ n - 1
      · rw [if_pos (show nI (k / 8) = nI (2 ^ n - 1) by rw [hB])]
        exact A 0 (by unfold py_ch; rw [if_neg (fun z => z.2 hB), Nat.mul_zero, Nat.mul_zero])
      · rw [if_neg (fun z => hB ((tn_eq (by omega) (by omega)).mp z))]
        exact A (a k * T (k % 8) s) (by unfold py_ch; rw [if_pos ⟨hA, hB⟩, Nat.mul_one])
    · rw [if_neg (fun z => hA ((tn_eq (by omega) (by omega)).mp z))]
      exact A 0 (by unfold py_ch; rw [if_neg (fun z => hA z.1), Nat.mul_zero, Nat.mul_zero])
theorem py_l140 (h1n : 1 ≤ n) (h8 : n ≤ 8) (hm : ∀ i j, i < 8 → j < 8 → mt (8 * i + j) = nI (T i j)) (hT : ∀ i j, T i j ≤ 10) {w : Nat → Int64} {a : Nat → Nat} (hw : py_AR w a 2048) (ha2 : ∀ k, k < 2048 → a k < 2 ^ 63) (k77 : (Nat → Int64) → (Nat → Int64) → (Nat → Int64) → Int32 → Int32 → Int32 → Option ((Nat → Int64) × (Nat → Int64) × (Nat → Int64))) (v1 v5 : Int32) :
    ∀ (d k m : Nat) (sp la : Nat → Int64) (c z : Nat → Nat), k + d = 2048 → d < m → py_AR sp c 2048 → py_AR la z 8 → ∃ (sp' la' : Nat → Int64) (c' z' : Nat → Nat), zf_X9_lay_140 mt (nI n) k77 m w sp la v1 (nI (2 ^ n - 1)) v5 (nI k) = zf_X9_lay_277 mt (nI n) k77 zfuel w sp' la' v1 (nI (2 ^ n - 1)) v5 0 ∧ py_AR sp' c' 2048 ∧ py_AR la' z' 8 ∧
      (∀ ψ, py_F 2048 c' ψ + py_F k a (py_PM T n ψ) = py_F 2048 c ψ + py_F 2048 a (py_PM T n ψ)) ∧ (∀ j, j < n → z' j + py_F k a (py_ch T n j) = z j + py_F 2048 a (py_ch T n j)) ∧ (∀ j, n ≤ j → j < 8 → z' j = z j) := by
  intro d
  induction d with
  | zero =>
    intro k m sp la c z h1 h2 hsp hla
    obtain ⟨q, rfl⟩ : ∃ q, m = q + 1 := ⟨m - 1, by omega⟩
    have : k = 2048 := by omega
    subst this
    refine ⟨sp, la, c, z, ?_, hsp, hla, fun ψ => rfl, fun j hj => rfl, fun j _ _ => rfl⟩
    show zf_X9_lay_140_b _ _ _ _ _ _ _ _ _ _ _ = _
    unfold zf_X9_lay_140_b
    rw [if_pos (by decide)]
  | succ d ih =>
    intro k m sp la c z h1 h2 hsp hla
    obtain ⟨q, rfl⟩ : ∃ q, m = q + 1 := ⟨m - 1, by omega⟩
    have hpre : zf_X9_lay_140 mt (nI n) k77 (q + 1) w sp la v1 (nI (2 ^ n - 1)) v5 (nI k) = zf_X9_lay_151 mt (nI n) k77 (zf_X9_lay_140 mt (nI n) k77 q) zfuel w sp la v1 (nI (2 ^ n - 1)) v5 (nI k) (nI 0) := by
      show zf_X9_lay_140_b _ _ _ _ _ _ _ _ _ _ _ = _
      unfold zf_X9_lay_140_b
      rw [if_neg (show ¬ (2048 : Int32) ≤ nI k from nI_ge (a := k) (b := 2048) (by omega) (by decide))]
      rfl
    by_cases h0 : a k = 0
    · obtain ⟨sp', la', c', z', g1, g2, g3, g4, g5, g6⟩ := ih (k + 1) q sp la c z (by omega) (by omega) hsp hla
      refine ⟨sp', la', c', z', ?_, g2, g3, fun ψ => ?_, fun j hj => ?_, g6⟩
      · rw [hpre, ← g1]
        obtain ⟨f, hf⟩ : ∃ f, zfuel = f + 1 := ⟨2999, rfl⟩
        rw [hf]
        show zf_X9_lay_151_b _ _ k77 _ _ _ _ _ _ _ _ _ _ = _
        unfold zf_X9_lay_151_b zf_X9_lay_268
        rw [if_neg (nI_ge (a := 0) (b := n) (by omega) (by omega)), if_neg (tn_in (by omega) (by decide)), tn_cl (by omega), if_pos (by rw [tl_cmp_le, hw k (by omega), h0]; decide), show nI k + (1 : Int32) = nI (k + 1) from nI_1 k]
      · have h9 := g4 ψ
        have h11 : py_F (k + 1) a (py_PM T n ψ) = py_F k a (py_PM T n ψ) + a k * py_PM T n ψ k := fb_sm_succ _ _
        rw [h0, Nat.zero_mul] at h11
        omega
      · have h9 := g5 j hj
        have h11 : py_F (k + 1) a (py_ch T n j) = py_F k a (py_ch T n j) + a k * py_ch T n j k := fb_sm_succ _ _
        rw [h0, Nat.zero_mul] at h11
        omega
    · obtain ⟨sp1, la1, c1, z1, b1, b2, b3, b4, b5⟩ := py_l151 h8 hm hT hw (k := k) (by omega) (by omega) (ha2 k (by omega)) k77 (zf_X9_lay_140 mt (nI n) k77 q) v1 v5 n 0 zfuel sp la c z (by omega) (by unfold zfuel; omega) hsp hla
      obtain ⟨sp', la', c', z', g1, g2, g3, g4, g5, g6⟩ := ih (k + 1) q sp1 la1 c1 z1 (by omega) (by omega) b2 b3
      refine ⟨sp', la', c', z', ?_, g2, g3, fun ψ => ?_, fun j hj => ?_, fun j h5 h6 => ?_⟩
      · rw [hpre, b1, g1]
      · have h9 := g4 ψ
        have h10 := b4 ψ
        have h11 : py_F (k + 1) a (py_PM T n ψ) = py_F k a (py_PM T n ψ) + a k * py_PM T n ψ k := fb_sm_succ _ _
        have h12 : a k * fb_sm (fun s => T (k % 8) s * ψ (8 * (k / 8 ||| 2 ^ s) + s)) 0 = 0 := Nat.mul_zero _
        omega
      · have h9 := g5 j hj
        have h10 := b5 j (by omega)
        rw [if_pos ⟨by omega, hj⟩] at h10
        have h11 : py_F (k + 1) a (py_ch T n j) = py_F k a (py_ch T n j) + a k * py_ch T n j k := fb_sm_succ _ _
        omega
      · rw [g6 j h5 h6, b5 j h6, if_neg (by omega), Nat.add_zero]
end PYLAY
