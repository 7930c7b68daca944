/-! ===== two plates ===== -/
theorem py_sm_swap (f : Nat → Nat → Nat) (m : Nat) : ∀ n, fb_sm (fun x => fb_sm (fun y => f x y) m) n = fb_sm (fun y => fb_sm (fun x => f x y) n) m
  | 0 => by
    show 0 = fb_sm (fun _ => 0) m
    rw [fb_sm_const, Nat.mul_zero]
  | n + 1 => by
    rw [fb_sm_succ, py_sm_swap f m n, ← fb_sm_add]
    rfl
theorem py_sm_ext {f : Nat → Nat} {n : Nat} (h : ∀ k, n ≤ k → f k = 0) : ∀ {m : Nat}, n ≤ m → fb_sm f m = fb_sm f n := by
  intro m hm
  rw [show m = n + (m - n) by omega, fb_sm_split, fb_sm_cong (f := fun k => f (n + k)) (g := fun _ => 0) (fun k _ => h _ (by omega)), fb_sm_const, Nat.mul_zero, Nat.add_zero]
theorem py_sm_mull (f : Nat → Nat) (c m : Nat) : fb_sm (fun s => c * f s) m = c * fb_sm f m := by
  rw [Nat.mul_comm, ← py_sm_mulr]
  exact fb_sm_cong (fun s _ => Nat.mul_comm _ _)
theorem py_sm_64 (f : Nat → Nat) : ∀ N, fb_sm f (8 * N) = fb_sm (fun s => fb_sm (fun r => f (8 * s + r)) 8) N
  | 0 => rfl
  | N + 1 => by
    rw [show 8 * (N + 1) = 8 * N + 8 by omega, fb_sm_split, py_sm_64 f N]
    rfl
/-- one hand of both plates from (k / 8, k % 8) -/
def py_g1 (T : Nat → Nat → Nat) (φ : Nat → Nat) (k s r : Nat) : Nat := T (k % 8) r * (if s = r then 0 else φ (8 * s + r))
def py_h1 (T : Nat → Nat → Nat) (k s r : Nat) : Nat := T (k % 8) r * (if s = r then 1 else 0)
def py_GM (T : Nat → Nat → Nat) (n : Nat) (φ : Nat → Nat) (k : Nat) : Nat := fb_sm (fun s => T (k / 8) s * fb_sm (py_g1 T φ k s) n) n
def py_HM (T : Nat → Nat → Nat) (n : Nat) (k : Nat) : Nat := fb_sm (fun s => T (k / 8) s * fb_sm (py_h1 T k s) n) n
def py_iG (T : Nat → Nat → Nat) (n : Nat) : Nat → (Nat → Nat) → Nat → Nat
  | 0, ψ => ψ
  | t + 1, ψ => py_iG T n t (py_GM T n ψ)
def py_mz (T : Nat → Nat → Nat) (n k0 : Nat) : Nat → Nat
  | 0 => 0
  | t + 1 => 100 * py_mz T n k0 t + py_iG T n t (py_HM T n) k0
section PYME
variable {n : Nat} {T : Nat → Nat → Nat}
theorem py_two (hR : ∀ i, fb_sm (T i) n ≤ 10) {c : Nat} {g : Nat → Nat → Nat} (i j : Nat) (hg : ∀ s r, g s r ≤ T j r * c) : fb_sm (fun s => T i s * fb_sm (g s) n) n ≤ c * 100 := by
  have h1 : ∀ s, fb_sm (g s) n ≤ 10 * c := fun s => by
    have := fb_sm_le (f := g s) (g := fun r => T j r * c) (n := n) (fun r _ => hg s r)
    rw [py_sm_mulr] at this
    have h3 : fb_sm (T j) n * c ≤ 10 * c := Nat.mul_le_mul_right _ (hR j)
    exact Nat.le_trans this h3
  have h2 := fb_sm_le (f := fun s => T i s * fb_sm (g s) n) (g := fun s => T i s * (10 * c)) (n := n) (fun s _ => Nat.mul_le_mul_left _ (h1 s))
  rw [py_sm_mulr] at h2
  have h3 : fb_sm (T i) n * (10 * c) ≤ 10 * (10 * c) := Nat.mul_le_mul_right _ (hR i)
  have h4 : fb_sm (fun s => T i s * fb_sm (g s) n) n ≤ fb_sm (fun s => T i s) n * (10 * c) := h2
  have h5 : fb_sm (fun s => T i s) n = fb_sm (T i) n := rfl
  rw [h5] at h4
  omega
theorem py_GM_le (hR : ∀ i, fb_sm (T i) n ≤ 10) {c : Nat} {φ : Nat → Nat} (h : ∀ k, φ k ≤ c) (k : Nat) : py_GM T n φ k ≤ c * 100 := py_two hR (k / 8) (k % 8) (fun s r => by
  unfold py_g1
  refine Nat.mul_le_mul_left _ ?_
  by_cases e : s = r
  · rw [if_pos e]; omega
  · rw [if_neg e]; exact h _)
theorem py_HM_le (hR : ∀ i, fb_sm (T i) n ≤ 10) (k : Nat) : py_HM T n k ≤ 100 := by
  have := py_two (c := 1) hR (k / 8) (k % 8) (g := py_h1 T k) (fun s r => by
    unfold py_h1
    refine Nat.mul_le_mul_left _ ?_
    by_cases e : s = r
    · rw [if_pos e]; omega
    · rw [if_neg e]; omega)
  rw [Nat.one_mul] at this
  exact this
theorem py_iG_le (hR : ∀ i, fb_sm (T i) n ≤ 10) : ∀ (t c : Nat) (ψ : Nat → Nat), (∀ k, ψ k ≤ c) → ∀ k, py_iG T n t ψ k ≤ c * 100 ^ t
  | 0, c, ψ, h, k => by rw [Nat.pow_zero, Nat.mul_one]; exact h k
  | t + 1, c, ψ, h, k => by
    have := py_iG_le hR t (c * 100) (py_GM T n ψ) (fun k => py_GM_le hR h k) k
    show py_iG T n t (py_GM T n ψ) k ≤ _
    rw [Nat.pow_succ, Nat.mul_comm (100 ^ t) 100, ← Nat.mul_assoc]
    exact this
theorem py_mz_le (hR : ∀ i, fb_sm (T i) n ≤ 10) (k0 : Nat) : ∀ t, py_mz T n k0 t ≤ t * 100 ^ t
  | 0 => by show 0 ≤ _; omega
  | t + 1 => by
    have h1 := py_mz_le hR k0 t
    have h2 := py_iG_le hR t 100 (py_HM T n) (py_HM_le hR) k0
    show 100 * py_mz T n k0 t + py_iG T n t (py_HM T n) k0 ≤ (t + 1) * 100 ^ (t + 1)
    have h3 : (t + 1) * 100 ^ (t + 1) = 100 * (t * 100 ^ t) + 100 * 100 ^ t := by
      rw [Nat.pow_succ, Nat.add_mul, Nat.one_mul, Nat.mul_comm (100 ^ t) 100, ← Nat.mul_assoc, ← Nat.mul_assoc, Nat.mul_comm t 100]
    omega
theorem py_p100 : ∀ t, t ≤ 8 → 100 ^ t < 2 ^ 63 ∧ t * 100 ^ t < 2 ^ 63 ∧ 10 * 100 ^ t < 2 ^ 63 := by decide
/-- the same, over all 64 -/
def py_tt (T : Nat → Nat → Nat) (x y : Nat) : Nat := T (x / 8) (y / 8) * T (x % 8) (y % 8)
theorem py_64 (h8 : n ≤ 8) (hz : ∀ i j, n ≤ i ∨ n ≤ j → T i j = 0) (k : Nat) (f : Nat → Nat → Nat) : fb_sm (fun y => py_tt T k y * f (y / 8) (y % 8)) 64 = fb_sm (fun s => T (k / 8) s * fb_sm (fun r => T (k % 8) r * f s r) n) n := by
  rw [show 64 = 8 * 8 from rfl, py_sm_64]
  have e1 : fb_sm (fun s => fb_sm (fun r => py_tt T k (8 * s + r) * f ((8 * s + r) / 8) ((8 * s + r) % 8)) 8) 8 = fb_sm (fun s => T (k / 8) s * fb_sm (fun r => T (k % 8) r * f s r) n) 8 := fb_sm_cong (fun s _ => by
    have e2 : fb_sm (fun r => py_tt T k (8 * s + r) * f ((8 * s + r) / 8) ((8 * s + r) % 8)) 8 = fb_sm (fun r => T (k / 8) s * (T (k % 8) r * f s r)) 8 := fb_sm_cong (fun r hr => by
      unfold py_tt
      rw [show (8 * s + r) / 8 = s by omega, show (8 * s + r) % 8 = r by omega, Nat.mul_assoc])
    rw [e2, py_sm_mull, py_sm_ext (n := n) (fun r hr => by rw [hz _ _ (Or.inr hr), Nat.zero_mul]) h8])
  rw [e1, py_sm_ext (n := n) (fun r hr => by rw [hz _ _ (Or.inr hr), Nat.zero_mul]) h8]
theorem py_d9 {y : Nat} (hy : y < 64) : y % 9 = 0 ↔ y / 8 = y % 8 := by omega
end PYME
/-! the reference -/
section PYMEM
variable {n : Nat} {T : Nat → Nat → Nat} {mt : Nat → Int32}
variable (k97 : (Nat → Int64) → (Nat → Int64) → Int32 → Int32 → Int64 → Int32 → Option (Int64 × (Nat → Int64) × (Nat → Int64)))
theorem py_n241 {sp : Nat → Int64} {c : Nat → Nat} (hs : py_AR sp c 64) (v3 v4 v7 : Int32) (M : Nat) : ∀ (d q m : Nat) (w : Nat → Int64), q + d = 64 → d < m → (∀ x, x < q → w x = lN (if x % 9 = 0 then 0 else c x)) →
    ∃ w', zf_X9_meet_241 mt (nI n) k97 m w sp v3 v4 (lN (M + fb_sm (fun y => c y * (if y % 9 = 0 then 1 else 0)) q)) v7 (nI q) = k97 w' sp v3 v4 (lN (M + fb_sm (fun y => c y * (if y % 9 = 0 then 1 else 0)) 64)) (v7 + 1) ∧ py_AR w' (fun x => if x % 9 = 0 then 0 else c x) 64 := by
  intro d
  induction d with
  | zero =>
    intro q m w h1 h2 h
    obtain ⟨f, rfl⟩ : ∃ f, m = f + 1 := ⟨m - 1, by omega⟩
    have : q = 64 := by omega
    subst this
    refine ⟨w, ?_, h⟩
    show zf_X9_meet_241_b mt _ _ _ _ _ _ _ _ _ _ = _
    unfold zf_X9_meet_241_b
    rw [if_pos (by decide)]
  | succ d ih =>
    intro q m w h1 h2 h
    obtain ⟨f, rfl⟩ : ∃ f, m = f + 1 := ⟨m - 1, by omega⟩
    have e9 : nI q - nI q / (9 : Int32) * (9 : Int32) = nI (q % 9) := pk_rem (a := q) (d := 9) (by omega) (by decide) (by decide)
    show ∃ w', zf_X9_meet_241_b mt _ _ _ _ _ _ _ _ _ _ = _ ∧ _
    unfold zf_X9_meet_241_b zf_X9_meet_269 zf_X9_meet_297
    rw [if_neg (show ¬ (64 : Int32) ≤ nI q from nI_ge (a := q) (b := 64) (by omega) (by decide)), e9, if_neg (tn_in (a := q) (N := 2048) (by omega) (by decide)), if_neg (tn_in (a := q) (N := 2048) (by omega) (by decide)), tn_cl (a := q) (by omega), hs q (by omega), show nI q + (1 : Int32) = nI (q + 1) from nI_1 q]
    by_cases e : q % 9 = 0
    · rw [if_pos (show nI (q % 9) = 0 from by rw [e]; rfl), if_pos (show nI (q % 9) = 0 from by rw [e]; rfl), tl_add]
      obtain ⟨w', a1, a2⟩ := ih (q + 1) f (vp_updL w q 0) (by omega) (by omega) (by
        intro x hx
        by_cases e' : x = q
        · rw [e', pk_uLs, if_pos e]; rfl
        · rw [pk_uLn e']; exact h x (by omega))
      refine ⟨w', ?_, a2⟩
      rw [← a1, fb_sm_succ, if_pos e, Nat.mul_one, Nat.add_assoc]
    · rw [if_neg (show ¬ nI (q % 9) = 0 from fun z => e ((tn_eq (a := q % 9) (b := 0) (by omega) (by omega)).mp z)), if_neg (show ¬ nI (q % 9) = 0 from fun z => e ((tn_eq (a := q % 9) (b := 0) (by omega) (by omega)).mp z))]
      obtain ⟨w', a1, a2⟩ := ih (q + 1) f (vp_updL w q (lN (c q))) (by omega) (by omega) (by
        intro x hx
        by_cases e' : x = q
        · rw [e', pk_uLs, if_neg e]
        · rw [pk_uLn e']; exact h x (by omega))
      refine ⟨w', ?_, a2⟩
      have e10 : ¬ (nI q < 0 ∨ 2048 ≤ q) := fun z => z.elim (tn_n0 (by omega)) (by omega)
      rw [← a1, if_neg e10, if_neg e10, fb_sm_succ, if_neg e, Nat.mul_zero, show (0 : Int64) = lN 0 from rfl, tl_add]
      rfl
theorem py_n148 (h8 : n ≤ 8) (hm : ∀ i j, i < 8 → j < 8 → mt (8 * i + j) = nI (T i j)) (hT : ∀ i j, T i j ≤ 10) {w : Nat → Int64} {a : Nat → Nat} (hw : py_AR w a 64) (ha : ∀ x, x < 64 → a x < 2 ^ 63) {x : Nat} (hx : x < 64) (b : Nat → Nat) (v3 v4 v7 : Int32) (v5 : Int64) (k138 : (Nat → Int64) → (Nat → Int64) → Int32 → Int32 → Int64 → Int32 → Int32 → Option (Int64 × (Nat → Int64) × (Nat → Int64))) :
    ∀ (d q m : Nat) (sp : Nat → Int64), q + d = 64 → d < m → (∀ y, y < 64 → sp y = lN (if y < q then b y + a x * py_tt T x y else b y)) → (0 < q → 0 < a x) →
    ∃ sp', zf_X9_meet_148 mt (nI n) k97 k138 m w sp v3 v4 v5 v7 (nI x) (nI q) = k138 w sp' v3 v4 v5 v7 (nI (x + 1)) ∧ py_AR sp' (fun y => b y + a x * py_tt T x y) 64 := by
  intro d
  induction d with
  | zero =>
    intro q m sp h1 h2 h hq
    obtain ⟨f, rfl⟩ : ∃ f, m = f + 1 := ⟨m - 1, by omega⟩
    have : q = 64 := by omega
    subst this
    refine ⟨sp, ?_, fun y hy => by rw [h y hy, if_pos hy]⟩
    show zf_X9_meet_148_b mt _ _ _ _ _ _ _ _ _ _ _ _ = _
    unfold zf_X9_meet_148_b zf_X9_meet_232
    rw [if_pos (by decide), show nI x + (1 : Int32) = nI (x + 1) from nI_1 x]
  | succ d ih =>
    intro q m sp h1 h2 h hq
    obtain ⟨f, rfl⟩ : ∃ f, m = f + 1 := ⟨m - 1, by omega⟩
    show ∃ sp', zf_X9_meet_148_b mt _ _ _ _ _ _ _ _ _ _ _ _ = _ ∧ _
    unfold zf_X9_meet_148_b zf_X9_meet_232
    have hT1 := hT (x / 8) (q / 8)
    have hT2 := hT (x % 8) (q % 8)
    rw [if_neg (show ¬ (64 : Int32) ≤ nI q from nI_ge (a := q) (b := 64) (by omega) (by decide)), if_neg (tn_in (a := x) (N := 2048) (by omega) (by decide)), tn_cl (a := x) (by omega), hw x hx, show nI x + (1 : Int32) = nI (x + 1) from nI_1 x]
    by_cases h0 : a x = 0
    · rw [if_pos (by rw [tl_cmp_le, h0]; decide)]
      refine ⟨sp, rfl, fun y hy => ?_⟩
      rw [h y hy]
      have : ¬ 0 < q := fun z => absurd (hq z) (by omega)
      rw [if_neg (by omega)]
      show _ = lN (b y + a x * py_tt T x y)
      rw [h0, Nat.zero_mul, Nat.add_zero]
    · rw [if_neg (show ¬ lg_cmp (lN (a x)) 0 ≤ 0 from fun z => (tl_cmp_le _ _).mp z ((tl_pos (ha x hx)).mpr (by omega)))]
      rw [show nI x / (8 : Int32) = nI (x / 8) from pk_div (a := x) (d := 8) (by omega) (by decide) (by decide), show nI q / (8 : Int32) = nI (q / 8) from pk_div (a := q) (d := 8) (by omega) (by decide) (by decide), show nI x - nI (x / 8) * (8 : Int32) = nI (x % 8) from by rw [← pk_rem (a := x) (d := 8) (by omega) (by decide) (by decide), pk_div (a := x) (d := 8) (by omega) (by decide) (by decide)]; rfl,
        show nI q - nI (q / 8) * (8 : Int32) = nI (q % 8) from by rw [← pk_rem (a := q) (d := 8) (by omega) (by decide) (by decide), pk_div (a := q) (d := 8) (by omega) (by decide) (by decide)]; rfl,
        show (8 : Int32) * nI (x / 8) + nI (q / 8) = nI (8 * (x / 8) + q / 8) from by rw [show (8 : Int32) = nI 8 from rfl, pk_mul, nI_add], show (8 : Int32) * nI (x % 8) + nI (q % 8) = nI (8 * (x % 8) + q % 8) from by rw [show (8 : Int32) = nI 8 from rfl, pk_mul, nI_add],
        if_neg (tn_in (a := q) (N := 2048) (by omega) (by decide)), if_neg (tn_in (a := 8 * (x / 8) + q / 8) (N := 64) (by omega) (by decide)), if_neg (tn_in (a := 8 * (x % 8) + q % 8) (N := 64) (by omega) (by decide)), tn_cl (a := q) (by omega), tn_cl (a := 8 * (x / 8) + q / 8) (by omega), tn_cl (a := 8 * (x % 8) + q % 8) (by omega), hm _ _ (by omega) (by omega), hm _ _ (by omega) (by omega), tl_i (by omega), tl_i (by omega), h q (by omega), if_neg (by omega), tl_mul, tl_mul, tl_add, show nI q + (1 : Int32) = nI (q + 1) from nI_1 q]
      exact ih (q + 1) f _ (by omega) (by omega) (by
        intro y hy
        by_cases e : y = q
        · rw [e, pk_uLs, if_pos (by omega)]
          unfold py_tt
          rw [Nat.mul_assoc]
        · rw [pk_uLn e, h y hy]
          by_cases e2 : y < q
          · rw [if_pos e2, if_pos (by omega)]
          · rw [if_neg e2, if_neg (by omega)]) (fun _ => by omega)
theorem py_n138 (h8 : n ≤ 8) (hm : ∀ i j, i < 8 → j < 8 → mt (8 * i + j) = nI (T i j)) (hT : ∀ i j, T i j ≤ 10) {w : Nat → Int64} {a : Nat → Nat} (hw : py_AR w a 64) (ha : ∀ x, x < 64 → a x < 2 ^ 63) (v3 v4 v7 : Int32) (v5 : Int64) :
    ∀ (d q m : Nat) (sp : Nat → Int64), q + d = 64 → d < m → py_AR sp (fun y => fb_sm (fun x => a x * py_tt T x y) q) 64 →
    ∃ sp', zf_X9_meet_138 mt (nI n) k97 m w sp v3 v4 v5 v7 (nI q) = zf_X9_meet_241 mt (nI n) k97 zfuel w sp' v3 v4 v5 v7 (nI 0) ∧ py_AR sp' (fun y => fb_sm (fun x => a x * py_tt T x y) 64) 64 := by
  intro d
  induction d with
  | zero =>
    intro q m sp h1 h2 h
    obtain ⟨f, rfl⟩ : ∃ f, m = f + 1 := ⟨m - 1, by omega⟩
    have : q = 64 := by omega
    subst this
    refine ⟨sp, ?_, h⟩
    show zf_X9_meet_138_b mt _ _ _ _ _ _ _ _ _ _ = _
    unfold zf_X9_meet_138_b
    rw [if_pos (by decide)]
    rfl
  | succ d ih =>
    intro q m sp h1 h2 h
    obtain ⟨f, rfl⟩ : ∃ f, m = f + 1 := ⟨m - 1, by omega⟩
    obtain ⟨sp1, a1, a2⟩ := py_n148 k97 h8 hm hT hw ha (show q < 64 by omega) (fun y => fb_sm (fun x => a x * py_tt T x y) q) v3 v4 v7 v5 (zf_X9_meet_138 mt (nI n) k97 f) 64 0 zfuel sp (by omega) (by unfold zfuel; omega) (fun y hy => by rw [if_neg (by omega)]; exact h y hy) (fun z => absurd z (by omega))
    obtain ⟨sp2, b1, b2⟩ := ih (q + 1) f sp1 (by omega) (by omega) a2
    refine ⟨sp2, ?_, b2⟩
    rw [← b1, ← a1]
    show zf_X9_meet_138_b mt _ _ _ _ _ _ _ _ _ _ = _
    unfold zf_X9_meet_138_b
    rw [if_neg (show ¬ (64 : Int32) ≤ nI q from nI_ge (a := q) (b := 64) (by omega) (by decide))]
    rfl
theorem py_n114 (w : Nat → Int64) (v3 v4 v7 : Int32) (v5 : Int64) :
    ∀ (d q m : Nat) (sp : Nat → Int64), q + d = 64 → d < m → (∀ x, x < q → sp x = 0) →
    ∃ sp', zf_X9_meet_114 mt (nI n) k97 m w sp v3 v4 v5 v7 (nI q) = zf_X9_meet_138 mt (nI n) k97 zfuel w sp' v3 v4 v5 v7 (nI 0) ∧ ∀ x, x < 64 → sp' x = 0 := by
  intro d
  induction d with
  | zero =>
    intro q m sp h1 h2 h
    obtain ⟨f, rfl⟩ : ∃ f, m = f + 1 := ⟨m - 1, by omega⟩
    have : q = 64 := by omega
    subst this
    refine ⟨sp, ?_, h⟩
    show zf_X9_meet_114_b mt _ _ _ _ _ _ _ _ _ _ = _
    unfold zf_X9_meet_114_b
    rw [if_pos (by decide)]
    rfl
  | succ d ih =>
    intro q m sp h1 h2 h
    obtain ⟨f, rfl⟩ : ∃ f, m = f + 1 := ⟨m - 1, by omega⟩
    show ∃ sp', zf_X9_meet_114_b mt _ _ _ _ _ _ _ _ _ _ = _ ∧ _
    unfold zf_X9_meet_114_b
    rw [if_neg (show ¬ (64 : Int32) ≤ nI q from nI_ge (a := q) (b := 64) (by omega) (by decide)), if_neg (tn_in (a := q) (N := 2048) (by omega) (by decide)), tn_cl (a := q) (by omega), show nI q + (1 : Int32) = nI (q + 1) from nI_1 q]
    exact ih (q + 1) f _ (by omega) (by omega) (fun x hx => by
      by_cases e' : x = q
      · rw [e', pk_uLs]
      · rw [pk_uLn e']; exact h x (by omega))
end PYMEM
section PYMEM2
variable {n : Nat} {T : Nat → Nat → Nat} {mt : Nat → Int32}
theorem py_n97 (h8 : n ≤ 8) (hm : ∀ i j, i < 8 → j < 8 → mt (8 * i + j) = nI (T i j)) (hz : ∀ i j, n ≤ i ∨ n ≤ j → T i j = 0) (hT : ∀ i j, T i j ≤ 10) (hR : ∀ i, fb_sm (T i) n ≤ 10) (k0 c0 m0 t : Nat) (hc0 : c0 ≤ 1) (ht : t ≤ 8) (u : Int32) :
    ∀ (d τ m : Nat) (w sp : Nat → Int64) (a : Nat → Nat), τ + d = t → d < m → py_AR w a 64 → (∀ ψ, py_F 64 a ψ = c0 * py_iG T n τ ψ k0) →
    ∃ w' sp', zf_X9_meet_97 mt (nI n) m w sp (nI t) u (lN (100 ^ τ * m0 + c0 * py_mz T n k0 τ)) (nI τ) = Option.bind (zf_X9_part (lN (100 ^ t * m0 + c0 * py_mz T n k0 t)) (lN (100 ^ t)) u) (fun x => some (x, w', sp')) := by
  intro d
  induction d with
  | zero =>
    intro τ m w sp a h1 h2 hw hF
    obtain ⟨f, rfl⟩ : ∃ f, m = f + 1 := ⟨m - 1, by omega⟩
    have : τ = t := by omega
    subst this
    refine ⟨w, sp, ?_⟩
    show zf_X9_meet_97_b mt _ _ _ _ _ _ _ _ = _
    unfold zf_X9_meet_97_b
    rw [if_pos ((tn_le (by omega) (by omega)).mpr (by omega)), show zf_X9_power (100 : Int32) (nI τ) = _ from tp_m (b := 100) (by decide) (by omega)]
    rfl
  | succ d ih =>
    intro τ m w sp a h1 h2 hw hF
    obtain ⟨f, rfl⟩ : ∃ f, m = f + 1 := ⟨m - 1, by omega⟩
    have hp := py_p100 τ (by omega)
    have ha : ∀ x, x < 64 → a x < 2 ^ 63 := fun x hx => by
      have h3 := py_a_le (a := a) hx
      rw [hF] at h3
      have h4 := py_iG_le hR τ 1 (fun _ => 1) (fun _ => Nat.le_refl 1) k0
      rw [Nat.one_mul] at h4
      have h5 : c0 * py_iG T n τ (fun _ => 1) k0 ≤ 1 * py_iG T n τ (fun _ => 1) k0 := Nat.mul_le_mul_right _ hc0
      omega
    obtain ⟨sp1, a1, a2⟩ := py_n114 (mt := mt) (n := n) (zf_X9_meet_97 mt (nI n) f) w (nI t) u (nI τ) (lN (100 ^ τ * m0 + c0 * py_mz T n k0 τ) * 100) 64 0 zfuel sp (by omega) (by unfold zfuel; omega) (fun x hx => absurd hx (by omega))
    obtain ⟨sp2, b1, b2⟩ := py_n138 (zf_X9_meet_97 mt (nI n) f) h8 hm hT hw ha (nI t) u (nI τ) (lN (100 ^ τ * m0 + c0 * py_mz T n k0 τ) * 100) 64 0 zfuel sp1 (by omega) (by unfold zfuel; omega) (fun x hx => a2 x hx)
    obtain ⟨w1, c1, c2⟩ := py_n241 (mt := mt) (n := n) (zf_X9_meet_97 mt (nI n) f) b2 (nI t) u (nI τ) ((100 ^ τ * m0 + c0 * py_mz T n k0 τ) * 100) 64 0 zfuel w (by omega) (by unfold zfuel; omega) (fun x hx => absurd hx (by omega))
    have e1 : ∀ ψ : Nat → Nat, fb_sm (fun y => fb_sm (fun x => a x * py_tt T x y) 64 * ψ y) 64 = fb_sm (fun x => a x * fb_sm (fun y => py_tt T x y * ψ y) 64) 64 := by
      intro ψ
      have q1 : fb_sm (fun y => fb_sm (fun x => a x * py_tt T x y) 64 * ψ y) 64 = fb_sm (fun y => fb_sm (fun x => a x * py_tt T x y * ψ y) 64) 64 := fb_sm_cong (fun y _ => (py_sm_mulr _ _ _).symm)
      rw [q1, py_sm_swap (fun y x => a x * py_tt T x y * ψ y)]
      refine fb_sm_cong (fun x _ => ?_)
      rw [← py_sm_mull]
      exact fb_sm_cong (fun y _ => Nat.mul_assoc _ _ _)
    have e2 : fb_sm (fun y => fb_sm (fun x => a x * py_tt T x y) 64 * (if y % 9 = 0 then 1 else 0)) 64 = c0 * py_iG T n τ (py_HM T n) k0 := by
      rw [e1 (fun y => if y % 9 = 0 then 1 else 0), ← hF]
      refine fb_sm_cong (fun x _ => ?_)
      have q2 : fb_sm (fun y => py_tt T x y * (if y % 9 = 0 then 1 else 0)) 64 = fb_sm (fun y => py_tt T x y * (if y / 8 = y % 8 then 1 else 0)) 64 := fb_sm_cong (fun y hy => by
        by_cases e : y % 9 = 0
        · rw [if_pos e]
          rw [if_pos ((py_d9 hy).mp e)]
        · rw [if_neg e]
          rw [if_neg (fun z => e ((py_d9 hy).mpr z))])
      rw [q2, py_64 h8 hz x (fun s r => if s = r then 1 else 0)]
      rfl
    have e3 : ∀ ψ, py_F 64 (fun x => if x % 9 = 0 then 0 else fb_sm (fun x' => a x' * py_tt T x' x) 64) ψ = c0 * py_iG T n (τ + 1) ψ k0 := by
      intro ψ
      have q1 : py_F 64 (fun x => if x % 9 = 0 then 0 else fb_sm (fun x' => a x' * py_tt T x' x) 64) ψ = fb_sm (fun y => fb_sm (fun x => a x * py_tt T x y) 64 * (if y % 9 = 0 then 0 else ψ y)) 64 := fb_sm_cong (fun y _ => by
        show (if y % 9 = 0 then 0 else fb_sm (fun x' => a x' * py_tt T x' y) 64) * ψ y = _
        by_cases e : y % 9 = 0
        · rw [if_pos e, if_pos e, Nat.zero_mul, Nat.mul_zero]
        · rw [if_neg e, if_neg e])
      rw [q1, e1 (fun y => if y % 9 = 0 then 0 else ψ y)]
      show _ = c0 * py_iG T n τ (py_GM T n ψ) k0
      rw [← hF]
      refine fb_sm_cong (fun x _ => ?_)
      have q2 : fb_sm (fun y => py_tt T x y * (if y % 9 = 0 then 0 else ψ y)) 64 = fb_sm (fun y => py_tt T x y * (if y / 8 = y % 8 then 0 else ψ (8 * (y / 8) + y % 8))) 64 := fb_sm_cong (fun y hy => by
        by_cases e : y % 9 = 0
        · rw [if_pos e]
          rw [if_pos ((py_d9 hy).mp e)]
        · rw [if_neg e]
          rw [if_neg (fun z => e ((py_d9 hy).mpr z)), show 8 * (y / 8) + y % 8 = y by omega])
      rw [q2, py_64 h8 hz x (fun s r => if s = r then 0 else ψ (8 * s + r))]
      rfl
    have e4 : (100 ^ τ * m0 + c0 * py_mz T n k0 τ) * 100 + c0 * py_iG T n τ (py_HM T n) k0 = 100 ^ (τ + 1) * m0 + c0 * py_mz T n k0 (τ + 1) := by
      show _ = _ + c0 * (100 * py_mz T n k0 τ + py_iG T n τ (py_HM T n) k0)
      rw [Nat.mul_add, Nat.add_mul, Nat.pow_succ, Nat.mul_comm (c0 * py_mz T n k0 τ) 100, ← Nat.mul_assoc, Nat.mul_comm 100 c0, Nat.mul_assoc c0 100, Nat.mul_assoc (100 ^ τ), Nat.mul_assoc (100 ^ τ), Nat.mul_comm m0 100, Nat.add_assoc]
    obtain ⟨w', sp', f1⟩ := ih (τ + 1) f w1 sp2 _ (by omega) (by omega) c2 e3
    refine ⟨w', sp', ?_⟩
    rw [← f1, ← e4, ← e2, show nI (τ + 1) = nI τ + 1 from (nI_1 τ).symm, ← c1]
    show zf_X9_meet_97_b mt _ _ _ _ _ _ _ _ = _
    unfold zf_X9_meet_97_b
    rw [if_neg (nI_ge (a := τ) (b := t) (by omega) (by omega)), show zf_X9_meet_114 mt (nI n) (zf_X9_meet_97 mt (nI n) f) zfuel w sp (nI t) u (lN (100 ^ τ * m0 + c0 * py_mz T n k0 τ) * 100) (nI τ) 0 = _ from a1, b1, show (100 : Int64) = lN 100 from rfl, tl_mul]
    rfl
theorem py_n51 (sp : Nat → Int64) (v3 v4 : Int32) {p q m0 : Nat} (hp : p < 8) (hq : q < 8) (hm0 : m0 ≤ 1) : ∀ (d k m : Nat) (w : Nat → Int64), k + d = 64 → d < m → (∀ x, x < k → w x = lN (if x = 8 * p + q then 1 - m0 else 0)) → ∃ w' : Nat → Int64, zf_X9_meet_51 mt (nI n) m w sp (nI p) (nI q) v3 v4 (lN m0) (nI k) = zf_X9_meet_97 mt (nI n) zfuel w' sp v3 v4 (lN m0) (nI 0) ∧ py_AR w' (fun x => if x = 8 * p + q then 1 - m0 else 0) 64 := by
  intro d
  induction d with
  | zero =>
    intro k m w h1 h2 h
    obtain ⟨f, rfl⟩ : ∃ f, m = f + 1 := ⟨m - 1, by omega⟩
    have : k = 64 := by omega
    subst this
    refine ⟨w, ?_, h⟩
    show zf_X9_meet_51_b mt _ _ _ _ _ _ _ _ _ _ = _
    unfold zf_X9_meet_51_b
    rw [if_pos (by decide)]
    rfl
  | succ d ih =>
    intro k m w h1 h2 h
    obtain ⟨f, rfl⟩ : ∃ f, m = f + 1 := ⟨m - 1, by omega⟩
    have hup : ∀ v : Int64, v = lN (if k = 8 * p + q then 1 - m0 else 0) → ∀ x, x < k + 1 → vp_updL w k v x = lN (if x = 8 * p + q then 1 - m0 else 0) := by
      intro v hv x hx
      by_cases e : x = k
      · rw [e, pk_uLs, hv]
      · rw [pk_uLn e]; exact h x (by omega)
    show ∃ w', zf_X9_meet_51_b mt _ _ _ _ _ _ _ _ _ _ = _ ∧ _
    unfold zf_X9_meet_51_b zf_X9_meet_86 zf_X9_meet_87
    rw [if_neg (show ¬ (64 : Int32) ≤ nI k from nI_ge (a := k) (b := 64) (by omega) (by decide)), show (8 : Int32) * nI p + nI q = nI (8 * p + q) from by rw [show (8 : Int32) = nI 8 from rfl, pk_mul, nI_add], if_neg (tn_in (a := k) (N := 2048) (by omega) (by decide)), if_neg (tn_in (a := k) (N := 2048) (by omega) (by decide)), tn_cl (a := k) (by omega), show nI k + (1 : Int32) = nI (k + 1) from nI_1 k]
    by_cases e : k = 8 * p + q
    · rw [if_pos (by rw [e])]
      by_cases e0 : m0 = 0
      · rw [if_pos (by rw [tl_cmp_eq, e0]; rfl)]
        exact ih (k + 1) f _ (by omega) (by omega) (hup 1 (by rw [if_pos e, e0]; rfl))
      · rw [if_neg (show ¬ lg_cmp (lN m0) 0 = 0 from fun z => e0 ((tl_zero (by omega)).mp ((tl_cmp_eq _ _).mp z)))]
        exact ih (k + 1) f _ (by omega) (by omega) (hup 0 (by rw [if_pos e, show 1 - m0 = 0 by omega]; rfl))
    · rw [if_neg (fun z => e ((tn_eq (a := k) (b := 8 * p + q) (by omega) (by omega)).mp z))]
      exact ih (k + 1) f _ (by omega) (by omega) (hup 0 (by rw [if_neg e]; rfl))
theorem py_meetM (h8 : n ≤ 8) (hm : ∀ i j, i < 8 → j < 8 → mt (8 * i + j) = nI (T i j)) (hz : ∀ i j, n ≤ i ∨ n ≤ j → T i j = 0) (hT : ∀ i j, T i j ≤ 10) (hR : ∀ i, fb_sm (T i) n ≤ 10) {p q t : Nat} (hp : p < 8) (hq : q < 8) (ht : t ≤ 8) (u : Int32) (w sp : Nat → Int64) {m0 : Nat} (hm0 : m0 ≤ 1) :
    ∃ w' sp', zf_X9_meet_46 mt (nI n) w sp (nI p) (nI q) (nI t) u (lN m0) = some (py_fr (100 ^ t * m0 + (1 - m0) * py_mz T n (8 * p + q) t) (100 ^ t) u, w', sp') := by
  obtain ⟨w1, a1, a2⟩ := py_n51 (mt := mt) (n := n) sp (nI t) u hp hq hm0 64 0 zfuel w (by omega) (by unfold zfuel; omega) (fun x hx => absurd hx (by omega))
  obtain ⟨w2, sp2, b1⟩ := py_n97 h8 hm hz hT hR (8 * p + q) (1 - m0) m0 t (by omega) ht u t 0 zfuel w1 sp _ (by omega) (by unfold zfuel; omega) a2 (fun ψ => by
    unfold py_F
    have : fb_sm (fun x => (if x = 8 * p + q then 1 - m0 else 0) * ψ x) 64 = fb_sm (fun x => if x = 8 * p + q then (1 - m0) * ψ (8 * p + q) else 0) 64 := fb_sm_cong (fun x _ => by
      by_cases e : x = 8 * p + q
      · rw [if_pos e, if_pos e, e]
      · rw [if_neg e, if_neg e, Nat.zero_mul])
    rw [this, py_sm_one (by omega)]
    rfl)
  have hb := py_p100 t ht
  have hmz := py_mz_le hR (8 * p + q) t
  have hle : 100 ^ t * m0 + (1 - m0) * py_mz T n (8 * p + q) t < 2 ^ 63 := by
    by_cases e : m0 = 0
    · subst e
      show 100 ^ t * 0 + 1 * py_mz T n (8 * p + q) t < _
      omega
    · have : m0 = 1 := by omega
      subst this
      show 100 ^ t * 1 + 0 * py_mz T n (8 * p + q) t < _
      omega
  refine ⟨w2, sp2, ?_⟩
  unfold zf_X9_meet_46
  rw [show zf_X9_meet_51 mt (nI n) zfuel w sp (nI p) (nI q) (nI t) u (lN m0) 0 = _ from a1]
  have e5 : 100 ^ 0 * m0 + (1 - m0) * py_mz T n (8 * p + q) 0 = m0 := by
    show 1 * m0 + (1 - m0) * 0 = m0
    omega
  rw [e5] at b1
  rw [b1, py_frM u hle (Nat.pow_pos (by decide)) hb.1]
  rfl
end PYMEM2
