/-! ===== the reference's rows: each is a part of the whole-number row, told in least numbers ===== -/
def mx_gc (Q : Nat → Int) : Nat → Nat
  | 0 => 0
  | y + 1 => Nat.gcd (mx_gc Q y) (Q y).natAbs
theorem mx_gc_dvd {Q : Nat → Int} {d : Nat} : ∀ {m : Nat}, d ∣ mx_gc Q m ↔ ∀ y, y < m → d ∣ (Q y).natAbs
  | 0 => ⟨fun _ y hy => absurd hy (by omega), fun _ => Nat.dvd_zero d⟩
  | m + 1 => by
    show d ∣ Nat.gcd (mx_gc Q m) (Q m).natAbs ↔ _
    rw [Nat.dvd_gcd_iff, mx_gc_dvd]
    constructor
    · rintro ⟨h1, h2⟩ y hy
      by_cases e : y = m
      · rw [e]; exact h2
      · exact h1 y (by omega)
    · intro h
      exact ⟨fun y hy => h y (by omega), h m (by omega)⟩
def mx_Rw (T : Nat → Nat → Nat) (ord : Nat → Nat) (s k : Nat) (R : Nat → Int) (x : Nat) : Prop :=
  (∃ α β : Int, 0 < α ∧ 0 < β ∧ ∀ y, y ≤ s → α * R y = β * (mx_st (mx_A T) ord k).2 (ord x) (mx_oc ord s y)) ∧ ((∀ y, y ≤ s → -10 ≤ R y ∧ R y ≤ 10) ∨ ∀ d : Nat, (∀ y, y ≤ s → d ∣ (R y).natAbs) → d = 1)
section MXR
variable {s k x : Nat} {T : Nat → Nat → Nat} {ord : Nat → Nat} {R S : Nat → Int}
theorem mx_Rw_cg {R' : Nat → Int} (h : mx_Rw T ord s k R x) (e : ∀ y, y ≤ s → R' y = R y) : mx_Rw T ord s k R' x := by
  obtain ⟨⟨α, β, h1, h2, h3⟩, h4⟩ := h
  refine ⟨⟨α, β, h1, h2, fun y hy => by rw [e y hy]; exact h3 y hy⟩, ?_⟩
  rcases h4 with h4 | h4
  · exact Or.inl (fun y hy => by rw [e y hy]; exact h4 y hy)
  · exact Or.inr (fun d hd => h4 d (fun y hy => by rw [← e y hy]; exact hd y hy))
theorem mx_Rw_bd (H : mx_Hy T ord s) (hk : k ≤ s) (hx : x < s) (h : mx_Rw T ord s k R x) {y : Nat} (hy : y ≤ s) : -(10 * 20 ^ k) ≤ R y ∧ R y ≤ 10 * 20 ^ k := by
  obtain ⟨⟨α, β, h1, h2, h3⟩, h4⟩ := h
  have p1 : ∀ k, k < 8 → (1 : Int) ≤ 20 ^ k := by decide
  have h7 := H.1
  have p2 := p1 k (by omega)
  rcases h4 with h4 | h4
  · have := h4 y hy
    omega
  · have bd := mx_bd H hk hx hy
    obtain ⟨a, b, hab, ha, hb⟩ := Nat.exists_coprime α.natAbs β.natAbs
    have g0 : 0 < Nat.gcd α.natAbs β.natAbs := Nat.gcd_pos_of_pos_left _ (by omega)
    have key : ∀ z, z ≤ s → a * (R z).natAbs = b * ((mx_st (mx_A T) ord k).2 (ord x) (mx_oc ord s z)).natAbs := by
      intro z hz
      have q := congrArg Int.natAbs (h3 z hz)
      rw [Int.natAbs_mul, Int.natAbs_mul] at q
      refine Nat.eq_of_mul_eq_mul_left g0 ?_
      rw [← Nat.mul_assoc, ← Nat.mul_assoc, Nat.mul_comm _ a, Nat.mul_comm _ b, ← ha, ← hb]
      exact q
    have b1 : b = 1 := h4 b (fun z hz => by
      have q : b ∣ a * (R z).natAbs := ⟨_, key z hz⟩
      exact (Nat.Coprime.symm hab).dvd_of_dvd_mul_left q)
    have a1 : 1 ≤ a := by
      rcases Nat.eq_zero_or_pos a with e | e
      · rw [e, Nat.zero_mul] at ha; omega
      · exact e
    have q := key y hy
    rw [b1, Nat.one_mul] at q
    have q2 : 1 * (R y).natAbs ≤ a * (R y).natAbs := Nat.mul_le_mul_right _ a1
    omega
theorem mx_Rw_pos (H : mx_Hy T ord s) (hk : k ≤ s) (hx : x < s) (h : mx_Rw T ord s k R x) : 0 < R x := by
  obtain ⟨⟨α, β, h1, h2, h3⟩, -⟩ := h
  obtain ⟨h7, g1, g2, hh, g3, g4⟩ := H
  obtain ⟨-, s1, -, -⟩ := mx_all g1 g3 g4 k hk
  have hp := mx_pos (mx_ls_nd g1) g3 s1 (mx_ls_mem.mpr ⟨x, hx, rfl⟩)
  have q := h3 x (by omega)
  rw [show mx_oc ord s x = ord x from if_pos hx] at q
  have := Int.mul_pos h2 hp
  exact Int.pos_of_mul_pos_right (by omega) h1
theorem mx_Rw_rhs (H : mx_Hy T ord s) (hk : k ≤ s) (hx : x < s) (h : mx_Rw T ord s k R x) : 0 ≤ R s := by
  obtain ⟨⟨α, β, h1, h2, h3⟩, -⟩ := h
  obtain ⟨h7, g1, g2, hh, g3, g4⟩ := H
  obtain ⟨-, s1, -, -⟩ := mx_all g1 g3 g4 k hk
  have hp := (s1 (ord x) (mx_ls_mem.mpr ⟨x, hx, rfl⟩)).2.2.2.2.1
  have q := h3 s (by omega)
  rw [show mx_oc ord s s = 8 from if_neg (by omega)] at q
  have := Int.mul_nonneg (Int.le_of_lt h2) hp
  refine Int.le_of_mul_le_mul_left (a := α) ?_ h1
  rw [Int.mul_zero]
  omega
theorem mx_Rw_0 (hT : ∀ i j, T i j ≤ 10) (e : ∀ y, y ≤ s → R y = mx_A T (ord x) (mx_oc ord s y)) : mx_Rw T ord s 0 R x := by
  refine ⟨⟨1, 1, by decide, by decide, fun y hy => by rw [e y hy]; rfl⟩, Or.inl (fun y hy => ?_)⟩
  rw [e y hy]
  unfold mx_A
  have := hT (ord x) (mx_oc ord s y)
  by_cases c : mx_oc ord s y = 8
  · rw [if_pos c]; omega
  · rw [if_neg c]
    by_cases c2 : ord x = mx_oc ord s y
    · rw [if_pos c2]; omega
    · rw [if_neg c2]; omega
theorem mx_Rw_piv (H : mx_Hy T ord s) (hk : k < s) (h : mx_Rw T ord s k R k) : mx_Rw T ord s (k + 1) R k := by
  obtain ⟨⟨α, β, h1, h2, h3⟩, h4⟩ := h
  exact ⟨⟨α, β, h1, h2, fun y hy => by rw [mx_ex1 H hk]; exact h3 y hy⟩, h4⟩
theorem mx_Rw_skip (H : mx_Hy T ord s) (hk : k < s) (hx : x < s) (hxk : ¬ x = k) (h : mx_Rw T ord s k R x) (h0 : R k = 0) : mx_Rw T ord s (k + 1) R x := by
  obtain ⟨⟨α, β, h1, h2, h3⟩, h4⟩ := h
  obtain ⟨hp, ex⟩ := mx_ex H hk
  have D0 := (mx_bdD H (k := k) (by omega)).1
  have v0 : (mx_st (mx_A T) ord k).2 (ord x) (ord k) = 0 := by
    have q := h3 k (by omega)
    rw [h0, Int.mul_zero, show mx_oc ord s k = ord k from if_pos hk] at q
    exact (Int.mul_eq_zero.mp q.symm).resolve_left (by omega)
  refine ⟨⟨α * (mx_st (mx_A T) ord k).2 (ord k) (ord k), β * (mx_st (mx_A T) ord k).1, Int.mul_pos h1 hp, Int.mul_pos h2 D0, fun y hy => ?_⟩, h4⟩
  have e1 := ex x hx hxk (mx_oc ord s y)
  rw [v0, Int.zero_mul, Int.sub_zero] at e1
  rw [Int.mul_assoc β, e1, Int.mul_right_comm, h3 y hy]
  grind
theorem mx_Rw_free (H : mx_Hy T ord s) (hk : k < s) (hx : x < s) (hxk : ¬ x = k) (hR : mx_Rw T ord s k R x) (hS : mx_Rw T ord s k S k) {u c1 c2 : Int} (hu : 0 < u) (e1 : u * c1 = S k) (e2 : u * c2 = R k) {Q P : Nat → Int} (hQ : ∀ y, y ≤ s → Q y = R y * c1 - S y * c2) (hP : ∀ y, y ≤ s → (mx_gc Q (s + 1) : Int) * P y = Q y) :
    0 < mx_gc Q (s + 1) ∧ mx_Rw T ord s (k + 1) P x := by
  obtain ⟨⟨α, β, a1, a2, a3⟩, -⟩ := hR
  obtain ⟨⟨γ, δ, b1, b2, b3⟩, -⟩ := hS
  obtain ⟨hp, ex⟩ := mx_ex H hk
  have D0 := (mx_bdD H (k := k) (by omega)).1
  have ok : mx_oc ord s k = ord k := if_pos hk
  have cl : ∀ y, y ≤ s → α * γ * u * Q y = β * δ * (mx_st (mx_A T) ord k).1 * (mx_st (mx_A T) ord (k + 1)).2 (ord x) (mx_oc ord s y) := by
    intro y hy
    have t1 := a3 y hy
    have t2 := b3 y hy
    have t3 := a3 k (by omega)
    have t4 := b3 k (by omega)
    rw [ok] at t3 t4
    rw [Int.mul_assoc (β * δ), ex x hx hxk (mx_oc ord s y), hQ y hy]
    have r1 : α * γ * u * (R y * c1 - S y * c2) = (α * R y) * (γ * (u * c1)) - (γ * S y) * (α * (u * c2)) := by grind
    rw [r1, e1, e2, t1, t2, t3, t4]
    grind
  have g0 : 0 < mx_gc Q (s + 1) := by
    rcases Nat.eq_zero_or_pos (mx_gc Q (s + 1)) with e | e
    · exfalso
      have q0 : Q x = 0 := by rw [← hP x (by omega), e]; exact Int.zero_mul _
      have q := cl x (by omega)
      rw [q0, Int.mul_zero, show mx_oc ord s x = ord x from if_pos hx] at q
      obtain ⟨h7, g1, g2, hh, g3, g4⟩ := H
      obtain ⟨-, s1, -, -⟩ := mx_all g1 g3 g4 (k + 1) (by omega)
      have hp' := mx_pos (mx_ls_nd g1) g3 s1 (mx_ls_mem.mpr ⟨x, hx, rfl⟩)
      have := Int.mul_pos (Int.mul_pos (Int.mul_pos a2 b2) D0) hp'
      omega
    · exact e
  refine ⟨g0, ⟨α * γ * u * (mx_gc Q (s + 1) : Int), β * δ * (mx_st (mx_A T) ord k).1, Int.mul_pos (Int.mul_pos (Int.mul_pos a1 b1) hu) (by omega), Int.mul_pos (Int.mul_pos a2 b2) D0, fun y hy => ?_⟩, Or.inr (fun d hd => ?_)⟩
  · rw [Int.mul_assoc (α * γ * u), hP y hy, cl y hy]
  · have q : d * mx_gc Q (s + 1) ∣ mx_gc Q (s + 1) := by
      refine mx_gc_dvd.mpr (fun y hy => ?_)
      rw [← hP y (by omega), Int.natAbs_mul, Int.natAbs_natCast, Nat.mul_comm]
      exact Nat.mul_dvd_mul_left _ (hd y (by omega))
    have q2 : d * mx_gc Q (s + 1) ∣ 1 * mx_gc Q (s + 1) := by rw [Nat.one_mul]; exact q
    exact Nat.dvd_one.mp (Nat.dvd_of_mul_dvd_mul_right g0 q2)
end MXR
