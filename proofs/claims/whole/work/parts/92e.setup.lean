/-! ===== the seats in a row; the clearing, step by step; why no pivot is nought ===== -/
def mx_ls (ord : Nat → Nat) : Nat → List Nat
  | 0 => []
  | k + 1 => ord k :: mx_ls ord k
theorem mx_ls_mem {ord : Nat → Nat} {x : Nat} : ∀ {s : Nat}, x ∈ mx_ls ord s ↔ ∃ r, r < s ∧ ord r = x
  | 0 => ⟨fun h => absurd h List.not_mem_nil, fun ⟨r, h, _⟩ => absurd h (by omega)⟩
  | s + 1 => by
    show x ∈ ord s :: mx_ls ord s ↔ _
    rw [List.mem_cons, mx_ls_mem]
    constructor
    · rintro (h | ⟨r, h1, h2⟩)
      · exact ⟨s, by omega, h.symm⟩
      · exact ⟨r, by omega, h2⟩
    · rintro ⟨r, h1, h2⟩
      by_cases e : r = s
      · subst e; exact Or.inl h2.symm
      · exact Or.inr ⟨r, by omega, h2⟩
theorem mx_ls_nd {ord : Nat → Nat} : ∀ {s : Nat}, (∀ i j, i < j → j < s → ord i ≠ ord j) → (mx_ls ord s).Nodup
  | 0, _ => List.nodup_nil
  | s + 1, h => List.nodup_cons.mpr ⟨fun hm => by
      obtain ⟨r, h1, h2⟩ := mx_ls_mem.mp hm
      exact h r s h1 (by omega) h2, mx_ls_nd (fun i j hij hj => h i j hij (by omega))⟩
def mx_st (A : Nat → Nat → Int) (ord : Nat → Nat) : Nat → Int × (Nat → Nat → Int)
  | 0 => (1, A)
  | k + 1 => ((mx_st A ord k).2 (ord k) (ord k), mx_nx (mx_st A ord k).1 (ord k) (mx_st A ord k).2)
section MXA
variable {A : Nat → Nat → Int} {ord : Nat → Nat} {s : Nat} {h : Nat → Int}
theorem mx_all (hn : ∀ i j, i < j → j < s → ord i ≠ ord j) (hh : ∀ j, j ∈ mx_ls ord s → 0 < h j) (hS : mx_S (mx_ls ord s) h 10 1 A) : ∀ k, k ≤ s → mx_I A (mx_ls ord s) (mx_ls ord k) (mx_st A ord k).1 (mx_st A ord k).2 ∧ mx_S (mx_ls ord s) h (10 * 20 ^ k) (mx_st A ord k).1 (mx_st A ord k).2 ∧ (mx_st A ord k).1 ≤ 10 ^ k ∧
    (k < s → 0 < (mx_st A ord k).2 (ord k) (ord k) ∧ ∀ o, o ∈ mx_ls ord s → o ≠ ord k → ∀ c, (mx_st A ord k).1 * (mx_st A ord (k + 1)).2 o c = (mx_st A ord k).2 (ord k) (ord k) * (mx_st A ord k).2 o c - (mx_st A ord k).2 o (ord k) * (mx_st A ord k).2 (ord k) c) := by
  have nd := mx_ls_nd hn
  have nxt : ∀ k, mx_I A (mx_ls ord s) (mx_ls ord k) (mx_st A ord k).1 (mx_st A ord k).2 → mx_S (mx_ls ord s) h (10 * 20 ^ k) (mx_st A ord k).1 (mx_st A ord k).2 → k < s → 0 < (mx_st A ord k).2 (ord k) (ord k) ∧ ord k ∈ mx_ls ord s ∧
      (∀ o, o ∈ mx_ls ord s → o ≠ ord k → ∀ c, (mx_st A ord k).1 * mx_nx (mx_st A ord k).1 (ord k) (mx_st A ord k).2 o c = (mx_st A ord k).2 (ord k) (ord k) * (mx_st A ord k).2 o c - (mx_st A ord k).2 o (ord k) * (mx_st A ord k).2 (ord k) c) ∧ mx_I A (mx_ls ord s) (ord k :: mx_ls ord k) ((mx_st A ord k).2 (ord k) (ord k)) (mx_nx (mx_st A ord k).1 (ord k) (mx_st A ord k).2) := by
    intro k hI hS' hk
    have hm : ord k ∈ mx_ls ord s := mx_ls_mem.mpr ⟨k, hk, rfl⟩
    have hp := mx_pos nd hh hS' hm
    have hno : ord k ∉ mx_ls ord k := fun z => by
      obtain ⟨r, h1, h2⟩ := mx_ls_mem.mp z
      exact hn r k h1 hk h2
    have := mx_step hI hm hno hp
    exact ⟨hp, hm, this.1, this.2⟩
  intro k
  induction k with
  | zero =>
    intro _
    have i0 : mx_I A (mx_ls ord s) (mx_ls ord 0) (mx_st A ord 0).1 (mx_st A ord 0).2 := ⟨show (0 : Int) < 1 by decide, rfl, fun o _ ho => absurd ho List.not_mem_nil, fun o _ _ => ⟨⟨1, by decide, fun c => by
      show 1 * (A o c - 1 * A o c) = 0
      omega⟩, fun c hc => absurd hc List.not_mem_nil⟩⟩
    have s0 : mx_S (mx_ls ord s) h (10 * 20 ^ 0) (mx_st A ord 0).1 (mx_st A ord 0).2 := hS
    exact ⟨i0, s0, show (1 : Int) ≤ 10 ^ 0 by decide, fun hk => ⟨(nxt 0 i0 s0 hk).1, (nxt 0 i0 s0 hk).2.2.1⟩⟩
  | succ k ih =>
    intro hk
    obtain ⟨i1, s1, d1, -⟩ := ih (by omega)
    obtain ⟨hp, hm, ne, i2⟩ := nxt k i1 s1 (by omega)
    have s2 := mx_Sstep nd hh s1 i1.1 hm ne
    rw [show 20 * (10 * 20 ^ k : Int) = 10 * 20 ^ (k + 1) from by rw [Int.pow_succ]; omega] at s2
    have dd : (mx_st A ord (k + 1)).1 ≤ 10 ^ (k + 1) := by
      have := (s1 (ord k) hm).2.2.2.1
      show (mx_st A ord k).2 (ord k) (ord k) ≤ _
      rw [Int.pow_succ]
      omega
    exact ⟨i2, s2, dd, fun hk' => ⟨(nxt (k + 1) i2 s2 hk').1, (nxt (k + 1) i2 s2 hk').2.2.1⟩⟩
end MXA
/-! the table's equations -/
def mx_A (T : Nat → Nat → Nat) (i j : Nat) : Int := if j = 8 then 10 else (if i = j then 10 else 0) - (T i j : Int)
theorem mx_sm_ix (f : Nat → Int) {n : Nat} : ∀ {os : List Nat}, os.Nodup → (∀ i, i ∈ os → i < n) → mx_sm f os = fb_si (fun j => if j ∈ os then f j else 0) n
  | [], _, _ => by
    rw [fb_si_cong (g := fun _ => 0) (fun k _ => if_neg List.not_mem_nil)]
    show (0 : Int) = _
    have : ∀ n, fb_si (fun _ => 0) n = 0 := fun n => by
      induction n with
      | zero => rfl
      | succ n ih => rw [fb_si_succ, ih]; rfl
    rw [this]
  | c :: os, hn, hl => by
    have hn' := List.nodup_cons.mp hn
    show f c + mx_sm f os = _
    rw [mx_sm_ix f hn'.2 (fun i hi => hl i (List.mem_cons_of_mem _ hi))]
    have hc := hl c List.mem_cons_self
    have e := fb_si_upd (fun j => if j ∈ os then f j else 0) (f c) hc
    have e2 : (if c ∈ os then f c else 0) = 0 := if_neg hn'.1
    simp only [e2] at e
    rw [fb_si_cong (f := fun j => if j ∈ c :: os then f j else 0) (g := fun j => if j = c then f c else (if j ∈ os then f j else 0)) (fun k _ => by
      by_cases q : k = c
      · rw [if_pos q, q, if_pos List.mem_cons_self]
      · rw [if_neg q]
        by_cases q2 : k ∈ os
        · rw [if_pos q2, if_pos (List.mem_cons_of_mem _ q2)]
        · rw [if_neg q2, if_neg (fun z => (List.mem_cons.mp z).elim q q2)]), e]
    omega
section MXH
variable {n b : Nat} {T : Nat → Nat → Nat} {os : List Nat}
theorem mx_dist (h8 : n ≤ 8) (hb : b < n) : ∃ d : Nat → Nat, d b = 0 ∧ ∀ i, i < n → (∃ k, mx_gv n (pg_Eb T) b k i) → ¬ i = b → 1 ≤ d i ∧ d i ≤ 7 ∧ ∃ j, j < n ∧ 0 < T i j ∧ d j + 1 ≤ d i := by
  have ch : ∀ i, ∃ x : Nat, i < n → (∃ k, mx_gv n (pg_Eb T) b k i) → x < n ∧ mx_gv n (pg_Eb T) b x i ∧ ∀ m, m < x → ¬ mx_gv n (pg_Eb T) b m i := by
    intro i
    by_cases c : i < n ∧ ∃ k, mx_gv n (pg_Eb T) b k i
    · obtain ⟨k, hk⟩ := c.2
      obtain ⟨x, hx⟩ := mx_gv_short c.1 hk
      exact ⟨x, fun _ _ => hx⟩
    · exact ⟨0, fun h1 h2 => absurd ⟨h1, h2⟩ c⟩
  have := Classical.axiomOfChoice ch
  obtain ⟨d, hd⟩ := this
  refine ⟨d, ?_, fun i hi hk hib => ?_⟩
  · have h0 : mx_gv n (pg_Eb T) b 0 b := rfl
    by_cases c : d b = 0
    · exact c
    · exact absurd h0 ((hd b hb ⟨0, h0⟩).2.2 0 (by omega))
  · obtain ⟨h1, h2, h3⟩ := hd i hi hk
    obtain ⟨e, he⟩ : ∃ e, e = d i := ⟨_, rfl⟩
    rw [← he] at h1 h2 h3 ⊢
    cases e with
    | zero => exact absurd h2 hib
    | succ e =>
      rcases h2 with h2 | ⟨j, hj, h4, h5⟩
      · exact absurd h2 (h3 e (by omega))
      · refine ⟨by omega, by omega, j, hj, h5, ?_⟩
        obtain ⟨-, -, h6⟩ := hd j hj ⟨e, h4⟩
        by_cases c : e < d j
        · exact absurd h4 (h6 e c)
        · omega
theorem mx_hex (h8 : n ≤ 8) (hb : b < n) (hr : ∀ i, i < n → fb_sm (T i) n = 10) (hn : os.Nodup) (ho : ∀ i, i ∈ os → i < n ∧ ¬ i = b ∧ ∃ k, mx_gv n (pg_Eb T) b k i) :
    ∃ h : Nat → Int, (∀ j, j ∈ os → 0 < h j) ∧ mx_S os h 10 1 (mx_A T) := by
  obtain ⟨d, d0, hd⟩ := mx_dist (T := T) h8 hb
  have hw : ∀ j, 11 ^ (8 - d j) ≤ 11 ^ 8 := fun j => Nat.pow_le_pow_right (by decide) (by omega)
  have offd : ∀ o j, o ∈ os → j ∈ os → j ≠ o → mx_A T o j = -(T o j : Int) := fun o j _ hj hjo => by
    unfold mx_A
    rw [if_neg (by have := (ho j hj).1; omega), if_neg (fun e => hjo e.symm)]
    omega
  have dia : ∀ o, o ∈ os → mx_A T o o = 10 - (T o o : Int) := fun o h => by
    unfold mx_A
    rw [if_neg (by have := (ho o h).1; omega), if_pos rfl]
  have sums : ∀ (g : Nat → Int) o, o ∈ os → mx_sm (fun j => mx_A T o j * g j) os = 10 * g o - mx_sm (fun j => (T o j : Int) * g j) os := by
    intro g o h
    rw [mx_sm_pick hn h, mx_sm_pick (f := fun j => (T o j : Int) * g j) hn h, dia o h]
    rw [mx_sm_cg (f := fun c => if c = o then 0 else mx_A T o c * g c) (g := fun c => (-1) * (if c = o then 0 else (T o c : Int) * g c)) (fun c hc => by
      by_cases e : c = o
      · rw [if_pos e, if_pos e]; rfl
      · rw [if_neg e, if_neg e, offd o c h hc e, Int.neg_mul]; omega), mx_sm_mul, Int.sub_mul]
    omega
  have natS : ∀ (f : Nat → Nat), mx_sm (fun j => (f j : Int)) os ≤ (fb_sm f n : Int) := by
    intro f
    rw [mx_sm_ix _ hn (fun i hi => (ho i hi).1), fb_si_cong (g := fun j => (((if j ∈ os then f j else 0) : Nat) : Int)) (fun k _ => by
      by_cases e : k ∈ os
      · rw [if_pos e, if_pos e]
      · rw [if_neg e, if_neg e]; rfl), fb_si_nat]
    have := fb_sm_le (f := fun j => if j ∈ os then f j else 0) (g := f) (n := n) (fun k _ => by
      show (if k ∈ os then f k else 0) ≤ f k
      by_cases e : k ∈ os
      · rw [if_pos e]; omega
      · rw [if_neg e]; omega)
    omega
  refine ⟨fun j => (11 ^ 8 : Int) - ((11 ^ (8 - d j) : Nat) : Int), fun j hj => ?_, fun o h => ⟨fun j hj hjo => ?_, ?_, ?_, ?_, ?_, ?_⟩⟩
  · obtain ⟨h1, h2, h3⟩ := ho j hj
    have h4 := (hd j h1 h3 h2).1
    have h5 : 11 ^ (8 - d j) ≤ 11 ^ 7 := Nat.pow_le_pow_right (by decide) (by omega)
    show (0 : Int) < 11 ^ 8 - ((11 ^ (8 - d j) : Nat) : Int)
    have h6 : (11 : Nat) ^ 7 < 11 ^ 8 := by decide
    have h7 : ((11 : Int) ^ 8) = ((11 ^ 8 : Nat) : Int) := by decide
    omega
  · rw [offd o j h hj hjo]; omega
  · have e := sums (fun _ => 1) o h
    have e1 : ∀ f : Nat → Int, mx_sm (fun j => f j * (fun _ => 1) j) os = mx_sm f os := fun f => mx_sm_cg (fun c _ => Int.mul_one _)
    rw [e1, e1] at e
    have q := natS (T o)
    rw [hr o (ho o h).1] at q
    rw [e]
    omega
  · rw [sums _ o h]
    obtain ⟨h1, h2, h3⟩ := ho o h
    obtain ⟨d1, d2, j, hj, ht, hdj⟩ := hd o h1 h3 h2
    have h7 : ((11 : Int) ^ 8) = ((11 ^ 8 : Nat) : Int) := by decide
    have q := natS (fun j => T o j * (11 ^ 8 - 11 ^ (8 - d j)))
    have ec : mx_sm (fun j => (T o j : Int) * ((11 ^ 8 : Int) - ((11 ^ (8 - d j) : Nat) : Int))) os = mx_sm (fun j => ((T o j * (11 ^ 8 - 11 ^ (8 - d j)) : Nat) : Int)) os := mx_sm_cg (fun c _ => by
      rw [Int.natCast_mul, Int.natCast_sub (hw c), h7])
    rw [ec]
    have tot : fb_sm (fun j => T o j * (11 ^ 8 - 11 ^ (8 - d j))) n + fb_sm (fun j => T o j * 11 ^ (8 - d j)) n = 10 * 11 ^ 8 := by
      rw [← fb_sm_add, ← hr o h1]
      have : ∀ m, fb_sm (fun k => T o k * (11 ^ 8 - 11 ^ (8 - d k)) + T o k * 11 ^ (8 - d k)) m = fb_sm (T o) m * 11 ^ 8 := fun m => by
        induction m with
        | zero => exact (Nat.zero_mul _).symm
        | succ m ih => rw [fb_sm_succ, ih, fb_sm_succ, ← Nat.mul_add, Nat.sub_add_cancel (hw m), Nat.add_mul]
      exact this n
    have low := fb_sm_part (fun j => T o j * 11 ^ (8 - d j)) hj
    have low2 : 11 ^ (8 - d j) ≤ T o j * 11 ^ (8 - d j) := Nat.le_mul_of_pos_left _ ht
    have low3 : 11 * 11 ^ (8 - d o) ≤ 11 ^ (8 - d j) := by
      have : 11 ^ (8 - d o + 1) ≤ 11 ^ (8 - d j) := Nat.pow_le_pow_right (by decide) (by omega)
      rw [Nat.pow_succ] at this
      omega
    have pos : 0 < 11 ^ (8 - d o) := Nat.pow_pos (by decide)
    have low' : fb_sm (fun j => T o j * 11 ^ (8 - d j)) j + T o j * 11 ^ (8 - d j) ≤ fb_sm (fun j => T o j * 11 ^ (8 - d j)) n := low
    show (0 : Int) < 10 * ((11 ^ 8 : Int) - ((11 ^ (8 - d o) : Nat) : Int)) - _
    rw [h7]
    omega
  · rw [dia o h]; omega
  · unfold mx_A
    rw [if_pos rfl]
    decide
  · unfold mx_A
    rw [if_pos rfl]
    decide
end MXH
