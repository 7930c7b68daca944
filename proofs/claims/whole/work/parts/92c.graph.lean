/-! ===== which seats are met, which lead there ===== -/
def mx_gv (n : Nat) (E : Nat → Nat → Prop) (a : Nat) : Nat → Nat → Prop
  | 0, j => j = a
  | k + 1, j => mx_gv n E a k j ∨ ∃ i, i < n ∧ mx_gv n E a k i ∧ E i j
section MXG
variable {n : Nat} {E : Nat → Nat → Prop} {a : Nat}
theorem mx_gv_mono {k j : Nat} (h : mx_gv n E a k j) : ∀ m, mx_gv n E a (k + m) j
  | 0 => h
  | m + 1 => Or.inl (mx_gv_mono h m)
theorem mx_gv_le {k m j : Nat} (h : mx_gv n E a k j) (hm : k ≤ m) : mx_gv n E a m j := by
  have := mx_gv_mono h (m - k)
  rwa [show k + (m - k) = m by omega] at this
theorem mx_gv_min {j : Nat} : ∀ k, mx_gv n E a k j → ∃ l, l ≤ k ∧ mx_gv n E a l j ∧ ∀ m, m < l → ¬ mx_gv n E a m j
  | 0, h => ⟨0, by omega, h, fun m hm => absurd hm (by omega)⟩
  | k + 1, h => by
    by_cases c : mx_gv n E a k j
    · obtain ⟨l, h1, h2, h3⟩ := mx_gv_min k c
      exact ⟨l, by omega, h2, h3⟩
    · exact ⟨k + 1, by omega, h, fun m hm q => c (mx_gv_le q (by omega))⟩
theorem mx_gv_chain : ∀ (k : Nat) (j : Nat), j < n → mx_gv n E a k j → (∀ m, m < k → ¬ mx_gv n E a m j) → ∀ m, m ≤ k → ∃ x, x < n ∧ mx_gv n E a m x ∧ ∀ l, l < m → ¬ mx_gv n E a l x
  | 0, j, hj, h, hm, m, hmk => ⟨j, hj, by rw [show m = 0 by omega]; exact h, fun l hl => absurd hl (by omega)⟩
  | k + 1, j, hj, h, hm, m, hmk => by
    by_cases e : m = k + 1
    · subst e
      exact ⟨j, hj, h, hm⟩
    · rcases h with h | ⟨i, hi, h1, h2⟩
      · exact absurd h (hm k (by omega))
      · exact mx_gv_chain k i hi h1 (fun l hl q => hm (l + 1) (by omega) (Or.inr ⟨i, hi, q, h2⟩)) m (by omega)
theorem mx_gv_short {k j : Nat} (hj : j < n) (h : mx_gv n E a k j) : ∃ l, l < n ∧ mx_gv n E a l j ∧ ∀ m, m < l → ¬ mx_gv n E a m j := by
  obtain ⟨l, -, h2, h3⟩ := mx_gv_min k h
  have ch := mx_gv_chain l j hj h2 h3
  have : ∃ f : Nat → Nat, ∀ m, m ≤ l → f m < n ∧ mx_gv n E a m (f m) ∧ ∀ q, q < m → ¬ mx_gv n E a q (f m) :=
    ⟨fun m => if h : m ≤ l then (ch m h).choose else 0, fun m hm => by
      have e : (fun m => if h : m ≤ l then (ch m h).choose else 0) m = (ch m hm).choose := dif_pos hm
      rw [e]
      exact (ch m hm).choose_spec⟩
  obtain ⟨f, hf⟩ := this
  have hole := fb_holes n (l + 1) f (fun i hi => (hf i (by omega)).1) (fun i j hij hj e => (hf j (by omega)).2.2 i hij (by rw [← e]; exact (hf i (by omega)).2.1))
  exact ⟨l, by omega, h2, h3⟩
theorem mx_gv_pre {i j : Nat} (hi : i < n) (hij : E i j) : ∀ {k x : Nat}, mx_gv n E j k x → mx_gv n E i (k + 1) x
  | 0, x, h => by
    have : x = j := h
    subst this
    exact Or.inr ⟨i, hi, rfl, hij⟩
  | k + 1, x, h => by
    rcases h with h | ⟨y, hy, h1, h2⟩
    · exact Or.inl (mx_gv_pre hi hij h)
    · exact Or.inr ⟨y, hy, mx_gv_pre hi hij h1, h2⟩
end MXG
/-! as bits -/
def pg_sc (T : Nat → Nat → Nat) (n q : Nat) : Nat := py_mask (fun j => decide (0 < T q j)) n
def pg_rs (T : Nat → Nat → Nat) (n b q M : Nat) : Nat := if M.testBit q = true ∧ ¬ q = b then M ||| pg_sc T n q else M
def pg_rd (T : Nat → Nat → Nat) (n b : Nat) : Nat → Nat → Nat
  | 0, M => M
  | q + 1, M => pg_rs T n b q (pg_rd T n b q M)
def pg_it (T : Nat → Nat → Nat) (n b : Nat) : Nat → Nat → Nat
  | 0, M => M
  | t + 1, M => pg_rd T n b n (pg_it T n b t M)
def pg_ls (T : Nat → Nat → Nat) (n q M : Nat) : Nat := if (pg_sc T n q &&& M) = 0 then M else M ||| 2 ^ q
def pg_lr (T : Nat → Nat → Nat) (n : Nat) : Nat → Nat → Nat
  | 0, M => M
  | q + 1, M => pg_ls T n q (pg_lr T n q M)
def pg_lt (T : Nat → Nat → Nat) (n : Nat) : Nat → Nat → Nat
  | 0, M => M
  | t + 1, M => pg_lr T n n (pg_lt T n t M)
def pg_Ef (T : Nat → Nat → Nat) (b i j : Nat) : Prop := ¬ i = b ∧ 0 < T i j
def pg_Eb (T : Nat → Nat → Nat) (i j : Nat) : Prop := 0 < T j i
section MXB
variable {n a b : Nat} {T : Nat → Nat → Nat}
theorem pg_sc_bit {q j : Nat} : (pg_sc T n q).testBit j = true ↔ j < n ∧ 0 < T q j := by
  unfold pg_sc
  rw [py_mask_bit, ← Bool.decide_and, decide_eq_true_iff]
theorem pg_rs_lt {q M : Nat} (h : M < 2 ^ n) : pg_rs T n b q M < 2 ^ n := by
  unfold pg_rs
  by_cases c : M.testBit q = true ∧ ¬ q = b
  · rw [if_pos c]; exact Nat.or_lt_two_pow h (py_mask_lt _ n)
  · rw [if_neg c]; exact h
theorem pg_rd_lt {M : Nat} (h : M < 2 ^ n) : ∀ q, pg_rd T n b q M < 2 ^ n
  | 0 => h
  | q + 1 => pg_rs_lt (pg_rd_lt h q)
theorem pg_it_lt {M : Nat} (h : M < 2 ^ n) : ∀ t, pg_it T n b t M < 2 ^ n
  | 0 => h
  | t + 1 => pg_rd_lt (pg_it_lt h t) n
theorem pg_rs_sub {q M j : Nat} (h : M.testBit j = true) : (pg_rs T n b q M).testBit j = true := by
  unfold pg_rs
  by_cases c : M.testBit q = true ∧ ¬ q = b
  · rw [if_pos c, Nat.testBit_or, h]; rfl
  · rw [if_neg c]; exact h
theorem pg_rd_sub {M j : Nat} (h : M.testBit j = true) : ∀ q, (pg_rd T n b q M).testBit j = true
  | 0 => h
  | q + 1 => pg_rs_sub (pg_rd_sub h q)
theorem pg_rd_has {M i j : Nat} (hi : M.testBit i = true) (hb : ¬ i = b) (hj : j < n) (ht : 0 < T i j) : ∀ q, i < q → (pg_rd T n b q M).testBit j = true
  | 0, h => absurd h (by omega)
  | q + 1, h => by
    by_cases e : i = q
    · subst e
      show (pg_rs T n b i (pg_rd T n b i M)).testBit j = true
      unfold pg_rs
      rw [if_pos ⟨pg_rd_sub hi i, hb⟩, Nat.testBit_or, pg_sc_bit.mpr ⟨hj, ht⟩, Bool.or_true]
    · exact pg_rs_sub (pg_rd_has hi hb hj ht q (by omega))
theorem pg_rd_snd {M : Nat} (h : ∀ j, M.testBit j = true → j < n ∧ ∃ k, mx_gv n (pg_Ef T b) a k j) : ∀ q j, (pg_rd T n b q M).testBit j = true → j < n ∧ ∃ k, mx_gv n (pg_Ef T b) a k j
  | 0, j, hj => h j hj
  | q + 1, j, hj => by
    have hj' : (pg_rs T n b q (pg_rd T n b q M)).testBit j = true := hj
    unfold pg_rs at hj'
    by_cases c : (pg_rd T n b q M).testBit q = true ∧ ¬ q = b
    · rw [if_pos c, Nat.testBit_or, Bool.or_eq_true] at hj'
      rcases hj' with hj' | hj'
      · exact pg_rd_snd h q j hj'
      · obtain ⟨h1, h2⟩ := pg_sc_bit.mp hj'
        obtain ⟨h3, k, h4⟩ := pg_rd_snd h q q c.1
        exact ⟨h1, k + 1, Or.inr ⟨q, h3, h4, c.2, h2⟩⟩
    · rw [if_neg c] at hj'
      exact pg_rd_snd h q j hj'
theorem pg_it_snd (ha : a < n) : ∀ t j, (pg_it T n b t (2 ^ a)).testBit j = true → j < n ∧ ∃ k, mx_gv n (pg_Ef T b) a k j
  | 0, j, h => by
    have h' : (2 ^ a).testBit j = true := h
    rw [Nat.testBit_two_pow, decide_eq_true_iff] at h'
    subst h'
    exact ⟨ha, 0, rfl⟩
  | t + 1, j, h => pg_rd_snd (pg_it_snd ha t) n j h
theorem pg_it_cpl (hz : ∀ i j, n ≤ i ∨ n ≤ j → T i j = 0) : ∀ t j, mx_gv n (pg_Ef T b) a t j → (pg_it T n b t (2 ^ a)).testBit j = true
  | 0, j, h => by
    have h' : j = a := h
    subst h'
    show (2 ^ j).testBit j = true
    rw [Nat.testBit_two_pow, decide_eq_true rfl]
  | t + 1, j, h => by
    rcases h with h | ⟨i, hi, h1, h2, h3⟩
    · exact pg_rd_sub (pg_it_cpl hz t j h) n
    · refine pg_rd_has (pg_it_cpl hz t i h1) h2 ?_ h3 n hi
      by_cases c : j < n
      · exact c
      · rw [hz i j (by omega)] at h3; omega
theorem pg_it_bit (hz : ∀ i j, n ≤ i ∨ n ≤ j → T i j = 0) (ha : a < n) {t : Nat} (ht : n ≤ t + 1) {j : Nat} : (pg_it T n b t (2 ^ a)).testBit j = true ↔ j < n ∧ ∃ k, mx_gv n (pg_Ef T b) a k j := by
  constructor
  · exact pg_it_snd ha t j
  · rintro ⟨hj, k, h⟩
    obtain ⟨l, h1, h2, -⟩ := mx_gv_short hj h
    exact pg_it_cpl hz t j (mx_gv_le h2 (by omega))
theorem pg_it_eq (hz : ∀ i j, n ≤ i ∨ n ≤ j → T i j = 0) (ha : a < n) {t s : Nat} (ht : n ≤ t + 1) (hs : n ≤ s + 1) : pg_it T n b t (2 ^ a) = pg_it T n b s (2 ^ a) := by
  apply Nat.eq_of_testBit_eq
  intro j
  rw [Bool.eq_iff_iff, pg_it_bit hz ha ht, pg_it_bit hz ha hs]
/-! leading there -/
theorem pg_ls_sub {q M j : Nat} (h : M.testBit j = true) : (pg_ls T n q M).testBit j = true := by
  unfold pg_ls
  by_cases c : (pg_sc T n q &&& M) = 0
  · rw [if_pos c]; exact h
  · rw [if_neg c, Nat.testBit_or, h]; rfl
theorem pg_lr_sub {M j : Nat} (h : M.testBit j = true) : ∀ q, (pg_lr T n q M).testBit j = true
  | 0 => h
  | q + 1 => pg_ls_sub (pg_lr_sub h q)
theorem pg_lt_lt {M : Nat} (h : M < 2 ^ n) : ∀ t, pg_lt T n t M < 2 ^ n := by
  have A : ∀ q, q ≤ n → ∀ M, M < 2 ^ n → pg_lr T n q M < 2 ^ n := by
    intro q
    induction q with
    | zero => intro _ M h; exact h
    | succ q ih =>
      intro hq M h
      show pg_ls T n q (pg_lr T n q M) < 2 ^ n
      unfold pg_ls
      have := ih (by omega) M h
      by_cases c : (pg_sc T n q &&& pg_lr T n q M) = 0
      · rw [if_pos c]; exact this
      · rw [if_neg c]; exact Nat.or_lt_two_pow this (Nat.pow_lt_pow_right (by decide) (by omega))
  intro t
  induction t with
  | zero => exact h
  | succ t ih => exact A n (by omega) _ ih
theorem pg_and_ne {A M : Nat} (h : ¬ (A &&& M) = 0) : ∃ j, A.testBit j = true ∧ M.testBit j = true := by
  by_cases c : ∃ j, A.testBit j = true ∧ M.testBit j = true
  · exact c
  · refine absurd (Nat.eq_of_testBit_eq (fun j => ?_)) h
    rw [Nat.testBit_and, Nat.zero_testBit]
    cases e1 : A.testBit j
    · rfl
    · cases e2 : M.testBit j
      · rfl
      · exact absurd ⟨j, e1, e2⟩ c
theorem pg_and_ne' {A M j : Nat} (h1 : A.testBit j = true) (h2 : M.testBit j = true) : ¬ (A &&& M) = 0 := by
  intro z
  have := Nat.testBit_and A M j
  rw [z, Nat.zero_testBit, h1, h2] at this
  exact absurd this (by decide)
theorem pg_lr_snd {M : Nat} (h : ∀ j, M.testBit j = true → j < n ∧ ∃ k, mx_gv n (pg_Eb T) b k j) : ∀ q, q ≤ n → ∀ j, (pg_lr T n q M).testBit j = true → j < n ∧ ∃ k, mx_gv n (pg_Eb T) b k j
  | 0, _, j, hj => h j hj
  | q + 1, hq, j, hj => by
    have hj' : (pg_ls T n q (pg_lr T n q M)).testBit j = true := hj
    unfold pg_ls at hj'
    by_cases c : (pg_sc T n q &&& pg_lr T n q M) = 0
    · rw [if_pos c] at hj'
      exact pg_lr_snd h q (by omega) j hj'
    · rw [if_neg c, fb_bit_set, Bool.or_eq_true, decide_eq_true_iff] at hj'
      rcases hj' with hj' | hj'
      · exact pg_lr_snd h q (by omega) j hj'
      · subst hj'
        obtain ⟨x, x1, x2⟩ := pg_and_ne c
        obtain ⟨y1, y2⟩ := pg_sc_bit.mp x1
        obtain ⟨h3, k, h4⟩ := pg_lr_snd h j (by omega) x x2
        exact ⟨by omega, k + 1, Or.inr ⟨x, h3, h4, y2⟩⟩
theorem pg_lr_has {M i j : Nat} (hj : M.testBit j = true) (hjn : j < n) (ht : 0 < T i j) : ∀ q, i < q → (pg_lr T n q M).testBit i = true
  | 0, h => absurd h (by omega)
  | q + 1, h => by
    by_cases e : i = q
    · subst e
      show (pg_ls T n i (pg_lr T n i M)).testBit i = true
      unfold pg_ls
      rw [if_neg (pg_and_ne' (pg_sc_bit.mpr ⟨hjn, ht⟩) (pg_lr_sub hj i)), fb_bit_set, decide_eq_true rfl, Bool.or_true]
    · exact pg_ls_sub (pg_lr_has hj hjn ht q (by omega))
theorem pg_lt_bit (hz : ∀ i j, n ≤ i ∨ n ≤ j → T i j = 0) (hb : b < n) {j : Nat} : (pg_lt T n n (2 ^ b)).testBit j = true ↔ j < n ∧ ∃ k, mx_gv n (pg_Eb T) b k j := by
  have snd : ∀ t j, (pg_lt T n t (2 ^ b)).testBit j = true → j < n ∧ ∃ k, mx_gv n (pg_Eb T) b k j := by
    intro t
    induction t with
    | zero =>
      intro j h
      have h' : (2 ^ b).testBit j = true := h
      rw [Nat.testBit_two_pow, decide_eq_true_iff] at h'
      subst h'
      exact ⟨hb, 0, rfl⟩
    | succ t ih => exact fun j h => pg_lr_snd ih n (by omega) j h
  have cpl : ∀ t j, mx_gv n (pg_Eb T) b t j → (pg_lt T n t (2 ^ b)).testBit j = true := by
    intro t
    induction t with
    | zero =>
      intro j h
      have h' : j = b := h
      subst h'
      show (2 ^ j).testBit j = true
      rw [Nat.testBit_two_pow, decide_eq_true rfl]
    | succ t ih =>
      intro j h
      rcases h with h | ⟨i, hi, h1, h2⟩
      · exact pg_lr_sub (ih j h) n
      · have h2' : 0 < T j i := h2
        refine pg_lr_has (ih i h1) hi h2' n ?_
        by_cases c : j < n
        · exact c
        · rw [hz j i (by omega)] at h2'; omega
  constructor
  · exact snd n j
  · rintro ⟨hj, k, h⟩
    obtain ⟨l, h1, h2, -⟩ := mx_gv_short hj h
    exact cpl n j (mx_gv_le h2 (by omega))
/-- leading there is reaching it -/
theorem pg_lead_reach : ∀ k i, i < n → mx_gv n (pg_Eb T) b k i → ∃ m, mx_gv n (pg_Ef T b) i m b
  | 0, i, _, h => ⟨0, by have h' : i = b := h; exact h'.symm⟩
  | k + 1, i, hi, h => by
    rcases h with h | ⟨j, hj, h1, h2⟩
    · exact pg_lead_reach k i hi h
    · by_cases e : i = b
      · exact ⟨0, e.symm⟩
      · obtain ⟨m, hm⟩ := pg_lead_reach k j hj h1
        exact ⟨m + 1, mx_gv_pre hi ⟨e, h2⟩ hm⟩
theorem pg_reach_lead {i : Nat} : ∀ m x, mx_gv n (pg_Ef T b) i m x → x < n → (∃ k, mx_gv n (pg_Eb T) b k x) → ∃ k, mx_gv n (pg_Eb T) b k i
  | 0, x, h, _, hl => by
    have h' : x = i := h
    rw [← h']; exact hl
  | m + 1, x, h, hx, ⟨k, hl⟩ => by
    rcases h with h | ⟨y, hy, h1, h2⟩
    · exact pg_reach_lead m x h hx ⟨k, hl⟩
    · exact pg_reach_lead m y h1 hy ⟨k + 1, Or.inr ⟨x, hx, hl, h2.2⟩⟩
end MXB
