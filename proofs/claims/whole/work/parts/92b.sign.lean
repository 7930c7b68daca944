/-! ===== sums over a row of seats; signs and sizes that the clearing keeps ===== -/
def mx_sm (f : Nat → Int) : List Nat → Int
  | [] => 0
  | c :: L => f c + mx_sm f L
theorem mx_sm_cg {f g : Nat → Int} : ∀ {L : List Nat}, (∀ c, c ∈ L → f c = g c) → mx_sm f L = mx_sm g L
  | [], _ => rfl
  | c :: L, h => by
    show f c + mx_sm f L = g c + mx_sm g L
    rw [h c List.mem_cons_self, mx_sm_cg (fun d hd => h d (List.mem_cons_of_mem _ hd))]
theorem mx_sm_lin (f g : Nat → Int) (a b : Int) : ∀ L : List Nat, mx_sm (fun c => a * f c + b * g c) L = a * mx_sm f L + b * mx_sm g L
  | [] => by
    show (0 : Int) = a * 0 + b * 0
    rw [Int.mul_zero, Int.mul_zero]; rfl
  | c :: L => by
    show a * f c + b * g c + mx_sm (fun c => a * f c + b * g c) L = a * (f c + mx_sm f L) + b * (g c + mx_sm g L)
    rw [mx_sm_lin f g a b L]
    grind
theorem mx_sm_mul (f : Nat → Int) (a : Int) (L : List Nat) : mx_sm (fun c => a * f c) L = a * mx_sm f L := by
  have h := mx_sm_lin f f a 0 L
  rw [show (fun c => a * f c + 0 * f c) = (fun c => a * f c) from funext fun c => by rw [Int.zero_mul, Int.add_zero], Int.zero_mul, Int.add_zero] at h
  exact h
theorem mx_sm_mono {f g : Nat → Int} : ∀ {L : List Nat}, (∀ c, c ∈ L → f c ≤ g c) → mx_sm f L ≤ mx_sm g L
  | [], _ => Int.le_refl 0
  | c :: L, h => by
    have h1 := h c List.mem_cons_self
    have h2 := mx_sm_mono (L := L) (fun d hd => h d (List.mem_cons_of_mem _ hd))
    show f c + mx_sm f L ≤ g c + mx_sm g L
    omega
theorem mx_sm_0 : ∀ L : List Nat, mx_sm (fun _ => 0) L = 0
  | [] => rfl
  | _ :: L => by
    show 0 + mx_sm (fun _ => 0) L = 0
    rw [mx_sm_0 L]; rfl
theorem mx_sm_le0 {f : Nat → Int} {L : List Nat} (h : ∀ c, c ∈ L → f c ≤ 0) : mx_sm f L ≤ 0 := by
  have := mx_sm_mono (g := fun _ => 0) h
  rw [mx_sm_0] at this
  exact this
theorem mx_sm_ge0 {f : Nat → Int} {L : List Nat} (h : ∀ c, c ∈ L → 0 ≤ f c) : 0 ≤ mx_sm f L := by
  have := mx_sm_mono (f := fun _ => 0) h
  rw [mx_sm_0] at this
  exact this
theorem mx_sm_pick {f : Nat → Int} {p : Nat} : ∀ {L : List Nat}, L.Nodup → p ∈ L → mx_sm f L = f p + mx_sm (fun c => if c = p then 0 else f c) L
  | [], _, h => absurd h List.not_mem_nil
  | c :: L, hn, h => by
    have hn' := List.nodup_cons.mp hn
    show f c + mx_sm f L = f p + ((if c = p then 0 else f c) + mx_sm (fun c => if c = p then 0 else f c) L)
    by_cases e : c = p
    · subst e
      rw [if_pos rfl, mx_sm_cg (f := fun d => if d = c then 0 else f d) (g := f) (fun d hd => if_neg (fun (e : d = c) => hn'.1 (e ▸ hd)))]
      omega
    · rw [if_neg e, mx_sm_pick hn'.2 ((List.mem_cons.mp h).resolve_left (fun z => e z.symm))]
      omega
theorem mx_sm_le1 {f : Nat → Int} {p : Nat} {L : List Nat} (hn : L.Nodup) (hp : p ∈ L) (h : ∀ c, c ∈ L → c ≠ p → f c ≤ 0) : mx_sm f L ≤ f p := by
  rw [mx_sm_pick hn hp]
  have := mx_sm_le0 (f := fun c => if c = p then 0 else f c) (L := L) (fun c hc => by
    show (if c = p then 0 else f c) ≤ 0
    by_cases e : c = p
    · rw [if_pos e]; omega
    · rw [if_neg e]; exact h c hc e)
  omega
theorem mx_sm_le2 {f : Nat → Int} {p q : Nat} {L : List Nat} (hn : L.Nodup) (hp : p ∈ L) (hq : q ∈ L) (hpq : q ≠ p) (h : ∀ c, c ∈ L → c ≠ p → f c ≤ 0) : mx_sm f L ≤ f p + f q := by
  rw [mx_sm_pick hn hp]
  have := mx_sm_le1 (f := fun c => if c = p then 0 else f c) hn hq (fun c hc hcq => by
    show (if c = p then 0 else f c) ≤ 0
    by_cases e : c = p
    · rw [if_pos e]; omega
    · rw [if_neg e]; exact h c hc e)
  rw [if_neg hpq] at this
  omega
theorem mx_sm_swap (f : Nat → Nat → Int) (K : List Nat) : ∀ L : List Nat, mx_sm (fun i => mx_sm (fun j => f i j) K) L = mx_sm (fun j => mx_sm (fun i => f i j) L) K
  | [] => (mx_sm_0 K).symm
  | c :: L => by
    show mx_sm (fun j => f c j) K + mx_sm (fun i => mx_sm (fun j => f i j) K) L = mx_sm (fun j => f c j + mx_sm (fun i => f i j) L) K
    rw [mx_sm_swap f K L]
    have h := mx_sm_lin (fun j => f c j) (fun j => mx_sm (fun i => f i j) L) 1 1 K
    rw [show (fun j => 1 * f c j + 1 * mx_sm (fun i => f i j) L) = (fun j => f c j + mx_sm (fun i => f i j) L) from funext fun j => by omega] at h
    rw [h]
    omega
theorem mx_sm_all0 {f : Nat → Int} : ∀ {L : List Nat}, (∀ c, c ∈ L → 0 ≤ f c) → mx_sm f L ≤ 0 → ∀ c, c ∈ L → f c = 0
  | [], _, _, _, h => absurd h List.not_mem_nil
  | d :: L, h, hs, c, hc => by
    have h1 := h d List.mem_cons_self
    have h2 := mx_sm_ge0 (f := f) (L := L) (fun e he => h e (List.mem_cons_of_mem _ he))
    have h3 : f d + mx_sm f L ≤ 0 := hs
    rcases List.mem_cons.mp hc with rfl | hc
    · omega
    · exact mx_sm_all0 (fun e he => h e (List.mem_cons_of_mem _ he)) (by omega) c hc
/-! signs -/
def mx_S (os : List Nat) (h : Nat → Int) (B D : Int) (v : Nat → Nat → Int) : Prop :=
  ∀ o, o ∈ os → (∀ j, j ∈ os → j ≠ o → v o j ≤ 0) ∧ 0 ≤ mx_sm (v o) os ∧ 0 < mx_sm (fun j => v o j * h j) os ∧ v o o ≤ 10 * D ∧ 0 ≤ v o 8 ∧ v o 8 ≤ B
section MXS
variable {os : List Nat} {h : Nat → Int} {B D : Int} {v : Nat → Nat → Int}
theorem mx_pos (hn : os.Nodup) (hh : ∀ j, j ∈ os → 0 < h j) (hS : mx_S os h B D v) {o : Nat} (ho : o ∈ os) : 0 < v o o := by
  obtain ⟨s1, -, s3, -⟩ := hS o ho
  have := mx_sm_le1 (f := fun j => v o j * h j) hn ho (fun c hc hco => Int.mul_nonpos_of_nonpos_of_nonneg (s1 c hc hco) (Int.le_of_lt (hh c hc)))
  exact Int.pos_of_mul_pos_left (Int.lt_of_lt_of_le s3 this) (hh o ho)
theorem mx_off (hn : os.Nodup) (hS : mx_S os h B D v) {o j : Nat} (ho : o ∈ os) (hj : j ∈ os) (hoj : j ≠ o) : -(v o o) ≤ v o j ∧ v o j ≤ 0 := by
  obtain ⟨s1, s2, -⟩ := hS o ho
  have := mx_sm_le2 (f := v o) hn ho hj hoj s1
  have := s1 j hj hoj
  omega
theorem mx_Sstep (hn : os.Nodup) (hh : ∀ j, j ∈ os → 0 < h j) (hS : mx_S os h B D v) (hD : 0 < D) {p : Nat} (hp : p ∈ os) (ne : ∀ o, o ∈ os → o ≠ p → ∀ c, D * mx_nx D p v o c = v p p * v o c - v o p * v p c) : mx_S os h (20 * B) (v p p) (mx_nx D p v) := by
  have hpp := mx_pos hn hh hS hp
  obtain ⟨p1, p2, p3, p4, p5, p6⟩ := hS p hp
  intro o ho
  by_cases hop : o = p
  · subst hop
    rw [show mx_nx D o v o = v o from funext fun c => if_pos rfl]
    exact ⟨p1, p2, p3, by omega, p5, by omega⟩
  · obtain ⟨o1, o2, o3, o4, o5, o6⟩ := hS o ho
    have hoo := mx_pos hn hh hS ho
    obtain ⟨b1, b2⟩ := mx_off hn hS ho hp (fun e => hop e.symm)
    have hN := ne o ho hop
    have sumN : ∀ g : Nat → Int, D * mx_sm (fun j => mx_nx D p v o j * g j) os = v p p * mx_sm (fun j => v o j * g j) os + -(v o p) * mx_sm (fun j => v p j * g j) os := by
      intro g
      rw [← mx_sm_mul, ← mx_sm_lin]
      refine mx_sm_cg (fun c _ => ?_)
      have := hN c
      grind
    refine ⟨fun j hj hjo => ?_, ?_, ?_, ?_, ?_, ?_⟩
    · have q := hN j
      refine Int.le_of_mul_le_mul_left (a := D) ?_ hD
      rw [q, Int.mul_zero]
      by_cases hjp : j = p
      · subst hjp
        rw [Int.mul_comm]; omega
      · have a1 := Int.mul_nonpos_of_nonneg_of_nonpos (Int.le_of_lt hpp) (o1 j hj hjo)
        have a2 := Int.mul_nonneg_of_nonpos_of_nonpos b2 (p1 j hj hjp)
        omega
    · have q := sumN (fun _ => 1)
      have e1 : ∀ f : Nat → Int, mx_sm (fun j => f j * (fun _ => 1) j) os = mx_sm f os := fun f => mx_sm_cg (fun c _ => Int.mul_one _)
      rw [e1, e1, e1] at q
      refine Int.le_of_mul_le_mul_left (a := D) ?_ hD
      rw [q, Int.mul_zero]
      have a1 := Int.mul_nonneg (Int.le_of_lt hpp) o2
      have a2 := Int.mul_nonneg (a := -(v o p)) (by omega) p2
      omega
    · have q := sumN h
      refine Int.lt_of_mul_lt_mul_left (a := D) ?_ (Int.le_of_lt hD)
      rw [q, Int.mul_zero]
      have a1 := Int.mul_pos hpp o3
      have a2 := Int.mul_nonneg (a := -(v o p)) (by omega) (Int.le_of_lt p3)
      omega
    · have q := hN o
      refine Int.le_of_mul_le_mul_left (a := D) ?_ hD
      rw [q]
      have a1 := Int.mul_nonneg_of_nonpos_of_nonpos b2 (p1 o ho hop)
      have a2 := Int.mul_le_mul_of_nonneg_left o4 (Int.le_of_lt hpp)
      have e : v p p * (10 * D) = D * (10 * v p p) := by grind
      omega
    · have q := hN 8
      refine Int.le_of_mul_le_mul_left (a := D) ?_ hD
      rw [q, Int.mul_zero]
      have a1 := Int.mul_nonneg (Int.le_of_lt hpp) o5
      have a2 := Int.mul_nonneg (a := -(v o p)) (by omega) p5
      rw [Int.neg_mul] at a2
      omega
    · have q := hN 8
      refine Int.le_of_mul_le_mul_left (a := D) ?_ hD
      rw [q]
      have a1 := Int.mul_le_mul (a := v p p) (b := v o 8) (c := 10 * D) (d := B) p4 o6 o5 (by omega)
      have a2 := Int.mul_le_mul (a := -(v o p)) (b := v p 8) (c := 10 * D) (d := B) (by omega) p6 p5 (by omega)
      rw [Int.neg_mul] at a2
      have e : 10 * D * B = D * (10 * B) := by grind
      have e2 : D * (20 * B) = D * (10 * B) + D * (10 * B) := by grind
      omega
end MXS
/-! what vanishes on all the columns is nothing -/
theorem mx_sp_co {A : Nat → Nat → Int} : ∀ {os : List Nat} {x : Nat → Int}, os.Nodup → mx_sp (os.map A) x → ∃ u : Nat → Int, ∀ c, x c = mx_sm (fun i => u i * A i c) os
  | [], x, _, h => ⟨fun _ => 0, fun c => h c⟩
  | o :: os, x, hn, ⟨a, h⟩ => by
    have hn' := List.nodup_cons.mp hn
    obtain ⟨u, hu⟩ := mx_sp_co hn'.2 h
    refine ⟨fun i => if i = o then a else u i, fun c => ?_⟩
    show x c = (if o = o then a else u o) * A o c + mx_sm (fun i => (if i = o then a else u i) * A i c) os
    rw [if_pos rfl, mx_sm_cg (f := fun i => (if i = o then a else u i) * A i c) (g := fun i => u i * A i c) (fun i hi => by
      show (if i = o then a else u i) * A i c = u i * A i c
      rw [if_neg (fun (e : i = o) => hn'.1 (e ▸ hi))])]
    have := hu c
    omega
theorem mx_none {A : Nat → Nat → Int} {os : List Nat} {h : Nat → Int} (hn : os.Nodup) (hh : ∀ j, j ∈ os → 0 < h j) (hA : ∀ i, i ∈ os → ∀ j, j ∈ os → j ≠ i → A i j ≤ 0) (hH : ∀ i, i ∈ os → 0 < mx_sm (fun j => A i j * h j) os)
    {z : Nat → Int} (hz : mx_sq (os.map A) z) (h0 : ∀ j, j ∈ os → z j = 0) : ∀ c, z c = 0 := by
  obtain ⟨N, hN, hs⟩ := hz
  obtain ⟨u, hu⟩ := mx_sp_co hn hs
  have ab : ∀ x : Int, 0 ≤ (if x < 0 then -x else x) := fun x => by
    by_cases c : x < 0
    · rw [if_pos c]; omega
    · rw [if_neg c]; omega
  have col : ∀ j, j ∈ os → mx_sm (fun i => (if u i < 0 then -(u i) else u i) * A i j) os ≤ 0 := by
    intro j hj
    have e : mx_sm (fun i => u i * A i j) os = 0 := by rw [← hu j, h0 j hj, Int.mul_zero]
    by_cases c : u j < 0
    · have e2 : mx_sm (fun i => (-1) * (u i * A i j)) os = 0 := by rw [mx_sm_mul, e]; rfl
      refine Int.le_trans (mx_sm_mono (g := fun i => (-1) * (u i * A i j)) (fun i hi => ?_)) (Int.le_of_eq e2)
      by_cases hij : i = j
      · subst hij
        rw [if_pos c, Int.neg_mul]; omega
      · have q : -(u i) ≤ (if u i < 0 then -(u i) else u i) := by
          by_cases d : u i < 0
          · rw [if_pos d]; omega
          · rw [if_neg d]; omega
        have r := Int.mul_le_mul_of_nonpos_right q (hA i hi j hj (fun e => hij e.symm))
        rw [Int.neg_mul] at r
        omega
    · refine Int.le_trans (mx_sm_mono (g := fun i => u i * A i j) (fun i hi => ?_)) (Int.le_of_eq e)
      by_cases hij : i = j
      · subst hij
        rw [if_neg c]; omega
      · have q : u i ≤ (if u i < 0 then -(u i) else u i) := by
          by_cases d : u i < 0
          · rw [if_pos d]; omega
          · rw [if_neg d]; omega
        exact Int.mul_le_mul_of_nonpos_right q (hA i hi j hj (fun e => hij e.symm))
  have tot : mx_sm (fun i => (if u i < 0 then -(u i) else u i) * mx_sm (fun j => A i j * h j) os) os ≤ 0 := by
    have e : mx_sm (fun i => (if u i < 0 then -(u i) else u i) * mx_sm (fun j => A i j * h j) os) os = mx_sm (fun j => h j * mx_sm (fun i => (if u i < 0 then -(u i) else u i) * A i j) os) os := by
      rw [mx_sm_cg (g := fun i => mx_sm (fun j => (if u i < 0 then -(u i) else u i) * (A i j * h j)) os) (fun i _ => (mx_sm_mul _ _ _).symm), mx_sm_swap]
      refine mx_sm_cg (fun j _ => ?_)
      rw [← mx_sm_mul]
      refine mx_sm_cg (fun i _ => ?_)
      grind
    rw [e]
    exact mx_sm_le0 (fun j hj => Int.mul_nonpos_of_nonneg_of_nonpos (Int.le_of_lt (hh j hj)) (col j hj))
  have each := mx_sm_all0 (f := fun i => (if u i < 0 then -(u i) else u i) * mx_sm (fun j => A i j * h j) os) (fun i hi => Int.mul_nonneg (ab _) (Int.le_of_lt (hH i hi))) tot
  have u0 : ∀ i, i ∈ os → u i = 0 := by
    intro i hi
    have q := each i hi
    have q2 : (if u i < 0 then -(u i) else u i) = 0 := (Int.mul_eq_zero.mp q).resolve_right (by have := hH i hi; omega)
    by_cases d : u i < 0
    · rw [if_pos d] at q2; omega
    · rw [if_neg d] at q2; exact q2
  intro c
  have q := hu c
  rw [mx_sm_cg (g := fun _ => 0) (fun i hi => by rw [u0 i hi, Int.zero_mul]), mx_sm_0] at q
  exact (Int.mul_eq_zero.mp q).resolve_left (by omega)
