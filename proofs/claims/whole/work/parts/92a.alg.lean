/-! ===== rows of whole numbers: spans, determinants, how a table is cleared without fractions ===== -/
def mx_E (x : Nat → Int) : List Nat → (List Nat → Int) → Int
  | [], _ => 0
  | c :: L, F => x c * F L - mx_E x L (fun M => F (c :: M))
def mx_det : List (Nat → Int) → (List Nat → Int)
  | [] => fun _ => 1
  | x :: R => fun C => mx_E x C (mx_det R)
theorem mx_E_lin (x : Nat → Int) (a b : Int) : ∀ (L : List Nat) (F G : List Nat → Int), mx_E x L (fun M => a * F M + b * G M) = a * mx_E x L F + b * mx_E x L G
  | [], _, _ => by
    show (0 : Int) = a * 0 + b * 0
    rw [Int.mul_zero, Int.mul_zero]; rfl
  | c :: L, F, G => by
    show x c * (a * F L + b * G L) - mx_E x L (fun M => a * F (c :: M) + b * G (c :: M)) = a * (x c * F L - mx_E x L (fun M => F (c :: M))) + b * (x c * G L - mx_E x L (fun M => G (c :: M)))
    rw [mx_E_lin x a b L (fun M => F (c :: M)) (fun M => G (c :: M))]
    grind
theorem mx_E_anti (x y : Nat → Int) : ∀ (L : List Nat) (F : List Nat → Int), mx_E x L (fun M => mx_E y M F) + mx_E y L (fun M => mx_E x M F) = 0
  | [], _ => rfl
  | c :: L, F => by
    have h := mx_E_anti x y L (fun M => F (c :: M))
    have e : ∀ x y : Nat → Int, mx_E x (c :: L) (fun M => mx_E y M F) = x c * mx_E y L F - (y c * mx_E x L F - mx_E x L (fun M => mx_E y M (fun K => F (c :: K)))) := by
      intro x y
      show x c * mx_E y L F - mx_E x L (fun M => y c * F M - mx_E y M (fun K => F (c :: K))) = _
      have l := mx_E_lin x (y c) (-1) L F (fun M => mx_E y M (fun K => F (c :: K)))
      rw [show (fun M => y c * F M - mx_E y M (fun K => F (c :: K))) = (fun M => y c * F M + (-1) * mx_E y M (fun K => F (c :: K))) from funext fun M => by omega, l]
      omega
    rw [e x y, e y x]
    omega
theorem mx_E_0 (x : Nat → Int) : ∀ L : List Nat, mx_E x L (fun _ => 0) = 0
  | [] => rfl
  | c :: L => by
    show x c * 0 - mx_E x L (fun _ => 0) = 0
    rw [mx_E_0 x L, Int.mul_zero]; rfl
theorem mx_E_off {x : Nat → Int} : ∀ {L : List Nat} (F : List Nat → Int), (∀ c, c ∈ L → x c = 0) → mx_E x L F = 0
  | [], _, _ => rfl
  | c :: L, F, h => by
    show x c * F L - mx_E x L (fun M => F (c :: M)) = 0
    rw [h c List.mem_cons_self, mx_E_off _ (fun d hd => h d (List.mem_cons_of_mem _ hd)), Int.zero_mul]; rfl
theorem mx_E_row (x y : Nat → Int) (a b : Int) : ∀ (L : List Nat) (F : List Nat → Int), mx_E (fun c => a * x c + b * y c) L F = a * mx_E x L F + b * mx_E y L F
  | [], _ => by
    show (0 : Int) = a * 0 + b * 0
    rw [Int.mul_zero, Int.mul_zero]; rfl
  | c :: L, F => by
    show (a * x c + b * y c) * F L - mx_E (fun c => a * x c + b * y c) L (fun M => F (c :: M)) = a * (x c * F L - mx_E x L (fun M => F (c :: M))) + b * (y c * F L - mx_E y L (fun M => F (c :: M)))
    rw [mx_E_row x y a b L (fun M => F (c :: M))]
    grind
theorem mx_E_in (x : Nat → Int) : ∀ (R : List (Nat → Int)), x ∈ R → ∀ C : List Nat, mx_E x C (mx_det R) = 0
  | [], h, _ => absurd h List.not_mem_nil
  | y :: R, h, C => by
    have a := mx_E_anti x y C (mx_det R)
    show mx_E x C (fun M => mx_E y M (mx_det R)) = 0
    rcases List.mem_cons.mp h with rfl | h
    · omega
    · rw [show (fun M => mx_E x M (mx_det R)) = fun _ => 0 from funext fun M => mx_E_in x R h M, mx_E_0] at a
      omega
/-! spans -/
def mx_sp : List (Nat → Int) → (Nat → Int) → Prop
  | [], x => ∀ c, x c = 0
  | y :: R, x => ∃ a : Int, mx_sp R (fun c => x c - a * y c)
theorem mx_sp_cg {R : List (Nat → Int)} {x y : Nat → Int} (h : mx_sp R x) (e : ∀ c, x c = y c) : mx_sp R y := (funext e : x = y) ▸ h
theorem mx_sp_0 : ∀ R : List (Nat → Int), mx_sp R (fun _ => 0)
  | [] => fun _ => rfl
  | _ :: R => ⟨0, mx_sp_cg (mx_sp_0 R) (fun c => by rw [Int.zero_mul]; rfl)⟩
theorem mx_sp_lin : ∀ {R : List (Nat → Int)} {x y : Nat → Int} (a b : Int), mx_sp R x → mx_sp R y → mx_sp R (fun c => a * x c + b * y c)
  | [], x, y, a, b, hx, hy => fun c => by
    show a * x c + b * y c = 0
    rw [hx c, hy c, Int.mul_zero, Int.mul_zero]; rfl
  | z :: R, x, y, a, b, ⟨p, hp⟩, ⟨q, hq⟩ => ⟨a * p + b * q, mx_sp_cg (mx_sp_lin a b hp hq) (fun c => by grind)⟩
theorem mx_sp_mem : ∀ {R : List (Nat → Int)} {y : Nat → Int}, y ∈ R → mx_sp R y
  | [], _, h => absurd h List.not_mem_nil
  | z :: R, y, h => by
    rcases List.mem_cons.mp h with rfl | h
    · exact ⟨1, mx_sp_cg (mx_sp_0 R) (fun c => by omega)⟩
    · exact ⟨0, mx_sp_cg (mx_sp_mem h) (fun c => by omega)⟩
theorem mx_sp_sub {S : List (Nat → Int)} : ∀ {R : List (Nat → Int)} {x : Nat → Int}, mx_sp R x → (∀ y, y ∈ R → y ∈ S) → mx_sp S x
  | [], x, h, _ => mx_sp_cg (mx_sp_0 S) (fun c => (h c).symm)
  | z :: R, x, ⟨a, h⟩, hs => mx_sp_cg (mx_sp_lin 1 a (mx_sp_sub h (fun y hy => hs y (List.mem_cons_of_mem _ hy))) (mx_sp_mem (hs z List.mem_cons_self))) (fun c => by omega)
theorem mx_sp_E {S : List (Nat → Int)} (C : List Nat) : ∀ {R : List (Nat → Int)} {x : Nat → Int}, mx_sp R x → (∀ y, y ∈ R → y ∈ S) → mx_E x C (mx_det S) = 0
  | [], x, h, _ => mx_E_off _ (fun c _ => h c)
  | z :: R, x, ⟨a, h⟩, hs => by
    have e := mx_E_row (fun c => x c - a * z c) z 1 a C (mx_det S)
    rw [mx_sp_E C h (fun y hy => hs y (List.mem_cons_of_mem _ hy)), mx_E_in z S (hs z List.mem_cons_self) C, show (fun c => 1 * (x c - a * z c) + a * z c) = x from funext fun c => by omega] at e
    omega
def mx_sq (R : List (Nat → Int)) (x : Nat → Int) : Prop := ∃ N : Int, 0 < N ∧ mx_sp R (fun c => N * x c)
theorem mx_sq_cg {R : List (Nat → Int)} {x y : Nat → Int} (h : mx_sq R x) (e : ∀ c, x c = y c) : mx_sq R y := (funext e : x = y) ▸ h
theorem mx_sq_lin {R : List (Nat → Int)} {x y : Nat → Int} (a b : Int) (hx : mx_sq R x) (hy : mx_sq R y) : mx_sq R (fun c => a * x c + b * y c) := by
  obtain ⟨N, hN, h1⟩ := hx
  obtain ⟨M, hM, h2⟩ := hy
  refine ⟨N * M, Int.mul_pos hN hM, mx_sp_cg (mx_sp_lin (a * M) (b * N) h1 h2) (fun c => ?_)⟩
  grind
theorem mx_sq_div {R : List (Nat → Int)} {x : Nat → Int} {M : Int} (hM : 0 < M) (h : mx_sq R (fun c => M * x c)) : mx_sq R x := by
  obtain ⟨N, hN, h1⟩ := h
  exact ⟨N * M, Int.mul_pos hN hM, mx_sp_cg h1 (fun c => by rw [Int.mul_assoc])⟩
theorem mx_sq_mem {R : List (Nat → Int)} {y : Nat → Int} (h : y ∈ R) : mx_sq R y := ⟨1, by decide, mx_sp_cg (mx_sp_mem h) (fun c => by omega)⟩
theorem mx_sq_sub {S R : List (Nat → Int)} {x : Nat → Int} (h : mx_sq R x) (hs : ∀ y, y ∈ R → y ∈ S) : mx_sq S x := by
  obtain ⟨N, hN, h1⟩ := h
  exact ⟨N, hN, mx_sp_sub h1 hs⟩
theorem mx_key {R : List (Nat → Int)} {C : List Nat} {x s : Nat → Int} {N : Int} (h : mx_sq R (fun c => N * x c - s c)) (h0 : ∀ c, c ∈ C → s c = 0) (j : Nat) : N * mx_E x (j :: C) (mx_det R) = s j * mx_det R C := by
  obtain ⟨M, hM, h1⟩ := h
  have e := mx_sp_E (j :: C) h1 (fun y hy => hy)
  have e2 := mx_E_row x s (M * N) (-M) (j :: C) (mx_det R)
  rw [show (fun c => M * N * x c + -M * s c) = (fun c => M * (N * x c - s c)) from funext fun c => by grind, e] at e2
  have e3 : mx_E s (j :: C) (mx_det R) = s j * mx_det R C := by
    show s j * mx_det R C - mx_E s C (fun K => mx_det R (j :: K)) = _
    rw [mx_E_off _ h0, Int.sub_zero]
  rw [e3] at e2
  refine Int.eq_of_mul_eq_mul_left (a := M) (by omega) ?_
  grind
/-! one step: the row p clears its column everywhere; every quotient is whole -/
def mx_U (o : Nat) : Nat → Int := fun c => if c = o then 1 else 0
def mx_nx (D : Int) (p : Nat) (v : Nat → Nat → Int) : Nat → Nat → Int := fun o c => if o = p then v p c else (v p p * v o c - v o p * v p c) / D
def mx_I (A : Nat → Nat → Int) (os done : List Nat) (D : Int) (v : Nat → Nat → Int) : Prop :=
  0 < D ∧ mx_det (done.map A) done = D ∧ (∀ o, o ∈ os → o ∈ done → mx_sq (done.map A) (v o) ∧ v o o = D ∧ ∀ c, c ∈ done → c ≠ o → v o c = 0) ∧ (∀ o, o ∈ os → o ∉ done → mx_sq (done.map A) (fun c => v o c - D * A o c) ∧ ∀ c, c ∈ done → v o c = 0)
theorem mx_step {A : Nat → Nat → Int} {os done : List Nat} {D : Int} {v : Nat → Nat → Int} {p : Nat} (hI : mx_I A os done D v) (hp : p ∈ os) (hpd : p ∉ done) (hpp : 0 < v p p) :
    (∀ o, o ∈ os → o ≠ p → ∀ c, D * mx_nx D p v o c = v p p * v o c - v o p * v p c) ∧ mx_I A os (p :: done) (v p p) (mx_nx D p v) := by
  obtain ⟨hD, hdet, hdone, hrest⟩ := hI
  obtain ⟨sp, zp⟩ := hrest p hp hpd
  have hdet' : mx_det ((p :: done).map A) (p :: done) = v p p := by
    have k := mx_key (R := done.map A) (C := done) (x := A p) (s := v p) (N := D) (mx_sq_cg (mx_sq_lin (-1) 0 sp sp) (fun c => by omega)) zp p
    rw [hdet] at k
    refine Int.eq_of_mul_eq_mul_left (a := D) (by omega) ?_
    show D * mx_E (A p) (p :: done) (mx_det (done.map A)) = D * v p p
    rw [k, Int.mul_comm]
  have up : ∀ {x : Nat → Int}, mx_sq (done.map A) x → mx_sq ((p :: done).map A) x := fun h => mx_sq_sub h (fun y hy => List.mem_cons_of_mem _ hy)
  have svp : mx_sq ((p :: done).map A) (v p) := mx_sq_cg (mx_sq_lin 1 D (up sp) (mx_sq_mem (R := (p :: done).map A) (y := A p) List.mem_cons_self)) (fun c => by omega)
  have w0 : ∀ o, o ∈ os → o ≠ p → ∀ c, c ∈ p :: done → c ≠ o → v p p * v o c - v o p * v p c = 0 := by
    intro o ho hop c hc hco
    rcases List.mem_cons.mp hc with rfl | hc
    · rw [Int.mul_comm]; omega
    · by_cases hod : o ∈ done
      · rw [(hdone o ho hod).2.2 c hc hco, zp c hc, Int.mul_zero, Int.mul_zero]; rfl
      · rw [(hrest o ho hod).2 c hc, zp c hc, Int.mul_zero, Int.mul_zero]; rfl
  have wd : ∀ o, o ∈ os → o ≠ p → o ∈ done → mx_sq ((p :: done).map A) (fun c => v p p * v o c - v o p * v p c) ∧ v p p * v o o - v o p * v p o = v p p * D := by
    intro o ho hop hod
    refine ⟨mx_sq_cg (mx_sq_lin (v p p) (-(v o p)) (up (hdone o ho hod).1) svp) (fun c => by rw [Int.neg_mul]; omega), ?_⟩
    rw [(hdone o ho hod).2.1, zp o hod, Int.mul_zero, Int.sub_zero]
  have wr : ∀ o, o ∈ os → o ≠ p → o ∉ done → mx_sq ((p :: done).map A) (fun c => v p p * v o c - v o p * v p c - v p p * D * A o c) := by
    intro o ho hop hod
    refine mx_sq_cg (mx_sq_lin (v p p) (-(v o p)) (up (hrest o ho hod).1) svp) (fun c => ?_)
    grind
  have ex : ∀ o, o ∈ os → o ≠ p → ∀ c, D ∣ v p p * v o c - v o p * v p c := by
    intro o ho hop j
    by_cases hod : o ∈ done
    · have k := mx_key (R := (p :: done).map A) (C := p :: done) (x := mx_U o) (s := fun c => v p p * D * mx_U o c - (v p p * v o c - v o p * v p c)) (N := v p p * D) (mx_sq_cg (wd o ho hop hod).1 (fun c => by omega)) (fun c hc => by
        show v p p * D * mx_U o c - (v p p * v o c - v o p * v p c) = 0
        by_cases hco : c = o
        · subst hco
          rw [(wd c ho hop hod).2, show mx_U c c = 1 from if_pos rfl, Int.mul_one]; omega
        · rw [w0 o ho hop c hc hco, show mx_U o c = 0 from if_neg hco, Int.mul_zero]; rfl) j
      rw [hdet'] at k
      refine ⟨v p p * mx_U o j - mx_E (mx_U o) (j :: p :: done) (mx_det ((p :: done).map A)), ?_⟩
      refine Int.eq_of_mul_eq_mul_left (a := v p p) (by omega) ?_
      grind
    · have k := mx_key (R := (p :: done).map A) (C := p :: done) (x := A o) (s := fun c => v p p * v o c - v o p * v p c) (N := v p p * D) (mx_sq_cg (mx_sq_lin (-1) 0 (wr o ho hop hod) (wr o ho hop hod)) (fun c => by omega)) (fun c hc => w0 o ho hop c hc (fun e => by
        subst e
        rcases List.mem_cons.mp hc with e | e
        · exact hop e
        · exact hod e)) j
      rw [hdet'] at k
      refine ⟨mx_E (A o) (j :: p :: done) (mx_det ((p :: done).map A)), ?_⟩
      refine Int.eq_of_mul_eq_mul_left (a := v p p) (by omega) ?_
      grind
  have ne : ∀ o, o ∈ os → o ≠ p → ∀ c, D * mx_nx D p v o c = v p p * v o c - v o p * v p c := by
    intro o ho hop c
    unfold mx_nx
    rw [if_neg hop]
    exact Int.mul_ediv_cancel' (ex o ho hop c)
  have nz : ∀ o, o ∈ os → o ≠ p → ∀ c, c ∈ p :: done → c ≠ o → mx_nx D p v o c = 0 := by
    intro o ho hop c hc hco
    refine Int.eq_of_mul_eq_mul_left (a := D) (by omega) ?_
    rw [ne o ho hop c, w0 o ho hop c hc hco, Int.mul_zero]
  have np : mx_nx D p v p = v p := funext fun c => if_pos rfl
  refine ⟨ne, hpp, hdet', ?_, ?_⟩
  · intro o ho hod
    by_cases hop : o = p
    · subst hop
      rw [np]
      refine ⟨svp, rfl, fun c hc hco => ?_⟩
      rcases List.mem_cons.mp hc with e | e
      · exact absurd e hco
      · exact zp c e
    · have hod' : o ∈ done := (List.mem_cons.mp hod).resolve_left hop
      refine ⟨mx_sq_div hD (mx_sq_cg (wd o ho hop hod').1 (fun c => (ne o ho hop c).symm)), ?_, fun c hc hco => nz o ho hop c hc hco⟩
      refine Int.eq_of_mul_eq_mul_left (a := D) (by omega) ?_
      rw [ne o ho hop o, (wd o ho hop hod').2, Int.mul_comm]
  · intro o ho hod
    have hop : o ≠ p := fun e => hod (by rw [e]; exact List.mem_cons_self)
    have hod' : o ∉ done := fun e => hod (List.mem_cons_of_mem _ e)
    refine ⟨mx_sq_div hD (mx_sq_cg (wr o ho hop hod') (fun c => ?_)), fun c hc => nz o ho hop c hc (fun e => hod (e ▸ hc))⟩
    rw [Int.mul_sub, ne o ho hop c]
    grind
