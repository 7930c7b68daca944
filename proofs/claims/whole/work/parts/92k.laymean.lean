/-! ===== the reference: its rows laid, its mean ===== -/
theorem py_minus : ∀ U, U < 256 → ∀ b, b < 8 → (nI U &&& ((1 <<< (nI b &&& 31)) ^^^ (-1))) = nI (py_mask (fun j => U.testBit j && decide (¬ j = b)) 8) := by decide +kernel
section PYLM
variable {n a b s : Nat} {T : Nat → Nat → Nat} {mt : Nat → Int32} {ord : Nat → Nat} {num : Nat → Int32} {Sm : Nat}
theorem py_lr14 {i x : Nat} (hx : x < 8) (v1 v2 v3 : Int32) : ∀ (d y m : Nat) (w : Nat → Int64), y + d = 9 → d < m → (∀ z, z < y → w (9 * x + z) = 0) → ∃ w' : Nat → Int64, zf_X9_layRow_14 mt (nI n) num m w v1 v2 v3 (nI (9 * x)) (nI y) = zf_X9_layRow_41 mt (nI n) num zfuel w' v1 v2 v3 (nI (9 * x)) 0 ∧ (∀ z, z < 9 → w' (9 * x + z) = 0) ∧ ∀ q z, ¬ q = x → z < 9 → w' (9 * q + z) = w (9 * q + z) := by
  intro d
  induction d with
  | zero =>
    intro y m w e1 e2 r
    obtain ⟨f, rfl⟩ : ∃ f, m = f + 1 := ⟨m - 1, by omega⟩
    refine ⟨w, ?_, fun z hz => r z (by omega), fun _ _ _ _ => rfl⟩
    have : y = 9 := by omega
    subst this
    show zf_X9_layRow_14_b _ _ _ _ _ _ _ _ _ _ = _
    unfold zf_X9_layRow_14_b
    rw [if_pos (show (9 : Int32) ≤ nI 9 by decide)]
  | succ d ih =>
    intro y m w e1 e2 r
    obtain ⟨f, rfl⟩ : ∃ f, m = f + 1 := ⟨m - 1, by omega⟩
    obtain ⟨w', g1, g2, g3⟩ := ih (y + 1) f (vp_updL w (9 * x + y) 0) (by omega) (by omega) (fun z hz => by
      by_cases e : z = y
      · rw [e, pk_uLs]
      · rw [pk_uLn (by omega)]; exact r z (by omega))
    refine ⟨w', ?_, g2, fun q z hq hz => by rw [g3 q z hq hz, pk_uLn (by omega)]⟩
    rw [← g1]
    show zf_X9_layRow_14_b _ _ _ _ _ _ _ _ _ _ = _
    unfold zf_X9_layRow_14_b
    rw [if_neg (show ¬ (9 : Int32) ≤ nI y from nI_ge (a := y) (b := 9) (by omega) (by decide)), nI_add, if_neg (tn_in (a := 9 * x + y) (N := 72) (by omega) (by decide)), tn_cl (by omega), show nI y + (1 : Int32) = nI (y + 1) from nI_1 y]
theorem py_lr41 (h8 : n ≤ 8) (hm : ∀ i j, i < 8 → j < 8 → mt (8 * i + j) = nI (T i j)) (hT : ∀ i j, T i j ≤ 10) (h7 : s ≤ 7) (hE : py_en n (fun i => Sm.testBit i = true) ord s) (hnum : ∀ r, r < s → num (ord r) = nI r) {x : Nat} (hx : x < s) : ∀ (d j m : Nat) (w : Nat → Int64), j + d = n → d < m → (∀ y, y < s → w (9 * x + y) = mx_L (if ord y < j then -(T (ord x) (ord y) : Int) else 0)) →
    ∃ w' : Nat → Int64, zf_X9_layRow_41 mt (nI n) num m w (nI (ord x)) (nI Sm) (nI s) (nI (9 * x)) (nI j) = some w' ∧ (∀ y, y ≤ s → w' (9 * x + y) = mx_L (mx_A T (ord x) (mx_oc ord s y))) ∧ ∀ q z, ¬ q = x → z < 9 → w' (9 * q + z) = w (9 * q + z) := by
  obtain ⟨E1, E2, E3⟩ := hE
  have ox := (E1 x hx).1
  intro d
  induction d with
  | zero =>
    intro j m w e1 e2 r
    obtain ⟨f, rfl⟩ : ∃ f, m = f + 1 := ⟨m - 1, by omega⟩
    have : j = n := by omega
    subst this
    refine ⟨vp_updL (vp_updL w (9 * x + x) (w (9 * x + x) + 10)) (9 * x + s) 10, ?_, fun y hy => ?_, fun q z hq hz => by rw [pk_uLn (by omega), pk_uLn (by omega)]⟩
    · show zf_X9_layRow_41_b _ _ _ _ _ _ _ _ _ _ = _
      unfold zf_X9_layRow_41_b
      rw [if_pos ((tn_le (by omega) (by omega)).mpr (by omega)), if_neg (tn_in (a := ord x) (N := 8) (by omega) (by decide)), tn_cl (a := ord x) (by omega), hnum x hx, nI_add, nI_add, if_neg (tn_in (a := 9 * x + x) (N := 72) (by omega) (by decide)), if_neg (tn_in (a := 9 * x + s) (N := 72) (by omega) (by decide)), tn_cl (a := 9 * x + x) (by omega), tn_cl (a := 9 * x + s) (by omega)]
    · by_cases c : y = s
      · rw [c, pk_uLs, show mx_oc ord s s = 8 from if_neg (by omega)]
        unfold mx_A
        rw [if_pos rfl]
        rfl
      · have ys : y < s := by omega
        have oy := (E1 y ys).1
        rw [pk_uLn (by omega), show mx_oc ord s y = ord y from if_pos ys]
        unfold mx_A
        rw [if_neg (by omega)]
        by_cases c2 : y = x
        · rw [c2, pk_uLs, r x hx, if_pos ox, if_pos rfl, show (10 : Int64) = mx_L 10 from rfl, mx_L_add]
          congr 1
          omega
        · rw [pk_uLn (by omega), r y ys, if_pos oy, if_neg (fun z => by
            rcases Nat.lt_or_gt_of_ne c2 with q | q
            · exact E2 y x q hx z.symm
            · exact E2 x y q ys z)]
          congr 1
          omega
  | succ d ih =>
    intro j m w e1 e2 r
    obtain ⟨f, rfl⟩ : ∃ f, m = f + 1 := ⟨m - 1, by omega⟩
    by_cases c : Sm.testBit j = true
    · obtain ⟨p, p1, p2⟩ := E3 j (by omega) c
      have hTt := hT (ord x) j
      obtain ⟨w', g1, g2, g3⟩ := ih (j + 1) f (vp_updL w (9 * x + p) (mx_L (0 - (T (ord x) j : Int)))) (by omega) (by omega) (fun y hy => by
        by_cases e : y = p
        · rw [e, pk_uLs, p2, if_pos (by omega)]
          congr 1
          omega
        · rw [pk_uLn (by omega), r y hy]
          have hne : ¬ ord y = j := fun z => by
            rcases Nat.lt_or_gt_of_ne e with q | q
            · exact E2 y p q p1 (by rw [z, p2])
            · exact E2 p y q hy (by rw [z, p2])
          by_cases c2 : ord y < j
          · rw [if_pos c2, if_pos (by omega)]
          · rw [if_neg c2, if_neg (by omega)])
      refine ⟨w', ?_, g2, fun q z hq hz => by rw [g3 q z hq hz, pk_uLn (by omega)]⟩
      rw [← g1]
      show zf_X9_layRow_41_b _ _ _ _ _ _ _ _ _ _ = _
      unfold zf_X9_layRow_41_b zf_X9_layRow_91
      have hnj : num j = nI p := by rw [← p2]; exact hnum p p1
      rw [if_neg (nI_ge (a := j) (b := n) (by omega) (by omega)), if_pos ((py_pick1 (by omega)).mpr c), if_neg (tn_in (a := j) (N := 8) (by omega) (by decide)), tn_cl (a := j) (by omega), hnj, nI_add, if_neg (tn_in (a := 9 * x + p) (N := 72) (by omega) (by decide)), py_ix', if_neg (tn_in (a := 8 * ord x + j) (N := 64) (by omega) (by decide)), tn_cl (a := 9 * x + p) (by omega), tn_cl (a := 8 * ord x + j) (by omega), hm (ord x) j (by omega) (by omega), r p p1, p2, if_neg (by omega), tl_i (by omega), ← mx_L_nat, mx_L_sub, show nI j + (1 : Int32) = nI (j + 1) from nI_1 j]
    · obtain ⟨w', g1, g2, g3⟩ := ih (j + 1) f w (by omega) (by omega) (fun y hy => by
        rw [r y hy]
        have hne : ¬ ord y = j := fun z => c (by rw [← z]; exact (E1 y hy).2)
        by_cases c2 : ord y < j
        · rw [if_pos c2, if_pos (by omega)]
        · rw [if_neg c2, if_neg (by omega)])
      refine ⟨w', ?_, g2, g3⟩
      rw [← g1]
      show zf_X9_layRow_41_b _ _ _ _ _ _ _ _ _ _ = _
      unfold zf_X9_layRow_41_b zf_X9_layRow_91
      rw [if_neg (nI_ge (a := j) (b := n) (by omega) (by omega)), if_neg (fun z => c ((py_pick1 (by omega)).mp z)), show nI j + (1 : Int32) = nI (j + 1) from nI_1 j]
theorem py_layRow (h8 : n ≤ 8) (hm : ∀ i j, i < 8 → j < 8 → mt (8 * i + j) = nI (T i j)) (hT : ∀ i j, T i j ≤ 10) (h7 : s ≤ 7) (hE : py_en n (fun i => Sm.testBit i = true) ord s) (hnum : ∀ r, r < s → num (ord r) = nI r) {x : Nat} (hx : x < s) (w : Nat → Int64) :
    ∃ w' : Nat → Int64, zf_X9_layRow (nI (ord x)) (nI Sm) (nI s) mt (nI n) num w = some w' ∧ (∀ y, y ≤ s → w' (9 * x + y) = mx_L (mx_A T (ord x) (mx_oc ord s y))) ∧ ∀ q z, ¬ q = x → z < 9 → w' (9 * q + z) = w (9 * q + z) := by
  have ox := (hE.1 x hx).1
  obtain ⟨w1, f1, f2, f3⟩ := py_lr14 (mt := mt) (n := n) (num := num) (i := 0) (x := x) (by omega) (nI (ord x)) (nI Sm) (nI s) 9 0 zfuel w (by omega) (by unfold zfuel; omega) (fun z hz => absurd hz (by omega))
  obtain ⟨w2, g1, g2, g3⟩ := py_lr41 h8 hm hT h7 hE hnum hx n 0 zfuel w1 (by omega) (by unfold zfuel; omega) (fun y hy => by rw [if_neg (by omega), f2 y (by omega)]; rfl)
  refine ⟨w2, ?_, g2, fun q z hq hz => by rw [g3 q z hq hz, f3 q z hq hz]⟩
  unfold zf_X9_layRow
  rw [if_neg (tn_in (a := ord x) (N := 8) (by omega) (by decide)), tn_cl (by omega), hnum x hx, show (9 : Int32) * nI x = nI (9 * x) from pk_mul 9 x]
  rw [← g1]
  exact f1
theorem py_lm113 (h8 : n ≤ 8) (hm : ∀ i j, i < 8 → j < 8 → mt (8 * i + j) = nI (T i j)) (hT : ∀ i j, T i j ≤ 10) (hE : py_en n (fun i => Sm.testBit i = true) ord s) (hnum : ∀ r, r < s → num (ord r) = nI r) (H : mx_Hy T ord s) {t : Nat} (ht : t < s) (mu md : Int64) : ∀ (d q m : Nat) (w : Nat → Int64), q + d = n → d < m → (∀ x, x < s → ord x < q → ∀ y, y ≤ s → w (9 * x + y) = mx_L (mx_A T (ord x) (mx_oc ord s y))) →
    ∃ (w' : Nat → Int64) (R : Nat → Int), mx_Rw T ord s s R t ∧ zf_X9_layMean_113 mt (nI n) m num w mu md (nI (ord t)) (nI Sm) (nI s) (nI q) = some (1, num, w', lN ((R s).natAbs / Nat.gcd (R s).natAbs (R t).natAbs), lN ((R t).natAbs / Nat.gcd (R s).natAbs (R t).natAbs)) := by
  have h7 := H.1
  intro d
  induction d with
  | zero =>
    intro q m w e1 e2 r
    obtain ⟨f, rfl⟩ : ∃ f, m = f + 1 := ⟨m - 1, by omega⟩
    have : q = n := by omega
    subst this
    have ot := (hE.1 t ht).1
    obtain ⟨w', R, g1, g2⟩ := py_solveM H ht s 0 zfuel w (fun z y => mx_A T (ord z) (mx_oc ord s y)) mu md (by omega) (by unfold zfuel; omega) (fun z hz y hy => r z hz (hE.1 z hz).1 y hy) (fun z hz => mx_Rw_0 hT (fun y hy => rfl))
    refine ⟨w', R, g1, ?_⟩
    show zf_X9_layMean_113_b _ _ _ _ _ _ _ _ _ _ _ = _
    unfold zf_X9_layMean_113_b
    rw [if_pos ((tn_le (by omega) (by omega)).mpr (by omega)), if_neg (tn_in (a := ord t) (N := 8) (by omega) (by decide)), tn_cl (by omega), hnum t ht, show zf_X9_solveAll (nI s) (nI t) w mu md = _ from g2]
    rfl
  | succ d ih =>
    intro q m w e1 e2 r
    obtain ⟨f, rfl⟩ : ∃ f, m = f + 1 := ⟨m - 1, by omega⟩
    show ∃ (w' : Nat → Int64) (R : Nat → Int), _ ∧ zf_X9_layMean_113_b _ _ _ _ _ _ _ _ _ _ _ = _
    unfold zf_X9_layMean_113_b zf_X9_layMean_141
    rw [if_neg (nI_ge (a := q) (b := n) (by omega) (by omega)), show nI q + (1 : Int32) = nI (q + 1) from nI_1 q]
    by_cases c : Sm.testBit q = true
    · obtain ⟨p, p1, p2⟩ := hE.2.2 q (by omega) c
      obtain ⟨w1, g1, g2, g3⟩ := py_layRow h8 hm hT h7 hE hnum p1 w
      rw [p2] at g1
      rw [if_pos ((py_pick1 (by omega)).mpr c), g1]
      simp only [zb]
      refine ih (q + 1) f w1 (by omega) (by omega) (fun x hx hxq y hy => ?_)
      by_cases e : x = p
      · rw [e]; exact g2 y hy
      · rw [g3 x y e (by omega)]
        refine r x hx ?_ y hy
        have : ¬ ord x = q := fun z => by
          rcases Nat.lt_or_gt_of_ne e with q' | q'
          · exact hE.2.1 x p q' p1 (by rw [z, p2])
          · exact hE.2.1 p x q' hx (by rw [z, p2])
        omega
    · rw [if_neg (fun z => c ((py_pick1 (by omega)).mp z))]
      refine ih (q + 1) f w (by omega) (by omega) (fun x hx hxq y hy => r x hx ?_ y hy)
      have : ¬ ord x = q := fun z => c (by rw [← z]; exact (hE.1 x hx).2)
      omega
theorem py_lm39 (h8 : n ≤ 8) (hm : ∀ i j, i < 8 → j < 8 → mt (8 * i + j) = nI (T i j)) (hT : ∀ i j, T i j ≤ 10) (hz : ∀ i j, n ≤ i ∨ n ≤ j → T i j = 0) (hb : b < n) (w : Nat → Int64) (mu md : Int64) : ∀ (d q m : Nat) (num : Nat → Int32) (v5 : Int32), q + d = n → d < m → (∀ i, i < q → Sm.testBit i = true → num i = nI (fb_ct (fun j => Sm.testBit j) i)) →
    ((v5 = 1 ∧ ∀ i, i < q → Sm.testBit i = true → ∃ k, mx_gv n (pg_Eb T) b k i) ∨ (v5 = 0 ∧ ¬ ∀ i, i < q → Sm.testBit i = true → ∃ k, mx_gv n (pg_Eb T) b k i)) →
    ∃ num' : Nat → Int32, (∀ i, i < n → Sm.testBit i = true → num' i = nI (fb_ct (fun j => Sm.testBit j) i)) ∧
    (((∀ i, i < n → Sm.testBit i = true → ∃ k, mx_gv n (pg_Eb T) b k i) ∧ zf_X9_layMean_39 mt (nI n) m num w mu md (nI a) (nI b) (nI Sm) (nI (fb_ct (fun j => Sm.testBit j) q)) v5 (nI q) = zf_X9_layMean_113 mt (nI n) zfuel num' w mu md (nI a) (nI Sm) (nI (fb_ct (fun j => Sm.testBit j) n)) 0) ∨
     ((¬ ∀ i, i < n → Sm.testBit i = true → ∃ k, mx_gv n (pg_Eb T) b k i) ∧ zf_X9_layMean_39 mt (nI n) m num w mu md (nI a) (nI b) (nI Sm) (nI (fb_ct (fun j => Sm.testBit j) q)) v5 (nI q) = some (0, num', w, mu, md))) := by
  intro d
  induction d with
  | zero =>
    intro q m num v5 e1 e2 r hv
    obtain ⟨f, rfl⟩ : ∃ f, m = f + 1 := ⟨m - 1, by omega⟩
    have : q = n := by omega
    subst this
    refine ⟨num, r, ?_⟩
    have E : zf_X9_layMean_39 mt (nI q) (f + 1) num w mu md (nI a) (nI b) (nI Sm) (nI (fb_ct (fun j => Sm.testBit j) q)) v5 (nI q) = if v5 = 0 then some (0, num, w, mu, md) else zf_X9_layMean_113 mt (nI q) zfuel num w mu md (nI a) (nI Sm) (nI (fb_ct (fun j => Sm.testBit j) q)) 0 := by
      show zf_X9_layMean_39_b _ _ _ _ _ _ _ _ _ _ _ _ _ = _
      unfold zf_X9_layMean_39_b
      rw [if_pos ((tn_le (by omega) (by omega)).mpr (by omega))]
    rw [E]
    rcases hv with ⟨h1, h2⟩ | ⟨h1, h2⟩
    · left
      refine ⟨h2, ?_⟩
      rw [h1, if_neg zone]
    · right
      refine ⟨h2, ?_⟩
      rw [h1, if_pos rfl]
  | succ d ih =>
    intro q m num v5 e1 e2 r hv
    obtain ⟨f, rfl⟩ : ∃ f, m = f + 1 := ⟨m - 1, by omega⟩
    have hs := fb_ct_succ (fun j => Sm.testBit j) q
    by_cases c : Sm.testBit q = true
    · have hs' : fb_ct (fun j => Sm.testBit j) (q + 1) = fb_ct (fun j => Sm.testBit j) q + 1 := by rw [hs]; rw [if_pos c]
      have r' : ∀ i, i < q + 1 → Sm.testBit i = true → upd num q (nI (fb_ct (fun j => Sm.testBit j) q)) i = nI (fb_ct (fun j => Sm.testBit j) i) := fun i hi hi' => by
        by_cases e : i = q
        · rw [e, pk_us]
        · rw [pk_un e]; exact r i (by omega) hi'
      have bitq : (pg_it T n b 8 (2 ^ q)).testBit b = true ↔ ∃ k, mx_gv n (pg_Eb T) b k q := by
        rw [pg_it_bit hz (show q < n by omega) (by omega)]
        constructor
        · rintro ⟨-, k, hk⟩
          exact pg_reach_lead k b hk hb ⟨0, rfl⟩
        · rintro ⟨k, hk⟩
          exact ⟨hb, pg_lead_reach k q (by omega) hk⟩
      have E : zf_X9_layMean_39 mt (nI n) (f + 1) num w mu md (nI a) (nI b) (nI Sm) (nI (fb_ct (fun j => Sm.testBit j) q)) v5 (nI q) = zf_X9_layMean_39 mt (nI n) f (upd num q (nI (fb_ct (fun j => Sm.testBit j) q))) w mu md (nI a) (nI b) (nI Sm) (nI (fb_ct (fun j => Sm.testBit j) (q + 1))) (if v5 = 0 then 0 else if (pg_it T n b 8 (2 ^ q)).testBit b = true then 1 else 0) (nI (q + 1)) := by
        show zf_X9_layMean_39_b _ _ _ _ _ _ _ _ _ _ _ _ _ = _
        unfold zf_X9_layMean_39_b zf_X9_layMean_94 zf_X9_layMean_95 zf_X9_layMean_97
        rw [if_neg (nI_ge (a := q) (b := n) (by omega) (by omega)), if_pos ((py_pick1 (by omega)).mpr c), if_neg (tn_in (a := q) (N := 8) (by omega) (by decide)), tn_cl (by omega), py_rchM h8 hm hT (show q < n by omega) hb, hs', show nI q + (1 : Int32) = nI (q + 1) from nI_1 q, show nI (fb_ct (fun j => Sm.testBit j) q) + (1 : Int32) = nI (fb_ct (fun j => Sm.testBit j) q + 1) from nI_1 _]
        simp only [zb]
        by_cases c5 : v5 = 0
        · rw [if_pos c5, if_pos c5]
        · rw [if_neg c5, if_neg c5]
          by_cases c6 : (pg_it T n b 8 (2 ^ q)).testBit b = true
          · rw [if_pos ((py_pick1 (by omega)).mpr c6), if_pos c6]
          · rw [if_neg (fun z => c6 ((py_pick1 (by omega)).mp z)), if_neg c6]
      rw [E]
      refine ih (q + 1) f _ _ (by omega) (by omega) r' ?_
      rcases hv with ⟨h1, h2⟩ | ⟨h1, h2⟩
      · rw [h1, if_neg zone]
        by_cases c6 : (pg_it T n b 8 (2 ^ q)).testBit b = true
        · left
          refine ⟨if_pos c6, fun i hi hi' => ?_⟩
          by_cases e : i = q
          · rw [e]; exact bitq.mp c6
          · exact h2 i (by omega) hi'
        · right
          exact ⟨if_neg c6, fun z => c6 (bitq.mpr (z q (by omega) c))⟩
      · right
        rw [h1, if_pos rfl]
        exact ⟨rfl, fun z => h2 (fun i hi hi' => z i (by omega) hi')⟩
    · have hs' : fb_ct (fun j => Sm.testBit j) (q + 1) = fb_ct (fun j => Sm.testBit j) q := by rw [hs]; rw [if_neg c]; rfl
      have E : zf_X9_layMean_39 mt (nI n) (f + 1) num w mu md (nI a) (nI b) (nI Sm) (nI (fb_ct (fun j => Sm.testBit j) q)) v5 (nI q) = zf_X9_layMean_39 mt (nI n) f num w mu md (nI a) (nI b) (nI Sm) (nI (fb_ct (fun j => Sm.testBit j) (q + 1))) v5 (nI (q + 1)) := by
        show zf_X9_layMean_39_b _ _ _ _ _ _ _ _ _ _ _ _ _ = _
        unfold zf_X9_layMean_39_b zf_X9_layMean_97
        rw [if_neg (nI_ge (a := q) (b := n) (by omega) (by omega)), if_neg (fun z => c ((py_pick1 (by omega)).mp z)), hs', show nI q + (1 : Int32) = nI (q + 1) from nI_1 q]
      rw [E]
      refine ih (q + 1) f _ _ (by omega) (by omega) (fun i hi hi' => ?_) ?_
      · by_cases e : i = q
        · rw [e] at hi'; exact absurd hi' c
        · exact r i (by omega) hi'
      · rcases hv with ⟨h1, h2⟩ | ⟨h1, h2⟩
        · left
          refine ⟨h1, fun i hi hi' => ?_⟩
          by_cases e : i = q
          · rw [e] at hi'; exact absurd hi' c
          · exact h2 i (by omega) hi'
        · right
          exact ⟨h1, fun z => h2 (fun i hi hi' => z i (by omega) hi')⟩
theorem py_meanM (h8 : n ≤ 8) (hm : ∀ i j, i < 8 → j < 8 → mt (8 * i + j) = nI (T i j)) (hz : ∀ i j, n ≤ i ∨ n ≤ j → T i j = 0) (hr : ∀ i, i < n → fb_sm (T i) n = 10) (ha : a < n) (hb : b < n) (hab : ¬ a = b) (num : Nat → Int32) (w : Nat → Int64) (mu md : Int64) :
    ((¬ ∀ i, i < n → (pg_it T n b 8 (2 ^ a)).testBit i = true → ∃ k, mx_gv n (pg_Eb T) b k i) ∧ ∃ num' : Nat → Int32, zf_X9_layMean (nI a) (nI b) mt (nI n) num w mu md = some (0, num', w, 0, 1)) ∨
    ((∀ i, i < n → (pg_it T n b 8 (2 ^ a)).testBit i = true → ∃ k, mx_gv n (pg_Eb T) b k i) ∧ ∃ (num' : Nat → Int32) (w' : Nat → Int64) (s : Nat) (ord : Nat → Nat) (t : Nat) (R : Nat → Int), t < s ∧ py_en n (fun i => (pg_it T n b 8 (2 ^ a)).testBit i = true ∧ ¬ i = b) ord s ∧ ord t = a ∧ mx_Hy T ord s ∧ mx_Rw T ord s s R t ∧
      zf_X9_layMean (nI a) (nI b) mt (nI n) num w mu md = some (1, num', w', lN ((R s).natAbs / Nat.gcd (R s).natAbs (R t).natAbs), lN ((R t).natAbs / Nat.gcd (R s).natAbs (R t).natAbs))) := by
  have hT : ∀ i j, T i j ≤ 10 := fun i j => py_RN_le hz hr i j
  have hp8 := py_pow8 h8
  have hMl : pg_it T n b 8 (2 ^ a) < 2 ^ n := pg_it_lt (Nat.pow_lt_pow_right (by decide) ha) 8
  obtain ⟨M, hM⟩ : ∃ M, M = pg_it T n b 8 (2 ^ a) := ⟨_, rfl⟩
  have hMn : ∀ i, M.testBit i = true → i < n := fun i hi => by
    rw [hM] at hi
    exact ((pg_it_bit hz ha (by omega)).mp hi).1
  have hMa : M.testBit a = true := by
    rw [hM]
    exact (pg_it_bit hz ha (by omega)).mpr ⟨ha, 0, rfl⟩
  obtain ⟨Sm, hSm⟩ : ∃ S, S = py_mask (fun j => M.testBit j && decide (¬ j = b)) 8 := ⟨_, rfl⟩
  have sb : ∀ i, Sm.testBit i = true ↔ M.testBit i = true ∧ ¬ i = b := fun i => by
    rw [hSm, py_mask_bit, Bool.and_eq_true, Bool.and_eq_true, decide_eq_true_iff, decide_eq_true_iff]
    exact ⟨fun h => h.2, fun h => ⟨by have := hMn i h.1; omega, h⟩⟩
  have all : (∀ i, i < n → M.testBit i = true → ∃ k, mx_gv n (pg_Eb T) b k i) ↔ ∀ i, i < n → Sm.testBit i = true → ∃ k, mx_gv n (pg_Eb T) b k i := by
    constructor
    · intro h i hi hi'
      exact h i hi ((sb i).mp hi').1
    · intro h i hi hi'
      by_cases e : i = b
      · rw [e]; exact ⟨0, rfl⟩
      · exact h i hi ((sb i).mpr ⟨hi', e⟩)
  obtain ⟨num', g1, g2⟩ := py_lm39 (a := a) (Sm := Sm) h8 hm hT hz hb w 0 1 n 0 zfuel num 1 (by omega) (by unfold zfuel; omega) (fun i hi => absurd hi (by omega)) (Or.inl ⟨rfl, fun i hi => absurd hi (by omega)⟩)
  have E : zf_X9_layMean (nI a) (nI b) mt (nI n) num w mu md = zf_X9_layMean_39 mt (nI n) zfuel num w 0 1 (nI a) (nI b) (nI Sm) (nI (fb_ct (fun j => Sm.testBit j) 0)) 1 (nI 0) := by
    unfold zf_X9_layMean
    rw [if_neg (fun z => hab ((tn_eq (by omega) (by omega)).mp z)), py_rchM h8 hm hT ha hb, ← hM]
    simp only [zb]
    rw [py_minus M (by omega) b (by omega), ← hSm]
    rfl
  rw [← hM, E]
  rcases g2 with ⟨h1, h2⟩ | ⟨h1, h2⟩
  · right
    refine ⟨all.mpr h1, ?_⟩
    have ch : ∀ r, ∃ x : Nat, r < fb_ct (fun j => Sm.testBit j) n → x < n ∧ Sm.testBit x = true ∧ fb_ct (fun j => Sm.testBit j) x = r := by
      intro r
      by_cases c : r < fb_ct (fun j => Sm.testBit j) n
      · obtain ⟨i, i1, i2, i3⟩ := fb_ct_kth c
        exact ⟨i, fun _ => ⟨i1, i2, i3⟩⟩
      · exact ⟨0, fun h => absurd h c⟩
    obtain ⟨ord, ho⟩ := Classical.axiomOfChoice ch
    have rank : ∀ i, i < n → Sm.testBit i = true → fb_ct (fun j => Sm.testBit j) i < fb_ct (fun j => Sm.testBit j) n ∧ ord (fb_ct (fun j => Sm.testBit j) i) = i := by
      intro i hi hi'
      have q1 := fb_ct_succ (fun j => Sm.testBit j) i
      rw [if_pos hi'] at q1
      have q2 := fb_ct_mono (fun j => Sm.testBit j) (show i + 1 ≤ n by omega)
      have q3 : fb_ct (fun j => Sm.testBit j) i < fb_ct (fun j => Sm.testBit j) n := by omega
      obtain ⟨x1, x2, x3⟩ := ho _ q3
      exact ⟨q3, fb_ct_kth_one (p := fun j => Sm.testBit j) x2 hi' x3⟩
    have hE : py_en n (fun i => Sm.testBit i = true) ord (fb_ct (fun j => Sm.testBit j) n) := ⟨fun r hr' => ⟨(ho r hr').1, (ho r hr').2.1⟩, fun r q hrq hq e => by
      have x1 := (ho r (by omega)).2.2
      have x2 := (ho q hq).2.2
      rw [e] at x1
      omega, fun i hi hi' => ⟨_, (rank i hi hi').1, (rank i hi hi').2⟩⟩
    have hE2 : py_en n (fun i => M.testBit i = true ∧ ¬ i = b) ord (fb_ct (fun j => Sm.testBit j) n) := ⟨fun r hr' => ⟨(ho r hr').1, (sb _).mp (ho r hr').2.1⟩, hE.2.1, fun i hi hi' => hE.2.2 i hi ((sb i).mpr hi')⟩
    have h7 : fb_ct (fun j => Sm.testBit j) n ≤ 7 := by
      have u1 := fb_ct_upd (fun j => Sm.testBit j) true hb
      have nb : (Sm.testBit b) = false := Bool.eq_false_iff.mpr (fun z => ((sb b).mp z).2 rfl)
      have := fb_ct_le (fun k => if k = b then true else Sm.testBit k) n
      simp only [nb] at u1
      rw [if_neg (show ¬ false = true by decide), if_pos trivial] at u1
      omega
    have Hy := py_Hy h8 hb hr h7 hE2 (all.mpr h1)
    have hSa : Sm.testBit a = true := (sb a).mpr ⟨hMa, hab⟩
    obtain ⟨t1, t2⟩ := rank a ha hSa
    obtain ⟨w', R, f1, f2⟩ := py_lm113 (num := num') h8 hm hT hE (fun r hr' => by
      have := g1 (ord r) (ho r hr').1 (ho r hr').2.1
      rw [(ho r hr').2.2] at this
      exact this) Hy t1 0 1 n 0 zfuel w (by omega) (by unfold zfuel; omega) (fun x _ hx => absurd hx (by omega))
    rw [t2] at f2
    exact ⟨num', w', _, ord, _, R, t1, hE2, t2, Hy, f1, h2.trans f2⟩
  · left
    exact ⟨fun z => h1 (all.mp z), num', h2⟩
end PYLM
