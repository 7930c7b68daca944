/-! ===== the plain calls ===== -/
theorem py_RN_le {n : Nat} {T : Nat → Nat → Nat} (hz : ∀ i j, n ≤ i ∨ n ≤ j → T i j = 0) (hr : ∀ i, i < n → fb_sm (T i) n = 10) (i j : Nat) : T i j ≤ 10 := by
  by_cases h : i < n ∧ j < n
  · have := fb_sm_part (T i) h.2
    have := hr i h.1
    omega
  · rw [hz i j (by omega)]
    omega
/-- a number between two: the reference's test, the class's -/
theorem py_rng {lo hi x : Int32} {lo' hi' : Int64} (e1 : lo.toInt64 = lo') (e2 : hi.toInt64 = hi') : zf_X9_in x.toInt64 lo' hi' = some (if x < lo ∨ hi < x then 0 else 1) := by
  subst e1; subst e2
  by_cases h : x < lo ∨ hi < x
  · rw [if_pos h]
    refine py_in0 ?_
    rcases h with h | h
    · exact Or.inl ((fa_wide_lt _ _).mpr h)
    · exact Or.inr ((fa_wide_lt _ _).mpr h)
  · rw [if_neg h]
    exact py_in1 (fun q => h (Or.inl ((fa_wide_lt _ _).mp q))) (fun q => h (Or.inr ((fa_wide_lt _ _).mp q)))
theorem py_nle {x y : Int32} (h : ¬ y ≤ x) : x < y := Int32.not_le.mp h
theorem py_nlt {x y : Int32} (h : ¬ x < y) : y ≤ x := Int32.not_lt.mp h
section PY1
variable {n kd pn b h sc : Nat} {T : Nat → Nat → Nat} {hs st ss : Nat → Nat} {sd : Int64}
variable {ct mt xh xt xs ma mw mt' ms' : Nat → Int32} {cs ck cp ms mk mr x0 x1 x2 x3 x4 mp mf mh mn mc : Int32} {x5 md : Int64}
theorem po_chance (hN : py_RN n T kd pn ct cs ck cp mt ms mk mr) (p0 p1 : Int32) : ∃ r, zf_X8_chance p0 p1 ct cs = some r ∧ zf_X9_chance p0 p1 mt ms = some r := by
  obtain ⟨h2, h8, -, -, rfl, rfl, -, -, -, -, hc, hm, -, -, -⟩ := hN
  unfold zf_X8_chance zf_X9_chance
  rcases tn_seat p0 (n := n) (by omega) with ⟨i, hi, rfl⟩ | h0
  · rw [py_has1 h8 hi, py_isSeat1 (by omega) h8 hi]
    simp only [zb, if_neg zone]
    rcases tn_seat p1 (n := n) (by omega) with ⟨j, hj, rfl⟩ | h1
    · rw [py_has1 h8 hj, py_isSeat1 (by omega) h8 hj, py_ten h8 hc hi hj]
      simp only [zb, if_neg zone]
      refine ⟨_, rfl, ?_⟩
      rw [show (8 : Int32) * nI i + nI j = nI (8 * i + j) from by rw [show (8 : Int32) = nI 8 from rfl, pk_mul, nI_add], if_neg (tn_in (by omega) (by decide)), tn_cl (by omega), hm i j (by omega) (by omega)]
    · rw [py_has0 h1, py_isSeat0 (by omega) h8 h1]
      exact ⟨_, rfl, rfl⟩
  · rw [py_has0 h0, py_isSeat0 (by omega) h8 h0]
    exact ⟨_, rfl, rfl⟩
theorem po_begin (hN : py_RN n T kd pn ct cs ck cp mt ms mk mr) (hG : py_RG n b h hs sc st ss sd xh xt xs x0 x1 x2 x3 x4 x5 mp mf mh mn ma mw mc mt' ms' md) (p0 : Int32) :
    ∃ r a0 a1 a2 a3 c0 c1 c2 c3, zf_X8_begin p0 cs x0 x1 x2 x3 = some (r, a0, a1, a2, a3) ∧ zf_X9_begin p0 ms mp mf mh mn = some (r, c0, c1, c2, c3) ∧ ∃ b' h' hs', py_RG n b' h' hs' sc st ss sd xh xt xs a0 a1 a2 a3 x4 x5 c0 c1 c2 c3 ma mw mc mt' ms' md := by
  obtain ⟨h2, h8, -, -, rfl, rfl, -⟩ := hN
  obtain ⟨hb, hh, hsc, hhs, hst, hxh, hma, hmw, hxt, hxs, hmt, hms, rfl, rfl, rfl, rfl, rfl, rfl, rfl, rfl, rfl, rfl, rfl, rfl⟩ := hG
  unfold zf_X8_begin zf_X9_begin zf_X4_startAt
  rcases tn_seat p0 (n := n) (by omega) with ⟨j, hj, rfl⟩ | h0
  · rw [py_has1 h8 hj, py_isSeat1 (by omega) h8 hj]
    simp only [zb, if_neg zone]
    rw [tb_sh j (by omega)]
    exact ⟨_, _, _, _, _, _, _, _, _, rfl, rfl, j, 0, hs, hj, by omega, hsc, fun i hi => absurd hi (by omega), hst, fun i hi => absurd hi (by omega), fun i hi => absurd hi (by omega), fun i hi => absurd hi (by omega), hxt, hxs, hmt, hms, rfl, rfl, rfl, rfl, rfl, rfl, rfl, rfl, rfl, rfl, rfl, rfl⟩
  · rw [py_has0 h0, py_isSeat0 (by omega) h8 h0]
    exact ⟨_, _, _, _, _, _, _, _, _, rfl, rfl, b, h, hs, hb, hh, hsc, hhs, hst, hxh, hma, hmw, hxt, hxs, hmt, hms, rfl, rfl, rfl, rfl, rfl, rfl, rfl, rfl, rfl, rfl, rfl, rfl⟩
theorem po_hand (hN : py_RN n T kd pn ct cs ck cp mt ms mk mr) (hG : py_RG n b h hs sc st ss sd xh xt xs x0 x1 x2 x3 x4 x5 mp mf mh mn ma mw mc mt' ms' md) (p0 : Int32) :
    ∃ r a0 a1 a2 a3 c0 c1 c2 c3 c4, zf_X8_hand p0 ct cs xh x1 x2 x3 = some (r, a0, a1, a2, a3) ∧ zf_X9_hand p0 mt ms mp mh mn ma mw = some (r, c0, c1, c2, c3, c4) ∧ ∃ h' hs', py_RG n b h' hs' sc st ss sd a0 xt xs x0 a1 a2 a3 x4 x5 c0 mf c1 c2 c3 c4 mc mt' ms' md := by
  obtain ⟨h2, h8, -, -, rfl, rfl, -, -, -, -, hc, hm, hz, hr, -⟩ := hN
  obtain ⟨hb, hh, hsc, hhs, hst, hxh, hma, hmw, hxt, hxs, hmt, hms, rfl, rfl, rfl, rfl, rfl, rfl, rfl, rfl, rfl, rfl, rfl, rfl⟩ := hG
  have hp := py_pl_lt hb hhs
  have hd := py_hd_lt hb hhs
  have hp8 := py_pow8 h8
  unfold zf_X8_hand zf_X9_hand
  rcases tn_seat p0 (n := n) (by omega) with ⟨j, hj, rfl⟩ | h0
  · rw [py_has1 h8 hj, py_isSeat1 (by omega) h8 hj, py_ten h8 hc hp hj]
    simp only [zb, if_neg zone]
    have hT := py_RN_le hz hr (py_pl b hs h) j
    rw [show (8 : Int32) * nI (py_pl b hs h) + nI j = nI (8 * py_pl b hs h + j) from by rw [show (8 : Int32) = nI 8 from rfl, pk_mul, nI_add], if_neg (tn_in (by omega) (by decide)), tn_cl (by omega), hm _ j (by omega) (by omega)]
    by_cases ht : nI (T (py_pl b hs h) j) = 0
    · rw [if_pos ht, if_pos ht]
      exact ⟨_, _, _, _, _, _, _, _, _, _, rfl, rfl, h, hs, hb, hh, hsc, hhs, hst, hxh, hma, hmw, hxt, hxs, hmt, hms, rfl, rfl, rfl, rfl, rfl, rfl, rfl, rfl, rfl, rfl, rfl, rfl⟩
    · rw [if_neg ht, if_neg ht]
      by_cases h30 : h = 30
      · rw [if_neg (show ¬ nI h < (30 : Int32) from nI_nlt (a := h) (b := 30) (by omega) (by omega)), if_pos (by rw [h30]; rfl)]
        exact ⟨_, _, _, _, _, _, _, _, _, _, rfl, rfl, h, hs, hb, hh, hsc, hhs, hst, hxh, hma, hmw, hxt, hxs, hmt, hms, rfl, rfl, rfl, rfl, rfl, rfl, rfl, rfl, rfl, rfl, rfl, rfl⟩
      · unfold zf_X4_handTo
        rw [if_pos (show nI h < (30 : Int32) from nI_lt (a := h) (b := 30) (by omega) (by decide)), if_neg (show ¬ nI h = (30 : Int32) from fun q => h30 ((tn_eq (a := h) (b := 30) (by omega) (by decide)).mp q)),
          if_neg (tn_n0 (by omega)), if_neg (show ¬ (30 : Int32) ≤ nI h from nI_ge (a := h) (b := 30) (by omega) (by decide)), if_neg (tn_in (by omega) (by decide)), if_neg (tn_in (by omega) (by decide)), tn_cl (by omega), tb_sh j (by omega), fa_or]
        simp only [zb]
        have hs' : ∀ i, i < h → (fun i => if i = h then j else hs i) i = hs i := fun i hi => if_neg (by omega)
        refine ⟨_, _, _, _, _, _, _, _, _, _, rfl, rfl, h + 1, fun i => if i = h then j else hs i, hb, by omega, hsc, ?_, hst, ?_, ?_, ?_, hxt, hxs, hmt, hms, rfl, ?_, ?_, nI_1 h, rfl, rfl, ?_, rfl, ?_, nI_1 h, rfl, rfl⟩
        · intro i hi
          show (if i = h then j else hs i) < n
          by_cases e : i = h
          · rw [if_pos e]; exact hj
          · rw [if_neg e]; exact hhs i (by omega)
        · intro i hi
          show upd xh h (nI j) i = nI (if i = h then j else hs i)
          by_cases e : i = h
          · rw [if_pos e, e, pk_us]
          · rw [if_neg e, pk_un e]; exact hxh i (by omega)
        · intro i hi
          rw [py_pl_cong (fun k hk => hs' k (by omega))]
          by_cases e : i = h
          · rw [e, pk_us]
          · rw [pk_un e]; exact hma i (by omega)
        · intro i hi
          rw [py_hd_cong (fun k hk => hs' k (by omega))]
          by_cases e : i = h
          · rw [e, pk_us]
          · rw [pk_un e]; exact hmw i (by omega)
        · show nI j = nI (if h = h then j else hs h)
          rw [if_pos rfl]
        · show _ = nI (py_hd b _ h ||| 2 ^ (if h = h then j else hs h))
          rw [if_pos rfl, py_hd_cong hs']
        · show nI j = nI (if h = h then j else hs h)
          rw [if_pos rfl]
        · show _ = nI (py_hd b _ h ||| 2 ^ (if h = h then j else hs h))
          rw [if_pos rfl, py_hd_cong hs']
  · rw [py_has0 h0, py_isSeat0 (by omega) h8 h0]
    exact ⟨_, _, _, _, _, _, _, _, _, _, rfl, rfl, h, hs, hb, hh, hsc, hhs, hst, hxh, hma, hmw, hxt, hxs, hmt, hms, rfl, rfl, rfl, rfl, rfl, rfl, rfl, rfl, rfl, rfl, rfl, rfl⟩
theorem py_handTo {f : Nat → Int32} {p : Int32} {i j H : Nat} (hi : i < 30) (hj : j < 9) : zf_X4_handTo (nI j) f p (nI H) (nI i) = some (upd f i (nI j), nI j, nI (H ||| 2 ^ j), nI (i + 1)) := by
  unfold zf_X4_handTo
  rw [if_neg (tn_n0 (by omega)), if_neg (show ¬ (30 : Int32) ≤ nI i from nI_ge (a := i) (b := 30) (by omega) (by decide)), if_neg (tn_in (by omega) (by decide)), tn_cl (by omega), tb_sh j (by omega), fa_or, show nI i + (1 : Int32) = nI (i + 1) from nI_1 i]
theorem py_takeBack (hb : b < n) (h8 : n ≤ 8) (hhs : ∀ i, i < h → hs i < n) (hh : h ≤ 30) (hxh : ∀ i, i < h → xh i = nI (hs i)) : ∀ (d i m : Nat), i + d + 1 = h → d < m → zf_X4_takeBack_17 m xh (nI b) (nI (py_pl b hs i)) (nI (py_hd b hs i)) (nI i) (nI (h - 1)) (nI i) = some (xh, nI b, nI (py_pl b hs (h - 1)), nI (py_hd b hs (h - 1)), nI (h - 1)) := by
  intro d
  induction d with
  | zero =>
    intro i m hi hm
    obtain ⟨k, rfl⟩ : ∃ k, m = k + 1 := ⟨m - 1, by omega⟩
    show zf_X4_takeBack_17_b _ _ _ _ _ _ _ _ = _
    unfold zf_X4_takeBack_17_b
    rw [if_pos ((tn_le (by omega) (by omega)).mpr (by omega)), show h - 1 = i by omega]
  | succ d ih =>
    intro i m hi hm
    obtain ⟨k, rfl⟩ : ∃ k, m = k + 1 := ⟨m - 1, by omega⟩
    show zf_X4_takeBack_17_b _ _ _ _ _ _ _ _ = _
    unfold zf_X4_takeBack_17_b
    have hj := hhs i (by omega)
    rw [if_neg (fun q => absurd ((tn_le (by omega) (by omega)).mp q) (by omega)), if_neg (show ¬ (30 : Int32) ≤ nI i from nI_ge (a := i) (b := 30) (by omega) (by decide)), if_neg (tn_in (by omega) (by decide)), tn_cl (by omega), hxh i (by omega), py_handTo (by omega) (by omega),
      show upd xh i (nI (hs i)) = xh from fa_upd_same (hxh i (by omega)), show nI i + (1 : Int32) = nI (i + 1) from nI_1 i]
    simp only [zb]
    exact ih (i + 1) k (by omega) (by omega)
theorem po_back (hN : py_RN n T kd pn ct cs ck cp mt ms mk mr) (hG : py_RG n b h hs sc st ss sd xh xt xs x0 x1 x2 x3 x4 x5 mp mf mh mn ma mw mc mt' ms' md) :
    ∃ r a0 a1 a2 a3 a4 c0 c1 c2, zf_X8_back xh x0 x1 x2 x3 = some (r, a0, a1, a2, a3, a4) ∧ zf_X9_back ma mw mp mh mn = some (r, c0, c1, c2) ∧ ∃ h' hs', py_RG n b h' hs' sc st ss sd a0 xt xs a1 a2 a3 a4 x4 x5 c0 mf c1 c2 ma mw mc mt' ms' md := by
  obtain ⟨h2, h8, -⟩ := hN
  obtain ⟨hb, hh, hsc, hhs, hst, hxh, hma, hmw, hxt, hxs, hmt, hms, rfl, rfl, rfl, rfl, rfl, rfl, rfl, rfl, rfl, rfl, rfl, rfl⟩ := hG
  unfold zf_X8_back zf_X9_back
  by_cases h0 : h = 0
  · rw [if_neg (show ¬ (1 : Int32) ≤ nI h from nI_ge (a := h) (b := 1) (by omega) (by decide)), if_pos (by rw [h0]; rfl)]
    exact ⟨_, _, _, _, _, _, _, _, _, rfl, rfl, h, hs, hb, hh, hsc, hhs, hst, hxh, hma, hmw, hxt, hxs, hmt, hms, rfl, rfl, rfl, rfl, rfl, rfl, rfl, rfl, rfl, rfl, rfl, rfl⟩
  · unfold zf_X4_takeBack zf_X4_startAt
    simp only [zb]
    rw [if_pos (show (1 : Int32) ≤ nI h from nI_le (a := 1) (b := h) (by omega) (by omega)), if_neg (show ¬ nI h = 0 from nI_ne0 (by omega) (by omega)), show nI h - (1 : Int32) = nI (h - 1) from pk_sub (a := h) (b := 1) (by omega), tb_sh b (by omega),
      show zf_X4_takeBack_17 zfuel xh (nI b) (nI b) (nI (2 ^ b)) 0 (nI (h - 1)) 0 = _ from py_takeBack hb h8 hhs hh hxh (h - 1) 0 zfuel (by omega) (by unfold zfuel; omega), if_neg (tn_in (by omega) (by decide)), tn_cl (by omega), hma (h - 1) (by omega), hmw (h - 1) (by omega)]
    simp only [zb]
    exact ⟨_, _, _, _, _, _, _, _, _, rfl, rfl, h - 1, hs, hb, by omega, hsc, fun i hi => hhs i (by omega), hst, fun i hi => hxh i (by omega), fun i hi => hma i (by omega), fun i hi => hmw i (by omega), hxt, hxs, hmt, hms, rfl, rfl, rfl, rfl, rfl, rfl, rfl, rfl, rfl, rfl, rfl, rfl⟩
theorem po_see (hN : py_RN n T kd pn ct cs ck cp mt ms mk mr) (hG : py_RG n b h hs sc st ss sd xh xt xs x0 x1 x2 x3 x4 x5 mp mf mh mn ma mw mc mt' ms' md) (p0 p1 : Int32) :
    ∃ r a0 a1 a2 c0 c1 c2, zf_X8_see p0 p1 cs xt xs x4 = some (r, a0, a1, a2) ∧ zf_X9_see p0 p1 ms mc mt' ms' = some (r, c0, c1, c2) ∧ ∃ sc' st' ss', py_RG n b h hs sc' st' ss' sd xh a0 a1 x0 x1 x2 x3 a2 x5 mp mf mh mn ma mw c0 c1 c2 md := by
  obtain ⟨h2, h8, -, -, rfl, rfl, -⟩ := hN
  obtain ⟨hb, hh, hsc, hhs, hst, hxh, hma, hmw, hxt, hxs, hmt, hms, rfl, rfl, rfl, rfl, rfl, rfl, rfl, rfl, rfl, rfl, rfl, rfl⟩ := hG
  unfold zf_X8_see zf_X9_see
  rcases tn_seat p1 (n := n) (by omega) with ⟨j, hj, rfl⟩ | h0
  · rw [py_has1 h8 hj, py_isSeat1 (by omega) h8 hj, py_rng (lo := 1) (hi := 9) (lo' := 1) (hi' := 9) (by decide) (by decide)]
    simp only [zb, if_neg zone]
    by_cases hp : p0 < 1
    · rw [if_pos hp, if_pos (Or.inl hp), if_pos rfl]
      exact ⟨_, _, _, _, _, _, _, rfl, rfl, sc, st, ss, hb, hh, hsc, hhs, hst, hxh, hma, hmw, hxt, hxs, hmt, hms, rfl, rfl, rfl, rfl, rfl, rfl, rfl, rfl, rfl, rfl, rfl, rfl⟩
    · rw [if_neg hp]
      by_cases hp9 : p0 ≤ 9
      · rw [if_pos hp9, if_neg (show ¬ (p0 < 1 ∨ 9 < p0) from fun q => q.elim hp (fun q => absurd hp9 (Int32.not_le.mpr q))), if_neg zone]
        obtain ⟨t, ht, rfl⟩ := nI_of2 (x := p0) (M := 9) (n := 9) (by decide) (fun q => hp (by rw [fa_lt] at q ⊢; have : (0 : Int32).toInt = 0 := rfl; have : (1 : Int32).toInt = 1 := rfl; omega)) hp9
        have ht1 : 1 ≤ t := by
          rcases Nat.eq_zero_or_pos t with e | e
          · subst e; exact absurd (by decide) hp
          · exact e
        by_cases h30 : sc = 8
        · rw [if_neg (show ¬ nI sc < (8 : Int32) from nI_nlt (a := sc) (b := 8) (by omega) (by omega)), if_pos (by rw [h30]; rfl)]
          exact ⟨_, _, _, _, _, _, _, rfl, rfl, sc, st, ss, hb, hh, hsc, hhs, hst, hxh, hma, hmw, hxt, hxs, hmt, hms, rfl, rfl, rfl, rfl, rfl, rfl, rfl, rfl, rfl, rfl, rfl, rfl⟩
        · unfold zf_X4_addSeen
          rw [if_pos (show nI sc < (8 : Int32) from nI_lt (a := sc) (b := 8) (by omega) (by decide)), if_neg (show ¬ nI sc = (8 : Int32) from fun q => h30 ((tn_eq (a := sc) (b := 8) (by omega) (by decide)).mp q)),
            if_neg (tn_n0 (by omega)), if_neg (show ¬ (8 : Int32) ≤ nI sc from nI_ge (a := sc) (b := 8) (by omega) (by decide)), if_neg (tn_in (by omega) (by decide)), if_neg (tn_in (by omega) (by decide)), tn_cl (by omega)]
          simp only [zb]
          refine ⟨_, _, _, _, _, _, _, rfl, rfl, sc + 1, fun i => if i = sc then t else st i, fun i => if i = sc then j else ss i, hb, hh, by omega, hhs, ?_, hxh, hma, hmw, ?_, ?_, ?_, ?_, rfl, rfl, rfl, rfl, nI_1 sc, rfl, rfl, rfl, rfl, rfl, nI_1 sc, rfl⟩
          · intro i hi
            show 1 ≤ (if i = sc then t else st i) ∧ (if i = sc then t else st i) ≤ 9 ∧ (if i = sc then j else ss i) < n
            by_cases e : i = sc
            · rw [if_pos e, if_pos e]; exact ⟨ht1, ht, hj⟩
            · rw [if_neg e, if_neg e]; exact hst i (by omega)
          · intro i hi
            show upd xt sc (nI t) i = nI (if i = sc then t else st i)
            by_cases e : i = sc
            · rw [if_pos e, e, pk_us]
            · rw [if_neg e, pk_un e]; exact hxt i (by omega)
          · intro i hi
            show upd xs sc (nI j) i = nI (if i = sc then j else ss i)
            by_cases e : i = sc
            · rw [if_pos e, e, pk_us]
            · rw [if_neg e, pk_un e]; exact hxs i (by omega)
          · intro i hi
            show upd mt' sc (nI t) i = nI (if i = sc then t else st i)
            by_cases e : i = sc
            · rw [if_pos e, e, pk_us]
            · rw [if_neg e, pk_un e]; exact hmt i (by omega)
          · intro i hi
            show upd ms' sc (nI j) i = nI (if i = sc then j else ss i)
            by_cases e : i = sc
            · rw [if_pos e, e, pk_us]
            · rw [if_neg e, pk_un e]; exact hms i (by omega)
      · rw [if_neg hp9, if_pos (Or.inr (py_nle hp9)), if_pos rfl]
        exact ⟨_, _, _, _, _, _, _, rfl, rfl, sc, st, ss, hb, hh, hsc, hhs, hst, hxh, hma, hmw, hxt, hxs, hmt, hms, rfl, rfl, rfl, rfl, rfl, rfl, rfl, rfl, rfl, rfl, rfl, rfl⟩
  · rw [py_has0 h0, py_isSeat0 (by omega) h8 h0]
    exact ⟨_, _, _, _, _, _, _, rfl, rfl, sc, st, ss, hb, hh, hsc, hhs, hst, hxh, hma, hmw, hxt, hxs, hmt, hms, rfl, rfl, rfl, rfl, rfl, rfl, rfl, rfl, rfl, rfl, rfl, rfl⟩
end PY1
