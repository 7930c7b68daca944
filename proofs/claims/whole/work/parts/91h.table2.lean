/-! ===== the table: what the call does ===== -/
section PYTC
variable {n : Nat} {D : Nat → Nat → Nat} {mx : Nat → Int32} {L : Int32} {rt : Nat → Int32} {rs rk rr ps fa pl fr hd hn sn : Int32} {ik : Nat → Int32}
theorem py_t38 (s k r : Int32) : ∀ (d q m : Nat) (t : Nat → Int32), q + d = 64 → d < m → (∀ i, i < q → t i = rt i) → ∃ t', (∀ i, i < 64 → t' i = rt i) ∧ zf_X9_table_38 mx L m rt rs rk rr t s k r ps fa pl fr hd hn sn ik (nI q) = zf_X9_table_38_b mx L (fun _ _ _ _ _ _ _ _ _ _ _ _ _ _ _ _ _ => none) rt rs rk rr t' s k r ps fa pl fr hd hn sn ik 64 := by
  intro d
  induction d with
  | zero =>
    intro q m t e1 e2 h
    obtain ⟨f, rfl⟩ : ∃ f, m = f + 1 := ⟨m - 1, by omega⟩
    have : q = 64 := by omega
    subst this
    refine ⟨t, h, ?_⟩
    show zf_X9_table_38_b _ _ _ _ _ _ _ _ _ _ _ _ _ _ _ _ _ _ _ _ = _
    unfold zf_X9_table_38_b
    rw [if_pos (show (64 : Int32) ≤ nI 64 by decide), if_pos (show (64 : Int32) ≤ 64 by decide)]
  | succ d ih =>
    intro q m t e1 e2 h
    obtain ⟨f, rfl⟩ : ∃ f, m = f + 1 := ⟨m - 1, by omega⟩
    obtain ⟨t', a1, a2⟩ := ih (q + 1) f (upd t q (rt q)) (by omega) (by omega) (fun i hi => by
      by_cases e : i = q
      · rw [e, pk_us]
      · rw [pk_un e]; exact h i (by omega))
    refine ⟨t', a1, ?_⟩
    rw [← a2]
    show zf_X9_table_38_b _ _ _ _ _ _ _ _ _ _ _ _ _ _ _ _ _ _ _ _ = _
    rw [zf_X9_table_38_b]
    rw [if_neg (show ¬ (64 : Int32) ≤ nI q from nI_ge (a := q) (b := 64) (by omega) (by decide)), if_neg (tn_in (a := q) (N := 64) (by omega) (by decide)), tn_cl (by omega), show nI q + (1 : Int32) = nI (q + 1) from nI_1 q]
theorem py_sumOf {t : Nat → Int32} {q : Nat} {f : Nat → Nat} (hq : q < 8) (h8 : n ≤ 8) (h : ∀ b, b < 8 → t (8 * q + b) = nI (f b)) : zf_X9_sumOf (nI q) t (nI n) = some (nI (fb_sm f n)) := by
  have A : ∀ (d j m : Nat), j + d = n → d < m → zf_X9_sumOf_4 t (nI n) m (nI q) (nI (fb_sm f j)) (nI j) = some (nI (fb_sm f n)) := by
    intro d
    induction d with
    | zero =>
      intro j m e1 e2
      obtain ⟨g, rfl⟩ : ∃ f, m = f + 1 := ⟨m - 1, by omega⟩
      have : j = n := by omega
      subst this
      show zf_X9_sumOf_4_b _ _ _ _ _ _ = _
      unfold zf_X9_sumOf_4_b
      rw [if_pos ((tn_le (by omega) (by omega)).mpr (by omega))]
    | succ d ih =>
      intro j m e1 e2
      obtain ⟨g, rfl⟩ : ∃ f, m = f + 1 := ⟨m - 1, by omega⟩
      rw [← ih (j + 1) g (by omega) (by omega)]
      show zf_X9_sumOf_4_b _ _ _ _ _ _ = _
      unfold zf_X9_sumOf_4_b
      rw [if_neg (nI_ge (a := j) (b := n) (by omega) (by omega)), py_ix', if_neg (tn_in (a := 8 * q + j) (N := 64) (by omega) (by decide)), tn_cl (by omega), h j (by omega), nI_add, show nI j + (1 : Int32) = nI (j + 1) from nI_1 j]
      rfl
  exact A n 0 zfuel (by omega) (by unfold zfuel; omega)
theorem py_t76 (h8 : n ≤ 8) (hd' : py_DD n D) (r : Int32) : ∀ (d q m : Nat) (t : Nat → Int32), q + d = n → d < m → (∀ a b, a < 8 → b < 8 → t (8 * a + b) = nI (if a < q then py_st n D a b else D a b)) →
    ∃ t', (∀ a b, a < 8 → b < 8 → t' (8 * a + b) = nI (py_st n D a b)) ∧ zf_X9_table_76 mx L m rt rs rk rr t (nI n) 2 r ps fa pl fr hd hn sn ik (nI q) = zf_X9_table_121 mx L rt rs rk rr t' (nI n) 2 r ps fa pl fr hd hn sn ik := by
  intro d
  induction d with
  | zero =>
    intro q m t e1 e2 h
    obtain ⟨f, rfl⟩ : ∃ f, m = f + 1 := ⟨m - 1, by omega⟩
    have : q = n := by omega
    subst this
    refine ⟨t, fun a b ha hb => ?_, ?_⟩
    · rw [h a b ha hb]
      by_cases c : a < q
      · rw [if_pos c]
      · rw [if_neg c]
        unfold py_st
        rw [if_neg (fun z => c z.2.1)]
    · show zf_X9_table_76_b _ _ _ _ _ _ _ _ _ _ _ _ _ _ _ _ _ _ _ _ = _
      unfold zf_X9_table_76_b
      rw [if_pos ((tn_le (by omega) (by omega)).mpr (by omega))]
  | succ d ih =>
    intro q m t e1 e2 h
    obtain ⟨f, rfl⟩ : ∃ f, m = f + 1 := ⟨m - 1, by omega⟩
    have hS := hd'.2 q
    have eS : fb_sm (D q) n = py_S D q := (py_sm_ext (n := n) (fun k hk => hd'.1 q k (by omega)) h8).symm
    obtain ⟨t', a1, a2⟩ := ih (q + 1) f (upd t (8 * q + q) (nI (if py_S D q = 0 then 10 else 0))) (by omega) (by omega) (fun a b ha hb => by
      rw [py_up2 (by omega) hb]
      by_cases e : a = q ∧ b = q
      · rw [if_pos e, e.1, e.2, if_pos (show q < q + 1 by omega)]
        unfold py_st
        by_cases c : py_S D q = 0
        · rw [if_pos c, if_pos ⟨rfl, by omega, c⟩]
        · rw [if_neg c, if_neg (fun z => c z.2.2), hd'.1 q q (by omega)]
      · rw [if_neg e, h a b ha hb]
        by_cases c : a < q
        · rw [if_pos c, if_pos (by omega)]
        · rw [if_neg c]
          by_cases c2 : a < q + 1
          · rw [if_pos c2]
            unfold py_st
            rw [if_neg (fun z => e ⟨by omega, by omega⟩)]
          · rw [if_neg c2])
    refine ⟨t', a1, ?_⟩
    rw [← a2]
    show zf_X9_table_76_b _ _ _ _ _ _ _ _ _ _ _ _ _ _ _ _ _ _ _ _ = _
    unfold zf_X9_table_76_b zf_X9_table_114
    rw [if_neg (nI_ge (a := q) (b := n) (by omega) (by omega)), if_pos rfl, py_sumOf (f := D q) (by omega) h8 (fun b hb => by rw [h q b (by omega) hb, if_neg (by omega)]), eS]
    have hin : ¬ (nI (8 * q + q) < 0 ∨ 64 ≤ (nI (8 * q + q)).toNatClampNeg) := tn_in (a := 8 * q + q) (N := 64) (by omega) (by decide)
    simp only [zb]
    rw [show (9 : Int32) * nI q = nI (8 * q + q) from by rw [show (9 : Int32) = nI 9 from rfl, pk_mul, show 9 * q = 8 * q + q by omega]]
    simp only [if_neg hin]
    rw [tn_cl (by omega), show nI q + (1 : Int32) = nI (q + 1) from nI_1 q]
    by_cases c : py_S D q = 0
    · rw [if_pos (show nI (py_S D q) = 0 from by rw [c]; rfl), if_pos c]
      rfl
    · rw [if_neg (show ¬ nI (py_S D q) = 0 from nI_ne0 (by omega) (by omega)), if_neg c]
      rfl
theorem py_st_sum (h8 : n ≤ 8) (hd' : py_DD n D) (hw : py_whole n D) {i : Nat} (hi : i < n) : fb_sm (py_st n D i) n = 10 := by
  have eS : fb_sm (D i) n = py_S D i := (py_sm_ext (n := n) (fun k hk => hd'.1 i k (by omega)) h8).symm
  rcases hw i hi with h | h
  · rw [h] at eS
    have hz := fb_sm_zero eS
    rw [fb_sm_cong (g := fun k => if k = i then 10 else 0) (fun k hk => by
      unfold py_st
      by_cases c : k = i
      · rw [if_pos ⟨c.symm, hi, h⟩, if_pos c]
      · rw [if_neg (fun z => c z.1.symm), if_neg c, hz k hk])]
    exact py_sm_one hi
  · rw [fb_sm_cong (g := D i) (fun k hk => by
      unfold py_st
      rw [if_neg (fun z => by omega)]), eS, h]
end PYTC
section PYTD
theorem py_t48 {xb : Nat → Int32} {xl : Int32} {d0 d1 d2 : Nat → Int32} {d3 d4 d5 : Int32} {e0 e1 e2 : Nat → Int32} {e3 e4 e5 y0 y1 y2 y3 y4 ak bk : Int32} (m : Nat) (hm : 2 < m) : zf_X8_table_48 xb xl m d0 d1 d2 d3 d4 d5 e0 e1 e2 e3 e4 e5 y0 y1 y2 y3 y4 ak bk 0 = some (e3, d0, d1, d2, d3, d4, d5, e0, e1, e2, e3, e4, e5, y0, y1, y2, y3, y4, 0, 0) := by
  obtain ⟨f, rfl⟩ : ∃ f, m = f + 1 + 1 + 1 := ⟨m - 3, by omega⟩
  show zf_X8_table_48_b xb xl _ _ _ _ _ _ _ _ _ _ _ _ _ _ _ _ _ _ _ _ _ = _
  unfold zf_X8_table_48_b
  rw [if_neg (show ¬ (2 : Int32) ≤ 0 by decide), if_pos rfl]
  show zf_X8_table_48_b xb xl _ _ _ _ _ _ _ _ _ _ _ _ _ _ _ _ _ _ _ _ _ = _
  unfold zf_X8_table_48_b
  rw [if_neg (show ¬ (2 : Int32) ≤ 0 + 1 by decide), if_neg (show ¬ (0 : Int32) + 1 = 0 by decide), if_pos (show (0 : Int32) + 1 = 1 by decide)]
  show zf_X8_table_48_b xb xl _ _ _ _ _ _ _ _ _ _ _ _ _ _ _ _ _ _ _ _ _ = _
  unfold zf_X8_table_48_b
  rw [if_pos (show (2 : Int32) ≤ 0 + 1 + 1 by decide)]
variable {len n kd pn b h sc : Nat} {tx : Nat → Nat} {T : Nat → Nat → Nat} {hs st ss : Nat → Nat} {sd : Int64}
variable {xb mx ct mt xh xt xs ma mw mta mss : Nat → Int32} {xl ml cs ck cp ms mk mr x0 x1 x2 x3 x4 mp mf mh mn mc : Int32} {x5 md : Int64}
variable {ah at' as' bh bt' bs ik ka kh ksa kss kr : Nat → Int32} {a0 a1 a2 a3 a4 ak b0 b1 b2 b3 b4 bk : Int32} {a5 b5 : Int64} {ks : Nat → Int64}
theorem po_table (hT : py_RT len tx xb xl mx ml) (hN : py_RN n T kd pn ct cs ck cp mt ms mk mr) (hG : py_RG n b h hs sc st ss sd xh xt xs x0 x1 x2 x3 x4 x5 mp mf mh mn ma mw mc mta mss md)
    (hA : py_RK n 0 ah at' as' a0 a1 a2 a3 a4 a5 ak ik ka kh ksa kss kr ks) (hB : py_RK n 1 bh bt' bs b0 b1 b2 b3 b4 b5 bk ik ka kh ksa kss kr ks)
    (dct dto dwc : Nat → Int32) (dcs dck dcp : Int32) (nto nwc : Nat → Int32) (rt0 : Nat → Int32) (rs0 rk0 rr0 ps0 fa0 : Int32) :
    ∃ r d0 d1 d2 d3 d4 d5 ct' nto' nwc' cs' ck' cp' x0' x1' x2' x3' x4' ak' bk' rt rs rk rr mt' ms' mk' mr' ps fa mp' mf' mh' mn' mc' ik', zf_X8_table xb xl dct dto dwc dcs dck dcp ct nto nwc cs ck cp x0 x1 x2 x3 x4 ak bk = some (r, d0, d1, d2, d3, d4, d5, ct', nto', nwc', cs', ck', cp', x0', x1', x2', x3', x4', ak', bk') ∧
      zf_X9_table mx ml rt0 rs0 rk0 rr0 mt ms mk mr ps0 fa0 mp mf mh mn mc ik = some (r, rt, rs, rk, rr, mt', ms', mk', mr', ps, fa, mp', mf', mh', mn', mc', ik') ∧
      ∃ n' T' kd' pn', py_RN n' T' kd' pn' ct' cs' ck' cp' mt' ms' mk' mr' ∧ (∃ b' h' hs' sc' st' ss' sd', py_RG n' b' h' hs' sc' st' ss' sd' xh xt xs x0' x1' x2' x3' x4' x5 mp' mf' mh' mn' ma mw mc' mta mss md) ∧
        py_RK n' 0 ah at' as' a0 a1 a2 a3 a4 a5 ak' ik' ka kh ksa kss kr ks ∧ py_RK n' 1 bh bt' bs b0 b1 b2 b3 b4 b5 bk' ik' ka kh ksa kss kr ks := by
  obtain ⟨hl, rfl, rfl, hx⟩ := hT
  obtain ⟨r, d0, d1, d2, d3, d4, d5, rt, rs, rk, rr, ps, fa, g1, g2, g3⟩ := py_read hl (fun i hi => ⟨(hx i hi).1, (hx i hi).2.1⟩) (fun i hi => ⟨(hx i hi).1, (hx i hi).2.2⟩) dct dto dwc dcs dck dcp rt0 rs0 rk0 rr0 ps0 fa0
  unfold zf_X8_table zf_X9_table
  rw [g1, g2]
  simp only [zb]
  by_cases h9 : r = -9
  · rw [if_pos h9, if_pos h9]
    obtain ⟨n', n2, n8, e1, e2, hk⟩ := g3 h9
    obtain ⟨ct', nto', nwc', c1, c2⟩ := py_copyN d0 d3 d4 d5 ct nto nwc cs ck cp
    rw [c1]
    unfold zf_X4_startAt
    simp only [zb]
    rw [py_t48 zfuel (by unfold zfuel; omega)]
    obtain ⟨t', y1, y2⟩ := py_t38 (mx := mx) (L := nI len) (rt := rt) (rs := rs) (rk := rk) (rr := rr) (ps := ps) (fa := fa) (pl := mp) (fr := mf) (hd := mh) (hn := mn) (sn := mc) (ik := ik) rs rk rr 64 0 zfuel mt (by omega) (by unfold zfuel; omega) (fun i hi => absurd hi (by omega))
    have y2' := y2
    rw [show nI 0 = (0 : Int32) from rfl] at y2'
    rw [y2']
    have hGn : ∀ sd', md = sd' → x5 = sd' → py_RG n' 0 0 (fun _ => 0) 0 (fun _ => 0) (fun _ => 0) sd' xh xt xs 0 0 (1 <<< ((0 : Int32) &&& 31)) 0 0 x5 0 0 1 0 ma mw 0 mta mss md := by
      intro sd' q1 q2
      exact ⟨by omega, by omega, by omega, fun i hi => absurd hi (by omega), fun i hi => absurd hi (by omega), fun i hi => absurd hi (by omega), fun i hi => absurd hi (by omega), fun i hi => absurd hi (by omega), fun i hi => absurd hi (by omega), fun i hi => absurd hi (by omega), fun i hi => absurd hi (by omega), fun i hi => absurd hi (by omega), rfl, rfl, rfl, rfl, rfl, q2, rfl, rfl, rfl, rfl, rfl, q1⟩
    have hxd : md = sd ∧ x5 = sd := by
      obtain ⟨-, -, -, -, -, -, -, -, -, -, -, -, -, -, -, -, -, q, -, -, -, -, -, q'⟩ := hG
      exact ⟨q', q⟩
    have hKA : py_RK n' 0 ah at' as' a0 a1 a2 a3 a4 a5 0 (upd (upd ik 0 0) 1 0) ka kh ksa kss kr ks := Or.inl ⟨rfl, by rw [pk_un (by decide), pk_us]⟩
    have hKB : py_RK n' 1 bh bt' bs b0 b1 b2 b3 b4 b5 0 (upd (upd ik 0 0) 1 0) ka kh ksa kss kr ks := Or.inl ⟨rfl, pk_us⟩
    unfold zf_X9_table_38_b zf_X9_table_74
    rw [if_pos (show (64 : Int32) ≤ 64 by decide)]
    rcases hk with ⟨q1, q2, q3, q4, D, w1, w2, w3, w4⟩ | ⟨kd', pn', q1, q2, q3, q4, q5, q6, w1, w2⟩
    · subst q1; subst q2; subst q3; subst q4; subst e1; subst e2
      rw [if_pos (show (2 : Int32) ≤ 2 by decide)]
      obtain ⟨t2, z1, z2⟩ := py_t76 (mx := mx) (L := nI len) (rt := rt) (rs := nI n') (rk := 2) (rr := 0) (ps := ps) (fa := fa) (pl := mp) (fr := mf) (hd := mh) (hn := mn) (sn := mc) (ik := ik) n8 w1 0 n' 0 zfuel t' (by omega) (by unfold zfuel; omega) (fun a b ha hb => by rw [if_neg (by omega), y1 _ (by omega)]; exact w4 a b ha hb)
      rw [show zf_X9_table_76 mx (nI len) zfuel rt (nI n') 2 0 t' (nI n') 2 0 ps fa mp mf mh mn mc ik 0 = _ from z2]
      unfold zf_X9_table_121
      refine ⟨_, _, _, _, _, _, _, _, _, _, _, _, _, _, _, _, _, _, _, _, _, _, _, _, _, _, _, _, _, _, _, _, _, _, _, _, rfl, rfl, n', py_st n' D, 2, 0, ⟨n2, n8, by omega, by omega, rfl, rfl, rfl, rfl, rfl, rfl, fun i j hi hj => by rw [c2 _ (by omega)]; exact w3 i j hi hj, z1, fun i j hij => ?_, fun i hi => py_st_sum n8 w1 w2 hi, fun i hi => ?_⟩, ⟨_, _, _, _, _, _, sd, hGn sd hxd.1 hxd.2⟩, hKA, hKB⟩
      · unfold py_st
        rw [if_neg (fun z => by omega)]
        exact w1.1 i j (by omega)
      · unfold py_st
        by_cases c : py_S D i = 0
        · rw [if_pos ⟨rfl, hi, c⟩]; exact Or.inr rfl
        · rw [if_neg (fun z => c z.2.2)]; exact Or.inl (w1.1 i i (by omega))
    · subst q3; subst q4; subst q5; subst q6; subst e1; subst e2
      rw [if_neg (show ¬ (2 : Int32) ≤ nI kd' from nI_ge (a := kd') (b := 2) (by omega) (by decide))]
      obtain ⟨t2, z1, z2⟩ := py_layM (kd := kd') (pn := pn') n2 n8 q1 q2 n' 0 zfuel t' (by omega) (by unfold zfuel; omega) (fun a b ha hb => by rw [if_neg (by omega), y1 _ (by omega), w2 _ (by omega)]; rfl)
      rw [show zf_X9_layNeighbours (nI n') (nI kd') (nI pn') t' = _ from z1]
      simp only [zb]
      have e76 : ∀ m, 0 < m → zf_X9_table_76 mx (nI len) m rt (nI n') (nI kd') (nI pn') t2 (nI n') (nI kd') (nI pn') ps fa mp mf mh mn mc ik 0 = zf_X9_table_121 mx (nI len) rt (nI n') (nI kd') (nI pn') t2 (nI n') (nI kd') (nI pn') ps fa mp mf mh mn mc ik := by
        intro m hm
        obtain ⟨f, rfl⟩ : ∃ f, m = f + 1 := ⟨m - 1, by omega⟩
        show zf_X9_table_76_b _ _ _ _ _ _ _ _ _ _ _ _ _ _ _ _ _ _ _ _ = _
        unfold zf_X9_table_76_b
        rw [if_neg (show ¬ nI n' ≤ 0 from nI_ge (a := 0) (b := n') (by omega) (by omega)), if_neg (show ¬ nI kd' = 2 from fun z => absurd ((tn_eq (a := kd') (b := 2) (by omega) (by decide)).mp z) (by omega))]
      rw [e76 zfuel (by unfold zfuel; omega)]
      unfold zf_X9_table_121
      exact ⟨_, _, _, _, _, _, _, _, _, _, _, _, _, _, _, _, _, _, _, _, _, _, _, _, _, _, _, _, _, _, _, _, _, _, _, _, rfl, rfl, n', py_ln n' kd' pn', kd', pn', ⟨n2, n8, by omega, q2, rfl, rfl, rfl, rfl, rfl, rfl, fun i j hi hj => by rw [c2 _ (by omega)]; exact w1 i j hi hj, z2, fun i j hij => py_ln_0 n2 hij, fun i hi => (py_ln_fin n' (by omega) n2 kd' (by omega) pn' (by omega) i hi).1, fun i hi => Or.inl (py_ln_fin n' (by omega) n2 kd' (by omega) pn' (by omega) i hi).2⟩, ⟨_, _, _, _, _, _, sd, hGn sd hxd.1 hxd.2⟩, hKA, hKB⟩
  · rw [if_neg h9, if_neg h9]
    exact ⟨_, _, _, _, _, _, _, _, _, _, _, _, _, _, _, _, _, _, _, _, _, _, _, _, _, _, _, _, _, _, _, _, _, _, _, _, rfl, rfl, n, T, kd, pn, hN, ⟨b, h, hs, sc, st, ss, sd, hG⟩, hA, hB⟩
end PYTD
