/-! ===== keep, again ===== -/
theorem py_rest_in {r : Nat → Int32} {s : Nat} {f p h n c : Int32} : py_rest r s f p h n c (5 * s) = f ∧ py_rest r s f p h n c (5 * s + 1) = p ∧ py_rest r s f p h n c (5 * s + 2) = h ∧ py_rest r s f p h n c (5 * s + 3) = n ∧ py_rest r s f p h n c (5 * s + 4) = c := by
  unfold py_rest
  refine ⟨?_, ?_, ?_, ?_, ?_⟩
  · rw [pk_un (by omega), pk_un (by omega), pk_un (by omega), pk_un (by omega), pk_us]
  · rw [pk_un (by omega), pk_un (by omega), pk_un (by omega), pk_us]
  · rw [pk_un (by omega), pk_un (by omega), pk_us]
  · rw [pk_un (by omega), pk_us]
  · rw [pk_us]
theorem py_rest_out {r : Nat → Int32} {s i : Nat} {f p h n c : Int32} (hi : i < 5 * s ∨ 5 * s + 5 ≤ i) : py_rest r s f p h n c i = r i := by
  unfold py_rest
  rw [pk_un (by omega), pk_un (by omega), pk_un (by omega), pk_un (by omega), pk_un (by omega)]
section PYL
variable {n b h sc : Nat} {hs st ss : Nat → Nat} {sd : Int64} {xh xt xs ma mw mt ms ah at' as' ik ka kh ksa kss kr : Nat → Int32} {x0 x1 x2 x3 x4 mp mf mh mn mc a0 a1 a2 a3 a4 kp : Int32} {x5 md a5 : Int64} {ks : Nat → Int64}
theorem py_RK_new {s : Nat} (hG : py_RG n b h hs sc st ss sd xh xt xs x0 x1 x2 x3 x4 x5 mp mf mh mn ma mw mc mt ms md) : py_RK n s (fb_put ah xh 0 30) (fb_put at' xt 0 8) (fb_put as' xs 0 8) x0 x1 x2 x3 x4 x5 1 (upd ik s 1) (fb_put ka ma (30 * s) 30) (fb_put kh mw (30 * s) 30) (fb_put ksa mt (8 * s) 8) (fb_put kss ms (8 * s) 8) (py_rest kr s mf mp mh mn mc) (vp_updL ks s md) := by
  refine Or.inr ⟨rfl, pk_us, b, h, hs, sc, st, ss, sd, ?_⟩
  obtain ⟨r0, r1, r2, r3, r4⟩ := py_rest_in (r := kr) (s := s) (f := mf) (p := mp) (h := mh) (n := mn) (c := mc)
  rw [r0, r1, r2, r3, r4, pk_uLs]
  refine py_RG_cong hG ?_ ?_ ?_ ?_ ?_ ?_ ?_
  · intro i hi; rw [fb_put_in (by omega) (by omega)]; rfl
  · intro i hi; rw [fb_put_in (by omega) (by omega)]; rfl
  · intro i hi; rw [fb_put_in (by omega) (by omega)]; rfl
  · intro i hi
    show fb_put ka ma (30 * s) 30 (30 * s + i) = ma i
    rw [fb_put_in (by omega) (by omega), show 30 * s + i - 30 * s = i by omega]
  · intro i hi
    show fb_put kh mw (30 * s) 30 (30 * s + i) = mw i
    rw [fb_put_in (by omega) (by omega), show 30 * s + i - 30 * s = i by omega]
  · intro i hi
    show fb_put ksa mt (8 * s) 8 (8 * s + i) = mt i
    rw [fb_put_in (by omega) (by omega), show 8 * s + i - 8 * s = i by omega]
  · intro i hi
    show fb_put kss ms (8 * s) 8 (8 * s + i) = ms i
    rw [fb_put_in (by omega) (by omega), show 8 * s + i - 8 * s = i by omega]
theorem py_RK_old {s s' : Nat} (hne : s' ≠ s) (hK : py_RK n s' ah at' as' a0 a1 a2 a3 a4 a5 kp ik ka kh ksa kss kr ks) : py_RK n s' ah at' as' a0 a1 a2 a3 a4 a5 kp (upd ik s 1) (fb_put ka ma (30 * s) 30) (fb_put kh mw (30 * s) 30) (fb_put ksa mt (8 * s) 8) (fb_put kss ms (8 * s) 8) (py_rest kr s mf mp mh mn mc) (vp_updL ks s md) := by
  rcases hK with ⟨h1, h2⟩ | ⟨h1, h2, b, h, hs, sc, st, ss, sd, hG⟩
  · exact Or.inl ⟨h1, by rw [pk_un hne]; exact h2⟩
  · refine Or.inr ⟨h1, by rw [pk_un hne]; exact h2, b, h, hs, sc, st, ss, sd, ?_⟩
    rw [py_rest_out (by omega), py_rest_out (by omega), py_rest_out (by omega), py_rest_out (by omega), py_rest_out (by omega), pk_uLn hne]
    refine py_RG_cong hG (fun _ _ => rfl) (fun _ _ => rfl) (fun _ _ => rfl) ?_ ?_ ?_ ?_
    · intro i hi; exact fb_put_out (by omega)
    · intro i hi; exact fb_put_out (by omega)
    · intro i hi; exact fb_put_out (by omega)
    · intro i hi; exact fb_put_out (by omega)
end PYL
section PYM
variable {n b h sc : Nat} {hs st ss : Nat → Nat} {sd : Int64} {xh xt xs ma mw mt ms ah at' as' bh bt bs ik ka kh ksa kss kr : Nat → Int32} {x0 x1 x2 x3 x4 mp mf mh mn mc a0 a1 a2 a3 a4 ak b0 b1 b2 b3 b4 bk : Int32} {x5 md a5 b5 : Int64} {ks : Nat → Int64}
theorem po_keep (hG : py_RG n b h hs sc st ss sd xh xt xs x0 x1 x2 x3 x4 x5 mp mf mh mn ma mw mc mt ms md) (hA : py_RK n 0 ah at' as' a0 a1 a2 a3 a4 a5 ak ik ka kh ksa kss kr ks) (hB : py_RK n 1 bh bt bs b0 b1 b2 b3 b4 b5 bk ik ka kh ksa kss kr ks) (p0 : Int32) :
    ∃ r ah' at1 as1 a0' a1' a2' a3' a4' a5' ak' bh' bt' bs' b0' b1' b2' b3' b4' b5' bk' ik' ka' kh' ksa' kss' kr' ks', zf_X8_keep p0 xh xt xs x0 x1 x2 x3 x4 x5 ah at' as' a0 a1 a2 a3 a4 a5 ak bh bt bs b0 b1 b2 b3 b4 b5 bk = some (r, ah', at1, as1, a0', a1', a2', a3', a4', a5', ak', bh', bt', bs', b0', b1', b2', b3', b4', b5', bk') ∧
      zf_X9_keep p0 mp mf mh mn ma mw mc mt ms md ik ka kh ksa kss kr ks = some (r, ik', ka', kh', ksa', kss', kr', ks') ∧ py_RK n 0 ah' at1 as1 a0' a1' a2' a3' a4' a5' ak' ik' ka' kh' ksa' kss' kr' ks' ∧ py_RK n 1 bh' bt' bs' b0' b1' b2' b3' b4' b5' bk' ik' ka' kh' ksa' kss' kr' ks' := by
  have ex3 : x3 = mn := by
    obtain ⟨-, -, -, -, -, -, -, -, -, -, -, -, -, -, -, e, -, -, -, -, -, f, -⟩ := hG
    rw [e, f]
  subst ex3
  rcases tn_seat p0 (n := 2) (by decide) with ⟨s, hs2, rfl⟩ | h0
  · have hcase : s = 0 ∨ s = 1 := by omega
    rcases hcase with rfl | rfl
    · refine ⟨_, _, _, _, _, _, _, _, _, _, _, _, _, _, _, _, _, _, _, _, _, _, _, _, _, _, _, _, ?_, py_kp (s := 0) (by decide), py_RK_new (ah := ah) (at' := at') (as' := as') hG, py_RK_old (by decide) hB⟩
      unfold zf_X8_keep
      rw [if_neg (by decide), if_pos (by decide), if_pos (show nI 0 = (0 : Int32) from rfl), py_cp]
      simp only [zb]
      rw [if_pos (show nI 0 = (0 : Int32) from rfl)]
    · refine ⟨_, _, _, _, _, _, _, _, _, _, _, _, _, _, _, _, _, _, _, _, _, _, _, _, _, _, _, _, ?_, py_kp (s := 1) (by decide), py_RK_old (by decide) hA, py_RK_new (ah := bh) (at' := bt) (as' := bs) hG⟩
      unfold zf_X8_keep
      rw [if_neg (by decide), if_pos (by decide), if_neg (show ¬ nI 1 = (0 : Int32) by decide), if_pos (show nI 1 = (1 : Int32) from rfl), py_cp]
      simp only [zb]
      rw [if_neg (show ¬ nI 1 = (0 : Int32) by decide), if_pos (show nI 1 = (1 : Int32) from rfl)]
  · refine ⟨-1, ah, at', as', a0, a1, a2, a3, a4, a5, ak, bh, bt, bs, b0, b1, b2, b3, b4, b5, bk, ik, ka, kh, ksa, kss, kr, ks, ?_, ?_, hA, hB⟩
    · unfold zf_X8_keep
      by_cases hp : p0 < 0
      · rw [if_pos hp]
      · rw [if_neg hp, if_neg (show ¬ p0 < 2 from fun z => h0.elim hp (fun q => absurd z (Int32.not_lt.mpr q)))]
    · unfold zf_X9_keep
      rw [py_rng (lo := 0) (hi := 1) (lo' := 0) (hi' := 1) (by decide) (by decide), if_pos (h0.elim Or.inl (fun q => Or.inr (by
        have h1 := (fa_le _ _).mp q
        rw [fa_lt]
        have : (nI 2).toInt = 2 := rfl
        have : (1 : Int32).toInt = 1 := rfl
        omega)))]
      rfl
theorem po_again (hG : py_RG n b h hs sc st ss sd xh xt xs x0 x1 x2 x3 x4 x5 mp mf mh mn ma mw mc mt ms md) (hA : py_RK n 0 ah at' as' a0 a1 a2 a3 a4 a5 ak ik ka kh ksa kss kr ks) (hB : py_RK n 1 bh bt bs b0 b1 b2 b3 b4 b5 bk ik ka kh ksa kss kr ks) (p0 : Int32) :
    ∃ r xh' xt' xs' x0' x1' x2' x3' x4' x5' mp' mf' mh' mn' ma' mw' mc' mt' ms' md', zf_X8_again p0 ah at' as' a0 a1 a2 a3 a4 a5 ak bh bt bs b0 b1 b2 b3 b4 b5 bk xh xt xs x0 x1 x2 x3 x4 x5 = some (r, xh', xt', xs', x0', x1', x2', x3', x4', x5') ∧
      zf_X9_again p0 ik ka kh ksa kss kr ks mp mf mh mn ma mw mc mt ms md = some (r, mp', mf', mh', mn', ma', mw', mc', mt', ms', md') ∧ ∃ b' h' hs' sc' st' ss' sd', py_RG n b' h' hs' sc' st' ss' sd' xh' xt' xs' x0' x1' x2' x3' x4' x5' mp' mf' mh' mn' ma' mw' mc' mt' ms' md' := by
  rcases tn_seat p0 (n := 2) (by decide) with ⟨s, hs2, rfl⟩ | h0
  · have hm0 : zf_X9_again (nI s) ik ka kh ksa kss kr ks mp mf mh mn ma mw mc mt ms md = if ik s = 0 then some (-3, mp, mf, mh, mn, ma, mw, mc, mt, ms, md) else some (kr (5 * s + 3), kr (5 * s + 1), kr (5 * s), kr (5 * s + 2), kr (5 * s + 3), fb_put ma (fun k => ka (30 * s + k)) 0 30, fb_put mw (fun k => kh (30 * s + k)) 0 30, kr (5 * s + 4), fb_put mt (fun k => ksa (8 * s + k)) 0 8, fb_put ms (fun k => kss (8 * s + k)) 0 8, ks s) := by
      unfold zf_X9_again
      rw [py_rng (lo := 0) (hi := 1) (lo' := 0) (hi' := 1) (by decide) (by decide), if_neg (show ¬ (nI s < 0 ∨ 1 < nI s) from fun q => q.elim (tn_n0 (by omega)) (fun q => absurd ((tn_lt (a := 1) (b := s) (by decide) (by omega)).mp q) (by omega)))]
      simp only [zb, if_neg zone]
      rw [if_neg (tn_in (by omega) (by decide)), tn_cl (by omega)]
      have := py_a26 (ik := ik) (ka := ka) (kh := kh) (ksa := ksa) (kss := kss) (kr := kr) (ks := ks) hs2 (p' := mp) (f' := mf) (h' := mh) (n' := mn) (c' := mc) (d' := md) (wa' := ma) (wh' := mw) (ta := mt) (tb := ms) 30 0 zfuel (by omega) (by unfold zfuel; omega)
      rw [fb_put_0, fb_put_0] at this
      rw [show zf_X9_again_26 ik ka kh ksa kss kr ks zfuel mp mf mh mn ma mw mc mt ms md (nI s) 0 = _ from this]
    have hcase : s = 0 ∨ s = 1 := by omega
    rcases hcase with rfl | rfl
    · rcases hA with ⟨k1, k2⟩ | ⟨k1, k2, b', h', hs', sc', st', ss', sd', hG'⟩
      · rw [hm0, if_pos k2]
        refine ⟨_, xh, xt, xs, x0, x1, x2, x3, x4, x5, _, _, _, _, _, _, _, _, _, _, ?_, rfl, b, h, hs, sc, st, ss, sd, hG⟩
        unfold zf_X8_again
        rw [if_neg (by decide), if_pos (by decide), if_pos (show nI 0 = (0 : Int32) from rfl), if_pos k1]
      · rw [hm0, if_neg (by rw [k2]; decide)]
        have e3 : a3 = kr (5 * 0 + 3) := by
          obtain ⟨-, -, -, -, -, -, -, -, -, -, -, -, -, -, -, e, -, -, -, -, -, f, -⟩ := hG'
          rw [e, f]
        refine ⟨_, fb_put xh ah 0 30, fb_put xt at' 0 8, fb_put xs as' 0 8, a0, a1, a2, a3, a4, a5, _, _, _, _, _, _, _, _, _, _, ?_, rfl, b', h', hs', sc', st', ss', sd', ?_⟩
        · unfold zf_X8_again
          rw [if_neg (by decide), if_pos (by decide), if_pos (show nI 0 = (0 : Int32) from rfl), if_neg (by rw [k1]; decide), if_pos (show nI 0 = (0 : Int32) from rfl), py_cp]
          simp only [zb]
          rw [e3]
        · refine py_RG_cong hG' ?_ ?_ ?_ ?_ ?_ ?_ ?_ <;> (intro i hi; rw [fb_put_in (by omega) (by omega)]; rfl)
    · rcases hB with ⟨k1, k2⟩ | ⟨k1, k2, b', h', hs', sc', st', ss', sd', hG'⟩
      · rw [hm0, if_pos k2]
        refine ⟨_, xh, xt, xs, x0, x1, x2, x3, x4, x5, _, _, _, _, _, _, _, _, _, _, ?_, rfl, b, h, hs, sc, st, ss, sd, hG⟩
        unfold zf_X8_again
        rw [if_neg (by decide), if_pos (by decide), if_neg (show ¬ nI 1 = (0 : Int32) by decide), if_pos (show nI 1 = (1 : Int32) from rfl), if_pos k1]
      · rw [hm0, if_neg (by rw [k2]; decide)]
        have e3 : b3 = kr (5 * 1 + 3) := by
          obtain ⟨-, -, -, -, -, -, -, -, -, -, -, -, -, -, -, e, -, -, -, -, -, f, -⟩ := hG'
          rw [e, f]
        refine ⟨_, fb_put xh bh 0 30, fb_put xt bt 0 8, fb_put xs bs 0 8, b0, b1, b2, b3, b4, b5, _, _, _, _, _, _, _, _, _, _, ?_, rfl, b', h', hs', sc', st', ss', sd', ?_⟩
        · unfold zf_X8_again
          rw [if_neg (by decide), if_pos (by decide), if_neg (show ¬ nI 1 = (0 : Int32) by decide), if_pos (show nI 1 = (1 : Int32) from rfl), if_neg (by rw [k1]; decide), if_neg (show ¬ nI 1 = (0 : Int32) by decide), if_pos (show nI 1 = (1 : Int32) from rfl), py_cp]
          simp only [zb]
          rw [e3]
        · refine py_RG_cong hG' ?_ ?_ ?_ ?_ ?_ ?_ ?_ <;> (intro i hi; rw [fb_put_in (by omega) (by omega)]; rfl)
  · refine ⟨-1, xh, xt, xs, x0, x1, x2, x3, x4, x5, mp, mf, mh, mn, ma, mw, mc, mt, ms, md, ?_, ?_, b, h, hs, sc, st, ss, sd, hG⟩
    · unfold zf_X8_again
      by_cases hp : p0 < 0
      · rw [if_pos hp]
      · rw [if_neg hp, if_neg (show ¬ p0 < 2 from fun z => h0.elim hp (fun q => absurd z (Int32.not_lt.mpr q)))]
    · unfold zf_X9_again
      rw [py_rng (lo := 0) (hi := 1) (lo' := 0) (hi' := 1) (by decide) (by decide), if_pos (h0.elim Or.inl (fun q => Or.inr (by
        have h1 := (fa_le _ _).mp q
        rw [fa_lt]
        have : (nI 2).toInt = 2 := rfl
        have : (1 : Int32).toInt = 1 := rfl
        omega)))]
      rfl
end PYM
