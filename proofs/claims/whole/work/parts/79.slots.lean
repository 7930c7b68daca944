/-! ===== the slots ===== -/
theorem py_put1 (f g : Nat → Int32) (n : Nat) : upd (fb_put f g 0 n) n (g n) = fb_put f g 0 (n + 1) := by
  have := fb_put_succ f g 0 n
  rw [Nat.zero_add] at this
  exact this
section PYK
variable {oh ot os : Nat → Int32} {o0 o1 o2 o3 o4 : Int32} {o5 : Int64}
theorem py_cp76 {hh : Nat → Int32} {tt sc : Nat → Int32} {y0 y1 y2 y3 y4 : Int32} {y5 : Int64} : ∀ (d k m : Nat), k + d = 8 → d < m → zf_X4_copyFrom_76 oh ot os o0 o1 o2 o3 o4 o5 m hh (fb_put tt ot 0 k) (fb_put sc os 0 k) y0 y1 y2 y3 y4 y5 (nI k) = some (hh, fb_put tt ot 0 8, fb_put sc os 0 8, y0, y1, y2, y3, y4, y5) := by
  intro d
  induction d with
  | zero =>
    intro k m h1 h2
    obtain ⟨q, rfl⟩ : ∃ q, m = q + 1 := ⟨m - 1, by omega⟩
    have : k = 8 := by omega
    subst this
    show zf_X4_copyFrom_76_b oh ot os o0 o1 o2 o3 o4 o5 _ _ _ _ _ _ _ _ _ _ _ = _
    unfold zf_X4_copyFrom_76_b
    rw [if_pos (by decide)]
  | succ d ih =>
    intro k m h1 h2
    obtain ⟨q, rfl⟩ : ∃ q, m = q + 1 := ⟨m - 1, by omega⟩
    show zf_X4_copyFrom_76_b oh ot os o0 o1 o2 o3 o4 o5 _ _ _ _ _ _ _ _ _ _ _ = _
    unfold zf_X4_copyFrom_76_b
    rw [if_neg (show ¬ (8 : Int32) ≤ nI k from nI_ge (a := k) (b := 8) (by omega) (by decide)), if_neg (tn_in (by omega) (by decide)), tn_cl (by omega), py_put1, py_put1, show nI k + (1 : Int32) = nI (k + 1) from nI_1 k]
    exact ih (k + 1) q (by omega) (by omega)
theorem py_cp50 {hh : Nat → Int32} {tt sc : Nat → Int32} {y0 y1 y2 y3 y4 : Int32} {y5 : Int64} : ∀ (d k m : Nat), k + d = 30 → d < m → zf_X4_copyFrom_50 oh ot os o0 o1 o2 o3 o4 o5 m (fb_put hh oh 0 k) tt sc y0 y1 y2 y3 y4 y5 (nI k) = some (fb_put hh oh 0 30, fb_put tt ot 0 8, fb_put sc os 0 8, y0, y1, y2, y3, y4, y5) := by
  intro d
  induction d with
  | zero =>
    intro k m h1 h2
    obtain ⟨q, rfl⟩ : ∃ q, m = q + 1 := ⟨m - 1, by omega⟩
    have : k = 30 := by omega
    subst this
    show zf_X4_copyFrom_50_b oh ot os o0 o1 o2 o3 o4 o5 _ _ _ _ _ _ _ _ _ _ _ = _
    unfold zf_X4_copyFrom_50_b
    rw [if_pos (by decide)]
    have := py_cp76 (oh := oh) (ot := ot) (os := os) (o0 := o0) (o1 := o1) (o2 := o2) (o3 := o3) (o4 := o4) (o5 := o5) (hh := fb_put hh oh 0 30) (tt := tt) (sc := sc) (y0 := y0) (y1 := y1) (y2 := y2) (y3 := y3) (y4 := y4) (y5 := y5) 8 0 zfuel (by omega) (by unfold zfuel; omega)
    rw [fb_put_0, fb_put_0] at this
    exact this
  | succ d ih =>
    intro k m h1 h2
    obtain ⟨q, rfl⟩ : ∃ q, m = q + 1 := ⟨m - 1, by omega⟩
    show zf_X4_copyFrom_50_b oh ot os o0 o1 o2 o3 o4 o5 _ _ _ _ _ _ _ _ _ _ _ = _
    unfold zf_X4_copyFrom_50_b
    rw [if_neg (show ¬ (30 : Int32) ≤ nI k from nI_ge (a := k) (b := 30) (by omega) (by decide)), if_neg (tn_in (by omega) (by decide)), tn_cl (by omega), py_put1, show nI k + (1 : Int32) = nI (k + 1) from nI_1 k]
    exact ih (k + 1) q (by omega) (by omega)
theorem py_cp {hh tt sc : Nat → Int32} {y0 y1 y2 y3 y4 : Int32} {y5 : Int64} : zf_X4_copyFrom oh ot os o0 o1 o2 o3 o4 o5 hh tt sc y0 y1 y2 y3 y4 y5 = some (fb_put hh oh 0 30, fb_put tt ot 0 8, fb_put sc os 0 8, o0, o1, o2, o3, o4, o5) := by
  unfold zf_X4_copyFrom
  have := py_cp50 (oh := oh) (ot := ot) (os := os) (o0 := o0) (o1 := o1) (o2 := o2) (o3 := o3) (o4 := o4) (o5 := o5) (hh := hh) (tt := tt) (sc := sc) (y0 := o0) (y1 := o1) (y2 := o2) (y3 := o3) (y4 := o4) (y5 := o5) 30 0 zfuel (by omega) (by unfold zfuel; omega)
  rw [fb_put_0] at this
  exact this
end PYK
/-- the reference's keep -/
def py_rest (r : Nat → Int32) (s : Nat) (f p h n c : Int32) : Nat → Int32 := upd (upd (upd (upd (upd r (5 * s) f) (5 * s + 1) p) (5 * s + 2) h) (5 * s + 3) n) (5 * s + 4) c
section PYK2
variable {pl fr hd hn : Int32} {wa wh : Nat → Int32} {sn : Int32} {sa ss : Nat → Int32} {sd : Int64} {ik ka kh ksa kss kr : Nat → Int32} {ks : Nat → Int64} {s : Nat}
theorem py_k69 (hs : s < 2) : ∀ (d k m : Nat), k + d = 8 → d < m → zf_X9_keep_69 pl fr hd hn wa wh sn sa ss sd m ik ka kh (fb_put ksa sa (8 * s) k) (fb_put kss ss (8 * s) k) kr ks (nI s) (nI k) = some (hn, ik, ka, kh, fb_put ksa sa (8 * s) 8, fb_put kss ss (8 * s) 8, py_rest kr s fr pl hd hn sn, vp_updL ks s sd) := by
  intro d
  induction d with
  | zero =>
    intro k m h1 h2
    obtain ⟨q, rfl⟩ : ∃ q, m = q + 1 := ⟨m - 1, by omega⟩
    have : k = 8 := by omega
    subst this
    show zf_X9_keep_69_b _ _ _ _ wa wh _ _ _ _ _ _ _ _ _ _ _ _ _ _ = _
    unfold zf_X9_keep_69_b
    have e5 : (5 : Int32) * nI s = nI (5 * s) := pk_mul 5 s
    have e1 : nI (5 * s) + (1 : Int32) = nI (5 * s + 1) := nI_add _ 1
    have e2 : nI (5 * s) + (2 : Int32) = nI (5 * s + 2) := nI_add _ 2
    have e3 : nI (5 * s) + (3 : Int32) = nI (5 * s + 3) := nI_add _ 3
    have e4 : nI (5 * s) + (4 : Int32) = nI (5 * s + 4) := nI_add _ 4
    rw [if_pos (by decide), e5, e1, e2, e3, e4, if_neg (tn_in (by omega) (by decide)), if_neg (tn_in (by omega) (by decide)), if_neg (tn_in (by omega) (by decide)), if_neg (tn_in (by omega) (by decide)), if_neg (tn_in (by omega) (by decide)), if_neg (tn_in (by omega) (by decide)), tn_cl (by omega), tn_cl (by omega), tn_cl (by omega), tn_cl (by omega), tn_cl (by omega), tn_cl (by omega)]
    rfl
  | succ d ih =>
    intro k m h1 h2
    obtain ⟨q, rfl⟩ : ∃ q, m = q + 1 := ⟨m - 1, by omega⟩
    show zf_X9_keep_69_b _ _ _ _ wa wh _ _ _ _ _ _ _ _ _ _ _ _ _ _ = _
    unfold zf_X9_keep_69_b
    rw [if_neg (show ¬ (8 : Int32) ≤ nI k from nI_ge (a := k) (b := 8) (by omega) (by decide)), show (8 : Int32) * nI s + nI k = nI (8 * s + k) from by rw [show (8 : Int32) = nI 8 from rfl, pk_mul, nI_add], if_neg (tn_in (a := k) (N := 8) (by omega) (by decide)), if_neg (tn_in (a := 8 * s + k) (N := 16) (by omega) (by decide)), tn_cl (a := k) (by omega), tn_cl (a := 8 * s + k) (by omega), fb_put_succ, fb_put_succ, show nI k + (1 : Int32) = nI (k + 1) from nI_1 k]
    exact ih (k + 1) q (by omega) (by omega)
theorem py_k21 (hs : s < 2) : ∀ (d k m : Nat), k + d = 30 → d < m → zf_X9_keep_21 pl fr hd hn wa wh sn sa ss sd m ik (fb_put ka wa (30 * s) k) (fb_put kh wh (30 * s) k) ksa kss kr ks (nI s) (nI k) = some (hn, ik, fb_put ka wa (30 * s) 30, fb_put kh wh (30 * s) 30, fb_put ksa sa (8 * s) 8, fb_put kss ss (8 * s) 8, py_rest kr s fr pl hd hn sn, vp_updL ks s sd) := by
  intro d
  induction d with
  | zero =>
    intro k m h1 h2
    obtain ⟨q, rfl⟩ : ∃ q, m = q + 1 := ⟨m - 1, by omega⟩
    have : k = 30 := by omega
    subst this
    show zf_X9_keep_21_b _ _ _ _ _ _ _ _ _ _ _ _ _ _ _ _ _ _ _ _ = _
    unfold zf_X9_keep_21_b
    rw [if_pos (by decide)]
    have := py_k69 (pl := pl) (fr := fr) (hd := hd) (hn := hn) (wa := wa) (wh := wh) (sn := sn) (sa := sa) (ss := ss) (sd := sd) (ik := ik) (ka := fb_put ka wa (30 * s) 30) (kh := fb_put kh wh (30 * s) 30) (ksa := ksa) (kss := kss) (kr := kr) (ks := ks) hs 8 0 zfuel (by omega) (by unfold zfuel; omega)
    rw [fb_put_0, fb_put_0] at this
    exact this
  | succ d ih =>
    intro k m h1 h2
    obtain ⟨q, rfl⟩ : ∃ q, m = q + 1 := ⟨m - 1, by omega⟩
    show zf_X9_keep_21_b _ _ _ _ _ _ _ _ _ _ _ _ _ _ _ _ _ _ _ _ = _
    unfold zf_X9_keep_21_b
    rw [if_neg (show ¬ (30 : Int32) ≤ nI k from nI_ge (a := k) (b := 30) (by omega) (by decide)), show (30 : Int32) * nI s + nI k = nI (30 * s + k) from by rw [show (30 : Int32) = nI 30 from rfl, pk_mul, nI_add], if_neg (tn_in (a := k) (N := 30) (by omega) (by decide)), if_neg (tn_in (a := 30 * s + k) (N := 60) (by omega) (by decide)), tn_cl (a := k) (by omega), tn_cl (a := 30 * s + k) (by omega), fb_put_succ, fb_put_succ, show nI k + (1 : Int32) = nI (k + 1) from nI_1 k]
    exact ih (k + 1) q (by omega) (by omega)
theorem py_kp (hs : s < 2) : zf_X9_keep (nI s) pl fr hd hn wa wh sn sa ss sd ik ka kh ksa kss kr ks = some (hn, upd ik s 1, fb_put ka wa (30 * s) 30, fb_put kh wh (30 * s) 30, fb_put ksa sa (8 * s) 8, fb_put kss ss (8 * s) 8, py_rest kr s fr pl hd hn sn, vp_updL ks s sd) := by
  unfold zf_X9_keep
  rw [py_rng (lo := 0) (hi := 1) (lo' := 0) (hi' := 1) (by decide) (by decide), if_neg (show ¬ (nI s < 0 ∨ 1 < nI s) from fun q => q.elim (tn_n0 (by omega)) (fun q => absurd ((tn_lt (a := 1) (b := s) (by decide) (by omega)).mp q) (by omega)))]
  simp only [zb, if_neg zone]
  rw [if_neg (tn_in (by omega) (by decide)), tn_cl (by omega)]
  have := py_k21 (pl := pl) (fr := fr) (hd := hd) (hn := hn) (wa := wa) (wh := wh) (sn := sn) (sa := sa) (ss := ss) (sd := sd) (ik := upd ik s 1) (ka := ka) (kh := kh) (ksa := ksa) (kss := kss) (kr := kr) (ks := ks) hs 30 0 zfuel (by omega) (by unfold zfuel; omega)
  rw [fb_put_0, fb_put_0] at this
  exact this
theorem py_a74 (hs : s < 2) {p' f' h' n' c' : Int32} {d' : Int64} {wa' wh' ta tb : Nat → Int32} : ∀ (d k m : Nat), k + d = 8 → d < m → zf_X9_again_74 ik ka kh ksa kss kr ks m p' f' h' n' wa' wh' c' (fb_put ta (fun k => ksa (8 * s + k)) 0 k) (fb_put tb (fun k => kss (8 * s + k)) 0 k) d' (nI s) (nI k) = some (kr (5 * s + 3), kr (5 * s + 1), kr (5 * s), kr (5 * s + 2), kr (5 * s + 3), wa', wh', kr (5 * s + 4), fb_put ta (fun k => ksa (8 * s + k)) 0 8, fb_put tb (fun k => kss (8 * s + k)) 0 8, ks s) := by
  intro d
  induction d with
  | zero =>
    intro k m h1 h2
    obtain ⟨q, rfl⟩ : ∃ q, m = q + 1 := ⟨m - 1, by omega⟩
    have : k = 8 := by omega
    subst this
    show zf_X9_again_74_b ik ka kh _ _ _ _ _ _ _ _ _ _ _ _ _ _ _ _ _ = _
    unfold zf_X9_again_74_b
    have e5 : (5 : Int32) * nI s = nI (5 * s) := pk_mul 5 s
    have e1 : nI (5 * s) + (1 : Int32) = nI (5 * s + 1) := nI_add _ 1
    have e2 : nI (5 * s) + (2 : Int32) = nI (5 * s + 2) := nI_add _ 2
    have e3 : nI (5 * s) + (3 : Int32) = nI (5 * s + 3) := nI_add _ 3
    have e4 : nI (5 * s) + (4 : Int32) = nI (5 * s + 4) := nI_add _ 4
    rw [if_pos (by decide), e5, e1, e2, e3, e4, if_neg (tn_in (by omega) (by decide)), if_neg (tn_in (by omega) (by decide)), if_neg (tn_in (by omega) (by decide)), if_neg (tn_in (by omega) (by decide)), if_neg (tn_in (by omega) (by decide)), if_neg (tn_in (by omega) (by decide)), tn_cl (by omega), tn_cl (by omega), tn_cl (by omega), tn_cl (by omega), tn_cl (by omega), tn_cl (by omega)]
  | succ d ih =>
    intro k m h1 h2
    obtain ⟨q, rfl⟩ : ∃ q, m = q + 1 := ⟨m - 1, by omega⟩
    show zf_X9_again_74_b ik ka kh _ _ _ _ _ _ _ _ _ _ _ _ _ _ _ _ _ = _
    unfold zf_X9_again_74_b
    rw [if_neg (show ¬ (8 : Int32) ≤ nI k from nI_ge (a := k) (b := 8) (by omega) (by decide)), show (8 : Int32) * nI s + nI k = nI (8 * s + k) from by rw [show (8 : Int32) = nI 8 from rfl, pk_mul, nI_add], if_neg (tn_in (a := 8 * s + k) (N := 16) (by omega) (by decide)), if_neg (tn_in (a := k) (N := 8) (by omega) (by decide)), tn_cl (a := k) (by omega), tn_cl (a := 8 * s + k) (by omega), show nI k + (1 : Int32) = nI (k + 1) from nI_1 k,
      py_put1 ta (fun k => ksa (8 * s + k)) k, py_put1 tb (fun k => kss (8 * s + k)) k]
    exact ih (k + 1) q (by omega) (by omega)
theorem py_a26 (hs : s < 2) {p' f' h' n' c' : Int32} {d' : Int64} {wa' wh' ta tb : Nat → Int32} : ∀ (d k m : Nat), k + d = 30 → d < m → zf_X9_again_26 ik ka kh ksa kss kr ks m p' f' h' n' (fb_put wa' (fun k => ka (30 * s + k)) 0 k) (fb_put wh' (fun k => kh (30 * s + k)) 0 k) c' ta tb d' (nI s) (nI k) = some (kr (5 * s + 3), kr (5 * s + 1), kr (5 * s), kr (5 * s + 2), kr (5 * s + 3), fb_put wa' (fun k => ka (30 * s + k)) 0 30, fb_put wh' (fun k => kh (30 * s + k)) 0 30, kr (5 * s + 4), fb_put ta (fun k => ksa (8 * s + k)) 0 8, fb_put tb (fun k => kss (8 * s + k)) 0 8, ks s) := by
  intro d
  induction d with
  | zero =>
    intro k m h1 h2
    obtain ⟨q, rfl⟩ : ∃ q, m = q + 1 := ⟨m - 1, by omega⟩
    have : k = 30 := by omega
    subst this
    show zf_X9_again_26_b ik _ _ _ _ _ _ _ _ _ _ _ _ _ _ _ _ _ _ _ = _
    unfold zf_X9_again_26_b
    rw [if_pos (by decide)]
    have := py_a74 (ik := ik) (ka := ka) (kh := kh) (ksa := ksa) (kss := kss) (kr := kr) (ks := ks) hs (p' := p') (f' := f') (h' := h') (n' := n') (c' := c') (d' := d') (wa' := fb_put wa' (fun k => ka (30 * s + k)) 0 30) (wh' := fb_put wh' (fun k => kh (30 * s + k)) 0 30) (ta := ta) (tb := tb) 8 0 zfuel (by omega) (by unfold zfuel; omega)
    rw [fb_put_0, fb_put_0] at this
    exact this
  | succ d ih =>
    intro k m h1 h2
    obtain ⟨q, rfl⟩ : ∃ q, m = q + 1 := ⟨m - 1, by omega⟩
    show zf_X9_again_26_b ik _ _ _ _ _ _ _ _ _ _ _ _ _ _ _ _ _ _ _ = _
    unfold zf_X9_again_26_b
    rw [if_neg (show ¬ (30 : Int32) ≤ nI k from nI_ge (a := k) (b := 30) (by omega) (by decide)), show (30 : Int32) * nI s + nI k = nI (30 * s + k) from by rw [show (30 : Int32) = nI 30 from rfl, pk_mul, nI_add], if_neg (tn_in (a := 30 * s + k) (N := 60) (by omega) (by decide)), if_neg (tn_in (a := k) (N := 30) (by omega) (by decide)), tn_cl (a := k) (by omega), tn_cl (a := 30 * s + k) (by omega), show nI k + (1 : Int32) = nI (k + 1) from nI_1 k,
      py_put1 wa' (fun k => ka (30 * s + k)) k, py_put1 wh' (fun k => kh (30 * s + k)) k]
    exact ih (k + 1) q (by omega) (by omega)
end PYK2
/-- a slot: class and reference -/
def py_RK (n s : Nat) (xh xt xs : Nat → Int32) (x0 x1 x2 x3 x4 : Int32) (x5 : Int64) (kp : Int32) (ik ka kh ksa kss kr : Nat → Int32) (ks : Nat → Int64) : Prop :=
  (kp = 0 ∧ ik s = 0) ∨ (kp = 1 ∧ ik s = 1 ∧ ∃ (b h : Nat) (hs : Nat → Nat) (sc : Nat) (st ss : Nat → Nat) (sd : Int64), py_RG n b h hs sc st ss sd xh xt xs x0 x1 x2 x3 x4 x5 (kr (5 * s + 1)) (kr (5 * s)) (kr (5 * s + 2)) (kr (5 * s + 3)) (fun k => ka (30 * s + k)) (fun k => kh (30 * s + k)) (kr (5 * s + 4)) (fun k => ksa (8 * s + k)) (fun k => kss (8 * s + k)) (ks s))
section PYK3
variable {n b h sc : Nat} {hs st ss : Nat → Nat} {sd : Int64} {xh xt xs ma mw mt ms xh' xt' xs' ma' mw' mt' ms' : Nat → Int32} {x0 x1 x2 x3 x4 mp mf mh mn mc : Int32} {x5 md : Int64}
theorem py_RG_cong (hG : py_RG n b h hs sc st ss sd xh xt xs x0 x1 x2 x3 x4 x5 mp mf mh mn ma mw mc mt ms md) (e1 : ∀ i, i < 30 → xh' i = xh i) (e2 : ∀ i, i < 8 → xt' i = xt i) (e3 : ∀ i, i < 8 → xs' i = xs i) (e4 : ∀ i, i < 30 → ma' i = ma i) (e5 : ∀ i, i < 30 → mw' i = mw i) (e6 : ∀ i, i < 8 → mt' i = mt i) (e7 : ∀ i, i < 8 → ms' i = ms i) :
    py_RG n b h hs sc st ss sd xh' xt' xs' x0 x1 x2 x3 x4 x5 mp mf mh mn ma' mw' mc mt' ms' md := by
  obtain ⟨hb, hh, hsc, hhs, hst, hxh, hma, hmw, hxt, hxs, hmt, hms, r⟩ := hG
  exact ⟨hb, hh, hsc, hhs, hst, fun i hi => (e1 i (by omega)).trans (hxh i hi), fun i hi => (e4 i (by omega)).trans (hma i hi), fun i hi => (e5 i (by omega)).trans (hmw i hi), fun i hi => (e2 i (by omega)).trans (hxt i hi), fun i hi => (e3 i (by omega)).trans (hxs i hi), fun i hi => (e6 i (by omega)).trans (hmt i hi), fun i hi => (e7 i (by omega)).trans (hms i hi), r⟩
end PYK3
