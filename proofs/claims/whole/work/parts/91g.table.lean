/-! ===== the whole text; the table ===== -/
section PYTB
variable {len : Nat} {tx : Nat → Nat} {xb mt : Nat → Int32}
theorem py_clearN (p0 : Int32) (ct to wc : Nat → Int32) (s k p : Int32) : ∃ ct' to' wc', zf_X3_clear p0 ct to wc s k p = some (ct', to', wc', p0, 2, 0) ∧ (∀ i, i < 64 → ct' i = 0) ∧ ∀ i, i < 8 → to' i = 0 ∧ wc' i = 0 := by
  have A : ∀ (d q m : Nat) (ct to wc : Nat → Int32), q + d = 8 → d < m → (∀ i, i < q → to i = 0 ∧ wc i = 0) → ∃ to' wc', zf_X3_clear_38 m ct to wc p0 2 0 (nI q) = some (ct, to', wc', p0, 2, 0) ∧ ∀ i, i < 8 → to' i = 0 ∧ wc' i = 0 := by
    intro d
    induction d with
    | zero =>
      intro q m ct to wc e1 e2 h
      obtain ⟨f, rfl⟩ : ∃ f, m = f + 1 := ⟨m - 1, by omega⟩
      have : q = 8 := by omega
      subst this
      refine ⟨to, wc, ?_, h⟩
      show zf_X3_clear_38_b _ _ _ _ _ _ _ _ = _
      unfold zf_X3_clear_38_b
      rw [if_pos (by decide)]
    | succ d ih =>
      intro q m ct to wc e1 e2 h
      obtain ⟨f, rfl⟩ : ∃ f, m = f + 1 := ⟨m - 1, by omega⟩
      show ∃ to' wc', zf_X3_clear_38_b _ _ _ _ _ _ _ _ = _ ∧ _
      unfold zf_X3_clear_38_b
      rw [if_neg (show ¬ (8 : Int32) ≤ nI q from nI_ge (a := q) (b := 8) (by omega) (by decide)), if_neg (tn_in (a := q) (N := 8) (by omega) (by decide)), tn_cl (by omega), show nI q + (1 : Int32) = nI (q + 1) from nI_1 q]
      refine ih (q + 1) f _ _ _ (by omega) (by omega) (fun i hi => ?_)
      by_cases e : i = q
      · rw [e, pk_us, pk_us]; exact ⟨rfl, rfl⟩
      · rw [pk_un e, pk_un e]; exact h i (by omega)
  have B : ∀ (d q m : Nat) (ct : Nat → Int32), q + d = 64 → d < m → (∀ i, i < q → ct i = 0) → ∃ ct' to' wc', zf_X3_clear_17 m ct to wc p0 2 0 (nI q) = some (ct', to', wc', p0, 2, 0) ∧ (∀ i, i < 64 → ct' i = 0) ∧ ∀ i, i < 8 → to' i = 0 ∧ wc' i = 0 := by
    intro d
    induction d with
    | zero =>
      intro q m ct e1 e2 h
      obtain ⟨f, rfl⟩ : ∃ f, m = f + 1 := ⟨m - 1, by omega⟩
      have : q = 64 := by omega
      subst this
      obtain ⟨to', wc', a1, a2⟩ := A 8 0 zfuel ct to wc (by omega) (by unfold zfuel; omega) (fun i hi => absurd hi (by omega))
      refine ⟨ct, to', wc', ?_, h, a2⟩
      show zf_X3_clear_17_b _ _ _ _ _ _ _ _ = _
      unfold zf_X3_clear_17_b
      rw [if_pos (by decide)]
      exact a1
    | succ d ih =>
      intro q m ct e1 e2 h
      obtain ⟨f, rfl⟩ : ∃ f, m = f + 1 := ⟨m - 1, by omega⟩
      show ∃ ct' to' wc', zf_X3_clear_17_b _ _ _ _ _ _ _ _ = _ ∧ _
      unfold zf_X3_clear_17_b
      rw [if_neg (show ¬ (64 : Int32) ≤ nI q from nI_ge (a := q) (b := 64) (by omega) (by decide)), if_neg (tn_in (a := q) (N := 64) (by omega) (by decide)), tn_cl (by omega), show nI q + (1 : Int32) = nI (q + 1) from nI_1 q]
      refine ih (q + 1) f _ (by omega) (by omega) (fun i hi => ?_)
      by_cases e : i = q
      · rw [e, pk_us]
      · rw [pk_un e]; exact h i (by omega)
  exact B 64 0 zfuel ct (by omega) (by unfold zfuel; omega) (fun i hi => absurd hi (by omega))
theorem py_copyN (ot : Nat → Int32) (os ok op : Int32) (ct to wc : Nat → Int32) (s k p : Int32) : ∃ ct' to' wc', zf_X3_copyFrom ot os ok op ct to wc s k p = some (ct', to', wc', os, ok, op) ∧ ∀ i, i < 64 → ct' i = ot i := by
  obtain ⟨c1, t1, w1, e, -, -⟩ := py_clearN os ct to wc s k p
  have B : ∀ (d q m : Nat) (ct : Nat → Int32), q + d = 64 → d < m → (∀ i, i < q → ct i = ot i) → ∃ ct', zf_X3_copyFrom_26 ot os ok op m ct t1 w1 os ok op (nI q) = some (ct', t1, w1, os, ok, op) ∧ ∀ i, i < 64 → ct' i = ot i := by
    intro d
    induction d with
    | zero =>
      intro q m ct e1 e2 h
      obtain ⟨f, rfl⟩ : ∃ f, m = f + 1 := ⟨m - 1, by omega⟩
      have : q = 64 := by omega
      subst this
      refine ⟨ct, ?_, h⟩
      show zf_X3_copyFrom_26_b ot os ok op _ _ _ _ _ _ _ _ = _
      unfold zf_X3_copyFrom_26_b
      rw [if_pos (by decide)]
    | succ d ih =>
      intro q m ct e1 e2 h
      obtain ⟨f, rfl⟩ : ∃ f, m = f + 1 := ⟨m - 1, by omega⟩
      show ∃ ct', zf_X3_copyFrom_26_b ot os ok op _ _ _ _ _ _ _ _ = _ ∧ _
      unfold zf_X3_copyFrom_26_b
      rw [if_neg (show ¬ (64 : Int32) ≤ nI q from nI_ge (a := q) (b := 64) (by omega) (by decide)), if_neg (tn_in (a := q) (N := 64) (by omega) (by decide)), tn_cl (by omega), show nI q + (1 : Int32) = nI (q + 1) from nI_1 q]
      refine ih (q + 1) f _ (by omega) (by omega) (fun i hi => ?_)
      by_cases e : i = q
      · rw [e, pk_us]
      · rw [pk_un e]; exact h i (by omega)
  obtain ⟨ct', b1, b2⟩ := B 64 0 zfuel c1 (by omega) (by unfold zfuel; omega) (fun i hi => absurd hi (by omega))
  refine ⟨ct', t1, w1, ?_, b2⟩
  unfold zf_X3_copyFrom
  rw [e]
  simp only [zb]
  exact b1
/-- a table that both have read -/
def py_Ok (ct : Nat → Int32) (cs ck cp : Int32) (rt : Nat → Int32) (rs rk rr : Int32) : Prop :=
  ∃ n, 2 ≤ n ∧ n ≤ 8 ∧ cs = nI n ∧ rs = nI n ∧ ((ck = 2 ∧ rk = 2 ∧ cp = 0 ∧ rr = 0 ∧ ∃ D, py_DD n D ∧ py_whole n D ∧ (∀ a b, a < 8 → b < 8 → ct (8 * a + b) = nI (py_st n D a b)) ∧ py_MD D rt) ∨
    (∃ kd pn, kd ≤ 1 ∧ pn ≤ 9 ∧ ck = nI kd ∧ rk = nI kd ∧ cp = nI pn ∧ rr = nI pn ∧ (∀ a b, a < 8 → b < 8 → ct (8 * a + b) = nI (py_ln n kd pn a b)) ∧ ∀ i, i < 64 → rt i = 0))
theorem py_rt23 (L : Int32) (rs rk rr ps fa : Int32) : ∀ (d q m : Nat) (rt : Nat → Int32), q + d = 64 → d < m → (∀ i, i < q → rt i = 0) → ∃ rt', (∀ i, i < 64 → rt' i = 0) ∧ zf_X9_readText_23 mt L m rt rs rk rr ps fa (nI q) = zf_X9_readText_23_b mt L (fun _ _ _ _ _ _ _ => none) rt' rs rk rr ps fa 64 := by
  intro d
  induction d with
  | zero =>
    intro q m rt e1 e2 h
    obtain ⟨f, rfl⟩ : ∃ f, m = f + 1 := ⟨m - 1, by omega⟩
    have : q = 64 := by omega
    subst this
    refine ⟨rt, h, ?_⟩
    show zf_X9_readText_23_b _ _ _ _ _ _ _ _ _ _ = _
    unfold zf_X9_readText_23_b
    rw [if_pos (show (64 : Int32) ≤ nI 64 by decide), if_pos (show (64 : Int32) ≤ 64 by decide)]
  | succ d ih =>
    intro q m rt e1 e2 h
    obtain ⟨f, rfl⟩ : ∃ f, m = f + 1 := ⟨m - 1, by omega⟩
    obtain ⟨rt', a1, a2⟩ := ih (q + 1) f (upd rt q 0) (by omega) (by omega) (fun i hi => by
      by_cases e : i = q
      · rw [e, pk_us]
      · rw [pk_un e]; exact h i (by omega))
    refine ⟨rt', a1, ?_⟩
    rw [← a2]
    show zf_X9_readText_23_b _ _ _ _ _ _ _ _ _ _ = _
    rw [zf_X9_readText_23_b]
    rw [if_neg (show ¬ (64 : Int32) ≤ nI q from nI_ge (a := q) (b := 64) (by omega) (by decide)), if_neg (tn_in (a := q) (N := 64) (by omega) (by decide)), tn_cl (by omega), show nI q + (1 : Int32) = nI (q + 1) from nI_1 q]
theorem py_508 : ∀ f, f < 10 → ((508 : Nat).testBit f = decide (2 ≤ f ∧ f ≤ 8)) := by decide
theorem py_1023 : ∀ f, f < 10 → ((1023 : Nat).testBit f = true) := by decide
theorem py_read (hl : len ≤ 98) (h1 : ∀ i, i < len → tx i < 256 ∧ xb i = nI (tx i)) (h2 : ∀ i, i < len → tx i < 256 ∧ mt i = nI (tx i)) (dct dto dwc : Nat → Int32) (dcs dck dcp : Int32) (rt0 : Nat → Int32) (rs0 rk0 rr0 ps0 fa0 : Int32) :
    ∃ r ct to wc cs ck cp rt rs rk rr ps fa, zf_X7_readInto xb (nI len) dct dto dwc dcs dck dcp = some (r, ct, to, wc, cs, ck, cp) ∧ zf_X9_readText mt (nI len) rt0 rs0 rk0 rr0 ps0 fa0 = some (r, rt, rs, rk, rr, ps, fa) ∧ (r = -9 → py_Ok ct cs ck cp rt rs rk rr) := by
  obtain ⟨rt, hz, hM⟩ := py_rt23 (mt := mt) (nI len) rs0 2 0 0 (-9) 64 0 zfuel rt0 (by omega) (by unfold zfuel; omega) (fun i hi => absurd hi (by omega))
  have hM' : zf_X9_readText mt (nI len) rt0 rs0 rk0 rr0 ps0 fa0 = zf_X9_readText_23_b mt (nI len) (fun _ _ _ _ _ _ _ => none) rt rs0 2 0 0 (-9) 64 := hM
  rw [hM']
  unfold zf_X7_readInto zf_X9_readText_23_b
  rw [if_pos (show (64 : Int32) ≤ 64 by decide), show zf_X7_byteAt 0 xb (nI len) = _ from py_byteAt (p := 0) hl h1 (by omega)]
  simp only [zb]
  by_cases l0 : len = 0
  · rw [if_neg (show ¬ 0 < len by omega), if_neg (show ¬ (-1 : Int32) = 84 by decide), if_pos (show nI len = 0 from by rw [l0]; rfl)]
    exact ⟨_, _, _, _, _, _, _, _, _, _, _, _, _, rfl, rfl, fun z => absurd z (by decide)⟩
  · have b0 := h2 0 (by omega)
    rw [if_pos (show 0 < len by omega), if_neg (show ¬ nI len = 0 from nI_ne0 (by omega) (by omega)), show mt ((0 : Int32)).toNatClampNeg = nI (tx 0) from b0.2]
    by_cases t0 : tx 0 = 84
    · rw [t0, if_pos (show nI 84 = 84 from rfl), if_pos (show nI 84 = 84 from rfl), show zf_X9_figure 508 mt (nI len) 1 (-9) = _ from py_figM (M := 508) (p := 1) hl h2 (by omega), show zf_X7_figureAt 1 xb (nI len) = _ from py_figAt (p := 1) hl h1 (by omega)]
      simp only [zb]
      by_cases c1 : py_on len tx 1 508 = true
      · have hb := c1
        unfold py_on at hb
        rw [Bool.and_eq_true] at hb
        have hd := py_dgE hb.1
        rw [py_508 _ (by omega), decide_eq_true_iff] at hb
        obtain ⟨n, hn⟩ : ∃ n, n = tx 1 - 48 := ⟨_, rfl⟩
        have n2 : 2 ≤ n ∧ n ≤ 8 := by rw [hn]; exact hb.2
        rw [if_pos c1, if_pos hb.1, ← hn]
        simp only []
        rw [if_neg (show ¬ nI n < (2 : Int32) from nI_nlt (a := n) (b := 2) (by omega) (by omega)), if_pos (show nI n ≤ (8 : Int32) from nI_le (a := n) (b := 8) (by omega) (by decide)), if_pos trivial]
        obtain ⟨ct, to, wc, k1, k2, k3⟩ := py_clearN (nI n) dct dto dwc dcs dck dcp
        rw [k1, show zf_X7_byteAt 2 xb (nI len) = _ from py_byteAt (p := 2) hl h1 (by omega)]
        simp only [zb]
        have free : ∃ r ct' to' wc' cs ck cp rt' rs rk rr ps fa, (Option.bind (zf_X7_readFree xb (nI len) (nI n) ct to wc) (fun x_14 => (some (x_14.1, x_14.2.1, x_14.2.2.1, x_14.2.2.2, nI n, (2 : Int32), (0 : Int32))))) = some (r, ct', to', wc', cs, ck, cp) ∧ zf_X9_readText_203 mt (nI len) zfuel rt (nI n) 2 0 (nI 2) (-9) = some (r, rt', rs, rk, rr, ps, fa) ∧ (r = -9 → py_Ok ct' cs ck cp rt' rs rk rr) := by
          have dd : py_DD n (fun _ _ => 0) := ⟨fun _ _ _ => rfl, fun i => by show fb_sm (fun _ => 0) 8 ≤ 10; rw [fb_sm_const]; omega⟩
          have cd : py_CD (fun _ _ => 0) ct to wc := ⟨fun i j hi hj => k2 _ (by omega), fun i hi => by
            rw [(k3 i hi).1, (k3 i hi).2]
            exact ⟨rfl, rfl⟩⟩
          have md : py_MD (fun _ _ => 0) rt := fun i j hi hj => hz _ (by omega)
          have go := py_rf (n := n) n2.2 hl h1 h2 2 0 98 2 zfuel zfuel (fun _ _ => 0) ct to wc rt
          have go2 : py_Rd n (zf_X7_readFree xb (nI len) (nI n) ct to wc) (zf_X9_readText_203 mt (nI len) zfuel rt (nI n) 2 0 (nI 2) (-9)) 2 0 := go (by omega) (by omega) (by unfold zfuel; omega) (by unfold zfuel; omega) dd cd md
          rcases go2 with ⟨q, ct', to', wc', rt', ps, fa, g0, g1, g2⟩ | ⟨D, ct', to', wc', rt', ps, fa, g1, g2, g3, g4, g5, g6⟩
          · rw [g1, g2]
            exact ⟨_, _, _, _, _, _, _, _, _, _, _, _, _, rfl, rfl, fun z => absurd z (py_m9' g0)⟩
          · rw [g1, g2]
            exact ⟨_, _, _, _, _, _, _, _, _, _, _, _, _, rfl, rfl, fun _ => ⟨n, n2.1, n2.2, rfl, rfl, Or.inl ⟨rfl, rfl, rfl, rfl, D, g3, g4, g5, g6⟩⟩⟩
        have penny : ∀ kd, kd ≤ 1 → ∃ r ct' to' wc' cs ck cp rt' rs rk rr ps fa, (Option.bind (zf_X7_readPenny (nI kd) xb (nI len) (nI n) ct to wc 2 0) (fun x_18 => (some (x_18.1, x_18.2.1, x_18.2.2.1, x_18.2.2.2.1, nI n, x_18.2.2.2.2.1, x_18.2.2.2.2.2)))) = some (r, ct', to', wc', cs, ck, cp) ∧ zf_X9_readText_146 mt (nI len) rt (nI n) 2 0 (nI 2) (-9) (nI kd) = some (r, rt', rs, rk, rr, ps, fa) ∧ (r = -9 → py_Ok ct' cs ck cp rt' rs rk rr) := by
          intro kd hk
          unfold zf_X7_readPenny zf_X9_readText_146
          rw [show zf_X7_figureAt 3 xb (nI len) = _ from py_figAt (p := 3) hl h1 (by omega), show zf_X9_figure 1023 mt (nI len) (nI 2 + 1) (-9) = _ from py_figM (M := 1023) (p := 3) hl h2 (by omega)]
          simp only [zb]
          by_cases d3 : py_dg len tx 3 = true
          · have hd3 := py_dgE d3
            have on3 : py_on len tx 3 1023 = true := by
              unfold py_on
              rw [d3, py_1023 _ (by omega)]
              rfl
            rw [if_pos d3, if_pos on3]
            simp only []
            rw [if_pos (show (0 : Int32) ≤ nI (tx 3 - 48) from tn_p0 (by omega)), if_pos trivial]
            by_cases l4 : len ≤ 4
            · obtain ⟨ct', to', wc', y1, y2⟩ := py_layC (kd := kd) (pn := tx 3 - 48) n2.1 n2.2 hk (by omega) n 0 zfuel ct to wc (by omega) (by unfold zfuel; omega) (fun a b ha hb => by rw [if_neg (by omega)]; exact k2 _ (by omega))
              have y1' : zf_X3_lay (nI kd) (nI (tx 3 - 48)) (nI n) ct to wc 2 0 = some (ct', to', wc', nI kd, nI (tx 3 - 48)) := by
                unfold zf_X3_lay
                rw [show nI n - (1 : Int32) = nI (n - 1) from pk_sub (a := n) (b := 1) (by omega)]
                exact y1
              rw [if_pos (show nI len ≤ (4 : Int32) from nI_le (a := len) (b := 4) l4 (by decide)), if_pos (show nI len ≤ nI (3 + 1) from nI_le (a := len) (b := 4) l4 (by decide)), y1']
              exact ⟨_, _, _, _, _, _, _, _, _, _, _, _, _, rfl, rfl, fun _ => ⟨n, n2.1, n2.2, rfl, rfl, Or.inr ⟨kd, tx 3 - 48, hk, by omega, rfl, rfl, rfl, rfl, y2, hz⟩⟩⟩
            · rw [if_neg (show ¬ nI len ≤ (4 : Int32) from nI_ge (a := 4) (b := len) (by omega) (by omega)), if_neg (show ¬ nI len ≤ nI (3 + 1) from nI_ge (a := 4) (b := len) (by omega) (by omega))]
              exact ⟨_, _, _, _, _, _, _, _, _, _, _, _, _, rfl, rfl, fun z => absurd z (show ¬ (4 : Int32) = -9 by decide)⟩
          · have on3 : ¬ py_on len tx 3 1023 = true := by
              unfold py_on
              intro z
              rw [Bool.and_eq_true] at z
              exact d3 z.1
            rw [if_neg d3, if_neg on3]
            simp only []
            rw [if_neg (show ¬ (0 : Int32) ≤ -1 by decide), if_neg (py_m9' (q := 3) (by omega))]
            exact ⟨_, _, _, _, _, _, _, _, _, _, _, _, _, rfl, rfl, fun z => absurd z (show ¬ (3 : Int32) = -9 by decide)⟩
        by_cases l2 : len ≤ 2
        · rw [if_neg (show ¬ 2 < len by omega), if_neg (show ¬ (-1 : Int32) = 82 by decide), if_neg (show ¬ (-1 : Int32) = 87 by decide), if_pos (show nI len ≤ nI (1 + 1) from nI_le (a := len) (b := 2) l2 (by decide))]
          exact free
        · have b2 := h2 2 (by omega)
          rw [if_pos (show 2 < len by omega), if_neg (show ¬ nI len ≤ nI (1 + 1) from nI_ge (a := 2) (b := len) (by omega) (by omega)), if_neg (tn_in (a := 1 + 1) (N := 98) (by omega) (by decide)), show mt (nI (1 + 1)).toNatClampNeg = nI (tx 2) from b2.2]
          have e126 : ∀ kd, (tx 2 = 82 ∧ kd = 0 ∨ tx 2 = 87 ∧ kd = 1) → zf_X9_readText_126 mt (nI len) rt (nI n) 2 0 (nI (1 + 1)) (-9) = zf_X9_readText_146 mt (nI len) rt (nI n) 2 0 (nI 2) (-9) (nI kd) := by
            intro kd hk
            unfold zf_X9_readText_126
            rw [if_neg (tn_in (a := 1 + 1) (N := 98) (by omega) (by decide)), show mt (nI (1 + 1)).toNatClampNeg = nI (tx 2) from b2.2]
            rcases hk with ⟨e, rfl⟩ | ⟨e, rfl⟩
            · rw [e, if_pos (show nI 82 = 82 from rfl)]
              rfl
            · rw [e, if_neg (show ¬ nI 87 = 82 by decide)]
              rfl
          by_cases t2 : tx 2 = 82
          · rw [e126 0 (Or.inl ⟨t2, rfl⟩), t2, if_pos (show nI 82 = 82 from rfl), if_pos (show nI 82 = 82 from rfl)]
            exact penny 0 (by omega)
          · have t2' : ¬ nI (tx 2) = 82 := fun z => t2 ((tn_eq (a := tx 2) (b := 82) (by omega) (by decide)).mp z)
            rw [if_neg t2', if_neg t2']
            by_cases t3 : tx 2 = 87
            · rw [e126 1 (Or.inr ⟨t3, rfl⟩), t3, if_pos (show nI 87 = 87 from rfl), if_pos (show nI 87 = 87 from rfl)]
              exact penny 1 (by omega)
            · have t3' : ¬ nI (tx 2) = 87 := fun z => t3 ((tn_eq (a := tx 2) (b := 87) (by omega) (by decide)).mp z)
              rw [if_neg t3', if_neg t3']
              exact free
      · rw [if_neg c1]
        simp only []
        rw [if_neg (py_m9' (q := 1) (by omega))]
        have fin : zf_X9_readText_203 mt (nI len) zfuel rt 0 2 0 (nI 1) (nI 1) = some (nI 1, rt, 0, 2, 0, nI 1, nI 1) := by
          show zf_X9_readText_203_b _ _ _ _ _ _ _ _ _ = _
          unfold zf_X9_readText_203_b zf_X9_readText_262
          rw [if_neg (py_m9' (q := 1) (by omega)), if_neg (py_m9' (q := 1) (by omega))]
        rw [fin]
        by_cases d1 : py_dg len tx 1 = true
        · have hd := py_dgE d1
          have hno : ¬ (2 ≤ tx 1 - 48 ∧ tx 1 - 48 ≤ 8) := by
            intro z
            apply c1
            unfold py_on
            rw [d1, py_508 _ (by omega), decide_eq_true z]
            rfl
          rw [if_pos d1]
          by_cases c2 : tx 1 - 48 < 2
          · rw [if_pos (show nI (tx 1 - 48) < (2 : Int32) from nI_lt (a := tx 1 - 48) (b := 2) c2 (by decide))]
            exact ⟨_, _, _, _, _, _, _, _, _, _, _, _, _, rfl, rfl, fun z => absurd z (by decide)⟩
          · rw [if_neg (show ¬ nI (tx 1 - 48) < (2 : Int32) from nI_nlt (a := tx 1 - 48) (b := 2) (by omega) (by omega)), if_neg (show ¬ nI (tx 1 - 48) ≤ (8 : Int32) from nI_ge (a := 8) (b := tx 1 - 48) (by omega) (by omega))]
            exact ⟨_, _, _, _, _, _, _, _, _, _, _, _, _, rfl, rfl, fun z => absurd z (by decide)⟩
        · rw [if_neg d1, if_pos (show (-1 : Int32) < 2 by decide)]
          exact ⟨_, _, _, _, _, _, _, _, _, _, _, _, _, rfl, rfl, fun z => absurd z (by decide)⟩
    · have t0' : ¬ nI (tx 0) = 84 := fun z => t0 ((tn_eq (a := tx 0) (b := 84) (by omega) (by decide)).mp z)
      rw [if_neg t0', if_neg t0']
      exact ⟨_, _, _, _, _, _, _, _, _, _, _, _, _, rfl, rfl, fun z => absurd z (by decide)⟩
theorem po_fault {xl ml : Int32} (hT : py_RT len tx xb xl mt ml) (dct dto dwc : Nat → Int32) (dcs dck dcp : Int32) (rt0 : Nat → Int32) (rs0 rk0 rr0 ps0 fa0 : Int32) :
    ∃ r ct to wc cs ck cp rt rs rk rr ps fa, zf_X8_fault xb xl dct dto dwc dcs dck dcp = some (r, ct, to, wc, cs, ck, cp) ∧ zf_X9_fault mt ml rt0 rs0 rk0 rr0 ps0 fa0 = some (r, rt, rs, rk, rr, ps, fa) := by
  obtain ⟨hl, rfl, rfl, h⟩ := hT
  obtain ⟨r, ct, to, wc, cs, ck, cp, rt, rs, rk, rr, ps, fa, g1, g2, -⟩ := py_read hl (fun i hi => ⟨(h i hi).1, (h i hi).2.1⟩) (fun i hi => ⟨(h i hi).1, (h i hi).2.2⟩) dct dto dwc dcs dck dcp rt0 rs0 rk0 rr0 ps0 fa0
  unfold zf_X8_fault zf_X9_fault
  rw [g1, g2]
  exact ⟨_, _, _, _, _, _, _, _, _, _, _, _, _, rfl, rfl⟩
end PYTB
