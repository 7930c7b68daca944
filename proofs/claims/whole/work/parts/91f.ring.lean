/-! ===== a ring, a row: how both lay it ===== -/
def py_nx (n i : Nat) : Nat := if i + 1 < n then i + 1 else 0
def py_pv (n i : Nat) : Nat := if 0 < i then i - 1 else n - 1
def py_ln (n kd pn i j : Nat) : Nat :=
  if i < n then (if kd = 1 ∧ i = 0 then (if j = 1 then 10 else 0) else if kd = 1 ∧ i = n - 1 then (if j = n - 2 then 10 else 0) else (if j = py_nx n i then pn else 0) + (if j = py_pv n i then 10 - pn else 0)) else 0
theorem py_ln_fin0 : ∀ n, n < 9 → 2 ≤ n → ∀ pn, pn < 10 → ∀ i, i < n → fb_sm (py_ln n 0 pn i) n = 10 ∧ py_ln n 0 pn i i = 0 := by decide +kernel
theorem py_ln_fin1 : ∀ n, n < 9 → 2 ≤ n → ∀ pn, pn < 10 → ∀ i, i < n → fb_sm (py_ln n 1 pn i) n = 10 ∧ py_ln n 1 pn i i = 0 := by decide +kernel
theorem py_ln_fin (n : Nat) (hn : n < 9) (h2 : 2 ≤ n) (kd : Nat) (hk : kd < 2) (pn : Nat) (hp : pn < 10) (i : Nat) (hi : i < n) : fb_sm (py_ln n kd pn i) n = 10 ∧ py_ln n kd pn i i = 0 := by
  have : kd = 0 ∨ kd = 1 := by omega
  rcases this with rfl | rfl
  · exact py_ln_fin0 n hn h2 pn hp i hi
  · exact py_ln_fin1 n hn h2 pn hp i hi
theorem py_nx_lt {n i : Nat} (h : 2 ≤ n) : py_nx n i < n := by
  unfold py_nx
  by_cases c : i + 1 < n
  · rw [if_pos c]; exact c
  · rw [if_neg c]; omega
theorem py_pv_lt {n i : Nat} (h : 2 ≤ n) (hi : i < n) : py_pv n i < n := by
  unfold py_pv
  by_cases c : 0 < i
  · rw [if_pos c]; omega
  · rw [if_neg c]; omega
theorem py_ln_0 {n kd pn i j : Nat} (h2 : 2 ≤ n) (h : n ≤ i ∨ n ≤ j) : py_ln n kd pn i j = 0 := by
  unfold py_ln
  by_cases c : i < n
  · have a := py_nx_lt (n := n) (i := i) h2
    have b := py_pv_lt (n := n) (i := i) h2 c
    rw [if_pos c, if_neg (show ¬ j = 1 by omega), if_neg (show ¬ j = n - 2 by omega), if_neg (show ¬ j = py_nx n i by omega), if_neg (show ¬ j = py_pv n i by omega)]
    simp
  · rw [if_neg c]
theorem py_remN : ∀ n, n < 9 → 2 ≤ n → ∀ q, q < n → (nI q + 1) - (nI q + 1) / nI n * nI n = nI (py_nx n q) ∧ ((nI q + nI n) - 1) - ((nI q + nI n) - 1) / nI n * nI n = nI (py_pv n q) := by decide +kernel
theorem py_up2 {f : Nat → Int32} {q j a b : Nat} {v : Int32} (hj : j < 8) (hb : b < 8) : upd f (8 * q + j) v (8 * a + b) = if a = q ∧ b = j then v else f (8 * a + b) := by
  by_cases e : a = q ∧ b = j
  · rw [if_pos e, e.1, e.2, pk_us]
  · rw [if_neg e, pk_un (by omega)]
section PYRG
variable {n kd pn : Nat} {ct to wc : Nat → Int32}
theorem py_tellG {i j : Nat} (h8 : n ≤ 8) (hi : i < n) (hj : j < n) (p : Int32) : zf_X3_tell (nI i) (nI j) p (nI n) ct to wc = some (upd ct (8 * i + j) (ct (8 * i + j) + p), upd to i (to i + p), upd wc i (wc i + 1)) := by
  unfold zf_X3_tell
  rw [py_has1 h8 hi, py_has1 h8 hj]
  simp only [zb, if_neg zone]
  rw [py_ix, if_neg (tn_in (a := 8 * i + j) (N := 64) (by omega) (by decide)), if_neg (tn_in (a := i) (N := 8) (by omega) (by decide)), tn_cl (a := 8 * i + j) (by omega), tn_cl (a := i) (by omega)]
theorem py_layC (h2 : 2 ≤ n) (h8 : n ≤ 8) (hk : kd ≤ 1) (hp : pn ≤ 9) : ∀ (d q m : Nat) (ct to wc : Nat → Int32), q + d = n → d < m → (∀ a b, a < 8 → b < 8 → ct (8 * a + b) = nI (if a < q then py_ln n kd pn a b else 0)) →
    ∃ ct' to' wc', zf_X3_lay_20 (nI n) m ct to wc (nI kd) (nI pn) (nI kd) (nI pn) (nI (n - 1)) (nI q) = some (ct', to', wc', nI kd, nI pn) ∧ ∀ a b, a < 8 → b < 8 → ct' (8 * a + b) = nI (py_ln n kd pn a b) := by
  intro d
  induction d with
  | zero =>
    intro q m ct to wc e1 e2 h
    obtain ⟨f, rfl⟩ : ∃ f, m = f + 1 := ⟨m - 1, by omega⟩
    have : q = n := by omega
    subst this
    refine ⟨ct, to, wc, ?_, fun a b ha hb => ?_⟩
    · show zf_X3_lay_20_b _ _ _ _ _ _ _ _ _ _ _ = _
      unfold zf_X3_lay_20_b
      rw [if_pos (nI_lt (by omega) (by omega))]
    · rw [h a b ha hb]
      by_cases c : a < q
      · rw [if_pos c]
      · rw [if_neg c, py_ln_0 h2 (by omega)]
  | succ d ih =>
    intro q m ct to wc e1 e2 h
    obtain ⟨f, rfl⟩ : ∃ f, m = f + 1 := ⟨m - 1, by omega⟩
    have hq : q < n := by omega
    have hnx := py_nx_lt (n := n) (i := q) h2
    have hpv := py_pv_lt (n := n) (i := q) h2 hq
    have E : zf_X3_lay_20 (nI n) (f + 1) ct to wc (nI kd) (nI pn) (nI kd) (nI pn) (nI (n - 1)) (nI q) = zf_X3_lay_55 (nI n) (zf_X3_lay_20 (nI n) f) ct to wc (nI kd) (nI pn) (nI kd) (nI pn) (nI (n - 1)) (nI q) (nI (py_nx n q)) (nI (py_pv n q)) := by
      show zf_X3_lay_20_b _ _ _ _ _ _ _ _ _ _ _ = _
      unfold zf_X3_lay_20_b zf_X3_lay_40 py_nx py_pv
      rw [if_neg (nI_nlt (a := n - 1) (b := q) (by omega) (by omega)), show nI q + (1 : Int32) = nI (q + 1) from nI_1 q]
      have B : ∀ s : Int32, (if nI q ≤ 0 then zf_X3_lay_55 (nI n) (zf_X3_lay_20 (nI n) f) ct to wc (nI kd) (nI pn) (nI kd) (nI pn) (nI (n - 1)) (nI q) s (nI (n - 1)) else zf_X3_lay_55 (nI n) (zf_X3_lay_20 (nI n) f) ct to wc (nI kd) (nI pn) (nI kd) (nI pn) (nI (n - 1)) (nI q) s (nI q - 1)) = zf_X3_lay_55 (nI n) (zf_X3_lay_20 (nI n) f) ct to wc (nI kd) (nI pn) (nI kd) (nI pn) (nI (n - 1)) (nI q) s (nI (if 0 < q then q - 1 else n - 1)) := by
        intro s
        by_cases c : 0 < q
        · rw [if_neg (fun z => absurd ((py_z0 (by omega)).mp z) (by omega)), if_pos c, show nI q - (1 : Int32) = nI (q - 1) from pk_sub (a := q) (b := 1) c]
        · rw [if_pos ((py_z0 (by omega)).mpr (by omega)), if_neg c]
      by_cases c : q + 1 < n
      · rw [if_neg (nI_ge (a := q) (b := n - 1) (by omega) (by omega)), if_pos c]
        exact B _
      · rw [if_pos (nI_le (a := n - 1) (b := q) (by omega) (by omega)), if_neg c]
        exact B _
    rw [E]
    have row : ∀ b, b < 8 → ct (8 * q + b) = nI 0 := fun b hb => by rw [h q b (by omega) hb, if_neg (by omega)]
    have old : ∀ a b, a < 8 → b < 8 → ¬ a = q → ct (8 * a + b) = nI (if a < q + 1 then py_ln n kd pn a b else 0) := fun a b ha hb hne => by
      rw [h a b ha hb]
      by_cases c : a < q
      · rw [if_pos c, if_pos (by omega)]
      · rw [if_neg c, if_neg (by omega)]
    have one : ∀ j v, j < n → (∀ b, b < 8 → py_ln n kd pn q b = if b = j then v else 0) → ∀ a b, a < 8 → b < 8 → upd ct (8 * q + j) (ct (8 * q + j) + nI v) (8 * a + b) = nI (if a < q + 1 then py_ln n kd pn a b else 0) := by
      intro j v hj hv a b ha hb
      rw [py_up2 (by omega) hb]
      by_cases e : a = q
      · subst e
        rw [if_pos (show a < a + 1 by omega), hv b hb]
        by_cases e2 : b = j
        · rw [if_pos ⟨rfl, e2⟩, if_pos e2, row j (by omega), nI_add, Nat.zero_add]
        · rw [if_neg (fun z => e2 z.2), if_neg e2, row b hb]
      · rw [if_neg (fun z => e z.1)]
        exact old a b ha hb e
    unfold zf_X3_lay_55 zf_X3_lay_80 zf_X3_lay_104 zf_X3_lay_125
    rw [show nI q + (1 : Int32) = nI (q + 1) from nI_1 q]
    have mid : ¬ (kd = 1 ∧ q = 0) → ¬ (kd = 1 ∧ q = n - 1) → ∃ ct' to' wc', (Option.bind (zf_X3_tell (nI q) (nI (py_nx n q)) (nI pn) (nI n) ct to wc) (fun x_1 => (Option.bind (zf_X3_tell (nI q) (nI (py_pv n q)) ((10) - nI pn) (nI n) x_1.1 x_1.2.1 x_1.2.2) (fun x_3 => (zf_X3_lay_20 (nI n) f x_3.1 x_3.2.1 x_3.2.2 (nI kd) (nI pn) (nI kd) (nI pn) (nI (n - 1)) (nI (q + 1))))))) = some (ct', to', wc', nI kd, nI pn) ∧ ∀ a b, a < 8 → b < 8 → ct' (8 * a + b) = nI (py_ln n kd pn a b) := by
      intro c1 c2
      rw [py_tellG h8 hq hnx]
      simp only [zb]
      rw [py_tellG h8 hq hpv]
      simp only [zb]
      refine ih (q + 1) f _ _ _ (by omega) (by omega) (fun a b ha hb => ?_)
      rw [py_up2 (by omega) hb, py_up2 (by omega) hb, py_up2 (by omega) (by omega), show (10 : Int32) - nI pn = nI (10 - pn) from pk_sub (a := 10) (b := pn) (by omega)]
      by_cases e : a = q
      · subst e
        have hl : py_ln n kd pn a b = (if b = py_nx n a then pn else 0) + (if b = py_pv n a then 10 - pn else 0) := by
          unfold py_ln
          rw [if_pos hq, if_neg c1, if_neg c2]
        rw [if_pos (show a < a + 1 by omega), hl, row _ (show py_nx n a < 8 by omega), row _ (show py_pv n a < 8 by omega), row b hb]
        by_cases e2 : b = py_pv n a
        · rw [if_pos ⟨rfl, e2⟩, if_pos e2]
          by_cases e3 : py_pv n a = py_nx n a
          · rw [if_pos ⟨rfl, e3⟩, if_pos (by omega), nI_add, nI_add, Nat.zero_add]
          · rw [if_neg (fun z => e3 z.2), if_neg (by omega), nI_add]
        · rw [if_neg (fun z => e2 z.2), if_neg e2]
          by_cases e3 : b = py_nx n a
          · rw [if_pos ⟨rfl, e3⟩, if_pos e3, nI_add, Nat.zero_add, Nat.add_zero]
          · rw [if_neg (fun z => e3 z.2), if_neg e3]
      · rw [if_neg (fun z => e z.1), if_neg (fun z => e z.1)]
        exact old a b ha hb e
    by_cases k1 : kd = 1
    · have k1' : nI kd = 1 := by rw [k1]; rfl
      rw [if_pos k1', if_pos k1']
      by_cases q0 : q = 0
      · rw [if_pos (show nI q = 0 from by rw [q0]; rfl), py_tellG h8 hq hnx]
        simp only [zb]
        refine ih (q + 1) f _ _ _ (by omega) (by omega) (one (py_nx n q) 10 hnx (fun b hb => ?_))
        have : py_nx n q = 1 := by unfold py_nx; rw [if_pos (by omega)]; omega
        unfold py_ln
        rw [if_pos hq, if_pos ⟨k1, q0⟩, this]
      · rw [if_neg (show ¬ nI q = 0 from nI_ne0 (by omega) (by omega))]
        by_cases qe : q = n - 1
        · rw [if_pos (show nI q = nI (n - 1) from by rw [← qe]), py_tellG h8 hq hpv]
          simp only [zb]
          refine ih (q + 1) f _ _ _ (by omega) (by omega) (one (py_pv n q) 10 hpv (fun b hb => ?_))
          have : py_pv n q = n - 2 := by unfold py_pv; rw [if_pos (by omega)]; omega
          unfold py_ln
          rw [if_pos hq, if_neg (fun z => q0 z.2), if_pos ⟨k1, qe⟩, this]
        · rw [if_neg (fun z => qe ((tn_eq (by omega) (by omega)).mp z))]
          exact mid (fun z => q0 z.2) (fun z => qe z.2)
    · have k1' : ¬ nI kd = 1 := fun z => k1 ((tn_eq (a := kd) (b := 1) (by omega) (by decide)).mp z)
      rw [if_neg k1', if_neg k1']
      exact mid (fun z => k1 z.1) (fun z => k1 z.1)
/-! the reference -/
theorem py_nb75 {t : Nat → Int32} {q x y : Nat} (h2 : 2 ≤ n) (h8 : n ≤ 8) (hq : q < n) (hx : x < n) (hy : y < n) (K P v4 v5 : Int32) (k2 : (Nat → Int32) → Int32 → Option (Nat → Int32)) : zf_X9_layNeighbours_75 (nI n) K P k2 t (nI q) (nI x) (nI y) v4 v5 = k2 (upd (upd t (8 * q + x) (if v5 = 0 then (if n = 2 ∨ ¬ v4 = 0 then 10 else P) else 0)) (8 * q + y) (if n = 2 then 10 else if v4 = 0 then (if v5 = 0 then 10 - P else 10) else 0)) (nI (q + 1)) := by
  have i1 : ¬ (nI (8 * q + x) < 0 ∨ 64 ≤ (nI (8 * q + x)).toNatClampNeg) := tn_in (a := 8 * q + x) (N := 64) (by omega) (by decide)
  have i2 : ¬ (nI (8 * q + y) < 0 ∨ 64 ≤ (nI (8 * q + y)).toNatClampNeg) := tn_in (a := 8 * q + y) (N := 64) (by omega) (by decide)
  unfold zf_X9_layNeighbours_75 zf_X9_layNeighbours_109 zf_X9_layNeighbours_118 zf_X9_layNeighbours_163 zf_X9_layNeighbours_180
  rw [py_ix', py_ix', show nI q + (1 : Int32) = nI (q + 1) from nI_1 q]
  simp only [if_neg i1, if_neg i2]
  rw [tn_cl (a := 8 * q + x) (by omega), tn_cl (a := 8 * q + y) (by omega)]
  by_cases n2 : n = 2
  · have e1 : nI n = 2 := by rw [n2]; rfl
    have e2 : nI n ≤ 2 := nI_le (a := n) (b := 2) (by omega) (by decide)
    simp only [if_pos e1, if_pos e2, if_pos n2, if_pos (show n = 2 ∨ ¬ v4 = 0 from Or.inl n2)]
    by_cases c : v5 = 0
    · simp only [if_pos c]
    · simp only [if_neg c]
  · have e1 : ¬ nI n = 2 := fun z => n2 ((tn_eq (a := n) (b := 2) (by omega) (by decide)).mp z)
    have e2 : ¬ nI n ≤ 2 := nI_ge (a := 2) (b := n) (by omega) (by omega)
    simp only [if_neg e1, if_neg e2, if_neg n2]
    by_cases c : v5 = 0
    · simp only [if_pos c]
      by_cases c4 : v4 = 0
      · simp only [if_pos c4, if_neg (show ¬ (n = 2 ∨ ¬ v4 = 0) from fun z => z.elim n2 (fun w => w c4))]
      · simp only [if_neg c4, if_pos (show n = 2 ∨ ¬ v4 = 0 from Or.inr c4)]
    · simp only [if_neg c]
      by_cases c4 : v4 = 0
      · simp only [if_pos c4]
      · simp only [if_neg c4]
theorem py_layM (h2 : 2 ≤ n) (h8 : n ≤ 8) (hk : kd ≤ 1) (hp : pn ≤ 9) : ∀ (d q m : Nat) (t : Nat → Int32), q + d = n → d < m → (∀ a b, a < 8 → b < 8 → t (8 * a + b) = nI (if a < q then py_ln n kd pn a b else 0)) →
    ∃ t', zf_X9_layNeighbours_2 (nI n) (nI kd) (nI pn) m t (nI q) = some t' ∧ ∀ a b, a < 8 → b < 8 → t' (8 * a + b) = nI (py_ln n kd pn a b) := by
  intro d
  induction d with
  | zero =>
    intro q m t e1 e2 h
    obtain ⟨f, rfl⟩ : ∃ f, m = f + 1 := ⟨m - 1, by omega⟩
    have : q = n := by omega
    subst this
    refine ⟨t, ?_, fun a b ha hb => ?_⟩
    · show zf_X9_layNeighbours_2_b _ _ _ _ _ _ = _
      unfold zf_X9_layNeighbours_2_b
      rw [if_pos ((tn_le (by omega) (by omega)).mpr (by omega))]
    · rw [h a b ha hb]
      by_cases c : a < q
      · rw [if_pos c]
      · rw [if_neg c, py_ln_0 h2 (by omega)]
  | succ d ih =>
    intro q m t e1 e2 h
    obtain ⟨f, rfl⟩ : ∃ f, m = f + 1 := ⟨m - 1, by omega⟩
    have hq : q < n := by omega
    have hnx := py_nx_lt (n := n) (i := q) h2
    have hpv := py_pv_lt (n := n) (i := q) h2 hq
    have hne : ¬ n = 2 → ¬ py_nx n q = py_pv n q := by
      intro z
      unfold py_nx py_pv
      by_cases c : q + 1 < n
      · rw [if_pos c]
        by_cases c2 : 0 < q
        · rw [if_pos c2]; omega
        · rw [if_neg c2]; omega
      · rw [if_neg c, if_pos (by omega)]; omega
    obtain ⟨r1, r2⟩ := py_remN n (by omega) h2 q hq
    show ∃ t', zf_X9_layNeighbours_2_b _ _ _ _ _ _ = _ ∧ _
    unfold zf_X9_layNeighbours_2_b
    rw [if_neg (nI_ge (a := q) (b := n) (by omega) (by omega)), if_neg (show ¬ nI n = 0 from nI_ne0 (by omega) (by omega)), r1, r2]
    unfold zf_X9_layNeighbours_49 zf_X9_layNeighbours_50 zf_X9_layNeighbours_74
    rw [show nI n - (1 : Int32) = nI (n - 1) from pk_sub (a := n) (b := 1) (by omega)]
    have step : ∀ X Y : Nat, (∀ b, b < 8 → py_ln n kd pn q b = if b = py_pv n q then Y else if b = py_nx n q then X else 0) →
        ∃ t', zf_X9_layNeighbours_2 (nI n) (nI kd) (nI pn) f (upd (upd t (8 * q + py_nx n q) (nI X)) (8 * q + py_pv n q) (nI Y)) (nI (q + 1)) = some t' ∧ ∀ a b, a < 8 → b < 8 → t' (8 * a + b) = nI (py_ln n kd pn a b) := by
      intro X Y hXY
      refine ih (q + 1) f _ (by omega) (by omega) (fun a b ha hb => ?_)
      rw [py_up2 (by omega) hb, py_up2 (by omega) hb]
      by_cases e : a = q
      · subst e
        rw [if_pos (show a < a + 1 by omega), hXY b hb]
        by_cases c1 : b = py_pv n a
        · rw [if_pos ⟨rfl, c1⟩, if_pos c1]
        · rw [if_neg (fun z => c1 z.2), if_neg c1]
          by_cases c2 : b = py_nx n a
          · rw [if_pos ⟨rfl, c2⟩, if_pos c2]
          · rw [if_neg (fun z => c2 z.2), if_neg c2, h a b ha hb, if_neg (by omega)]
      · rw [if_neg (fun z => e z.1), if_neg (fun z => e z.1), h a b ha hb]
        by_cases c : a < q
        · rw [if_pos c, if_pos (by omega)]
        · rw [if_neg c, if_neg (by omega)]
    have mid : ¬ (kd = 1 ∧ q = 0) → ¬ (kd = 1 ∧ q = n - 1) → ∃ t', zf_X9_layNeighbours_75 (nI n) (nI kd) (nI pn) (zf_X9_layNeighbours_2 (nI n) (nI kd) (nI pn) f) t (nI q) (nI (py_nx n q)) (nI (py_pv n q)) 0 0 = some t' ∧ ∀ a b, a < 8 → b < 8 → t' (8 * a + b) = nI (py_ln n kd pn a b) := by
      intro c1 c2
      have hl : ∀ b, py_ln n kd pn q b = (if b = py_nx n q then pn else 0) + (if b = py_pv n q then 10 - pn else 0) := by
        intro b
        unfold py_ln
        rw [if_pos hq, if_neg c1, if_neg c2]
      rw [py_nb75 h2 h8 hq hnx hpv, if_pos rfl, if_pos rfl, if_pos rfl]
      by_cases n2 : n = 2
      · rw [if_pos (Or.inl n2), if_pos n2]
        refine step 10 10 (fun b hb => ?_)
        have : py_nx n q = py_pv n q := by
          subst n2
          unfold py_nx py_pv
          by_cases c : q = 0
          · subst c; rfl
          · have : q = 1 := by omega
            subst this; rfl
        rw [hl, this]
        by_cases c : b = py_pv n q
        · rw [if_pos c, if_pos c, if_pos c]; omega
        · rw [if_neg c, if_neg c, if_neg c, if_neg c]
      · rw [if_neg (show ¬ (n = 2 ∨ ¬ (0 : Int32) = 0) from fun z => z.elim n2 (fun w => w rfl)), if_neg n2, show (10 : Int32) - nI pn = nI (10 - pn) from pk_sub (a := 10) (b := pn) (by omega)]
        refine step pn (10 - pn) (fun b hb => ?_)
        have := hne n2
        rw [hl]
        by_cases c : b = py_pv n q
        · rw [if_pos c, if_pos c, if_neg (by omega), Nat.zero_add]
        · rw [if_neg c, if_neg c, Nat.add_zero]
    by_cases k1 : kd = 1
    · have k1' : nI kd = 1 := by rw [k1]; rfl
      rw [if_pos k1', if_pos k1', if_pos k1']
      by_cases q0 : q = 0
      · rw [if_pos (show nI q = 0 from by rw [q0]; rfl), if_neg (show ¬ nI q = nI (n - 1) from fun z => absurd ((tn_eq (by omega) (by omega)).mp z) (by omega)), py_nb75 h2 h8 hq hnx hpv, if_pos rfl, if_pos (Or.inr zone), if_neg zone]
        have hnx1 : py_nx n q = 1 := by unfold py_nx; rw [if_pos (by omega)]; omega
        have hpv1 : py_pv n q = n - 1 := by unfold py_pv; rw [if_neg (by omega)]
        have hl : ∀ b, py_ln n kd pn q b = if b = 1 then 10 else 0 := by
          intro b
          unfold py_ln
          rw [if_pos hq, if_pos ⟨k1, q0⟩]
        by_cases n2 : n = 2
        · rw [if_pos n2]
          refine step 10 10 (fun b hb => ?_)
          rw [hl, hnx1, hpv1, n2]
          by_cases c : b = 1
          · simp [c]
          · simp [c]
        · rw [if_neg n2]
          refine step 10 0 (fun b hb => ?_)
          rw [hl, hnx1, hpv1]
          by_cases c : b = 1
          · rw [if_pos c, if_neg (show ¬ b = n - 1 by omega)]
          · rw [if_neg c]
            simp
      · rw [if_neg (show ¬ nI q = 0 from nI_ne0 (by omega) (by omega))]
        by_cases qe : q = n - 1
        · rw [if_pos (show nI q = nI (n - 1) from by rw [← qe]), py_nb75 h2 h8 hq hnx hpv, if_neg zone, if_pos rfl, if_neg zone]
          have hnx1 : py_nx n q = 0 := by unfold py_nx; rw [if_neg (by omega)]
          have hpv1 : py_pv n q = n - 2 := by unfold py_pv; rw [if_pos (by omega)]; omega
          have hl : ∀ b, py_ln n kd pn q b = if b = n - 2 then 10 else 0 := by
            intro b
            unfold py_ln
            rw [if_pos hq, if_neg (fun z => q0 z.2), if_pos ⟨k1, qe⟩]
          have e10 : (if n = 2 then (10 : Int32) else 10) = nI 10 := by
            by_cases n2 : n = 2
            · rw [if_pos n2]; rfl
            · rw [if_neg n2]; rfl
          rw [e10]
          refine step 0 10 (fun b hb => ?_)
          rw [hl, hpv1]
          by_cases c : b = n - 2
          · rw [if_pos c, if_pos c]
          · rw [if_neg c, if_neg c]
            simp
        · rw [if_neg (fun z => qe ((tn_eq (by omega) (by omega)).mp z))]
          exact mid (fun z => q0 z.2) (fun z => qe z.2)
    · have k1' : ¬ nI kd = 1 := fun z => k1 ((tn_eq (a := kd) (b := 1) (by omega) (by decide)).mp z)
      rw [if_neg k1', if_neg k1']
      exact mid (fun z => k1 z.1) (fun z => k1 z.1)
end PYRG
