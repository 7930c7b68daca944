/-! ===== the free text ===== -/
def py_st (n : Nat) (D : Nat → Nat → Nat) (a b : Nat) : Nat := if a = b ∧ a < n ∧ py_S D a = 0 then 10 else D a b
section PYRF
variable {n len : Nat} {D : Nat → Nat → Nat} {tx : Nat → Nat} {xb mt rt ct to wc : Nat → Int32}
theorem py_stays (h8 : n ≤ 8) (hd : py_DD n D) (hC : py_CD D ct to wc) : ∃ ct' to' wc', zf_X3_layStays (nI n) ct to wc = some (ct', to', wc') ∧ ∀ a b, a < 8 → b < 8 → ct' (8 * a + b) = nI (py_st n D a b) := by
  have A : ∀ (d q m : Nat) (ct to wc : Nat → Int32), q + d = n → d < m → (∀ a b, a < 8 → b < 8 → ct (8 * a + b) = nI (if a < q then py_st n D a b else D a b)) → (∀ a, q ≤ a → a < 8 → to a = nI (py_S D a)) →
      ∃ ct' to' wc', zf_X3_layStays_2 (nI n) m ct to wc (nI q) = some (ct', to', wc') ∧ ∀ a b, a < 8 → b < 8 → ct' (8 * a + b) = nI (py_st n D a b) := by
    intro d
    induction d with
    | zero =>
      intro q m ct to wc e1 e2 h1 h2
      obtain ⟨f, rfl⟩ : ∃ f, m = f + 1 := ⟨m - 1, by omega⟩
      have : q = n := by omega
      subst this
      refine ⟨ct, to, wc, ?_, fun a b ha hb => ?_⟩
      · show zf_X3_layStays_2_b _ _ _ _ _ _ = _
        unfold zf_X3_layStays_2_b
        rw [if_pos ((tn_le (by omega) (by omega)).mpr (by omega))]
      · rw [h1 a b ha hb]
        by_cases c : a < q
        · rw [if_pos c]
        · rw [if_neg c]
          unfold py_st
          rw [if_neg (fun z => c z.2.1)]
    | succ d ih =>
      intro q m ct to wc e1 e2 h1 h2
      obtain ⟨f, rfl⟩ : ∃ f, m = f + 1 := ⟨m - 1, by omega⟩
      have hS := hd.2 q
      show ∃ ct' to' wc', zf_X3_layStays_2_b _ _ _ _ _ _ = _ ∧ _
      unfold zf_X3_layStays_2_b zf_X3_layStays_35
      rw [if_neg (nI_ge (a := q) (b := n) (by omega) (by omega)), py_has1 h8 (show q < n by omega)]
      simp only [zb, if_neg zone]
      rw [if_neg (tn_in (a := q) (N := 8) (by omega) (by decide)), tn_cl (by omega), h2 q (by omega) (by omega), show nI q + (1 : Int32) = nI (q + 1) from nI_1 q]
      by_cases c : py_S D q = 0
      · rw [if_pos (show nI (py_S D q) = 0 from by rw [c]; rfl)]
        unfold zf_X3_tell
        rw [py_has1 h8 (show q < n by omega)]
        simp only [zb, if_neg zone]
        rw [py_ix, if_neg (tn_in (a := 8 * q + q) (N := 64) (by omega) (by decide)), if_neg (tn_in (a := q) (N := 8) (by omega) (by decide)), tn_cl (a := 8 * q + q) (by omega), tn_cl (a := q) (by omega)]
        simp only [zb]
        refine ih (q + 1) f _ _ _ (by omega) (by omega) (fun a b ha hb => ?_) (fun a ha hb => ?_)
        · by_cases e : a = q ∧ b = q
          · rw [e.1, e.2, pk_us, h1 q q (by omega) (by omega), if_neg (by omega), hd.1 q q (by omega), if_pos (by omega)]
            unfold py_st
            rw [if_pos ⟨rfl, by omega, c⟩]
            rfl
          · rw [pk_un (by omega), h1 a b ha hb]
            by_cases e2 : a < q
            · rw [if_pos e2, if_pos (by omega)]
            · rw [if_neg e2]
              by_cases e3 : a < q + 1
              · rw [if_pos e3]
                unfold py_st
                rw [if_neg (fun z => e ⟨by omega, by omega⟩)]
              · rw [if_neg e3]
        · rw [pk_un (by omega)]
          exact h2 a (by omega) hb
      · rw [if_neg (show ¬ nI (py_S D q) = 0 from nI_ne0 (by omega) (by omega))]
        refine ih (q + 1) f _ _ _ (by omega) (by omega) (fun a b ha hb => ?_) (fun a ha hb => h2 a (by omega) hb)
        rw [h1 a b ha hb]
        by_cases e2 : a < q
        · rw [if_pos e2, if_pos (by omega)]
        · rw [if_neg e2]
          by_cases e3 : a < q + 1
          · have : a = q := by omega
            subst this
            rw [if_pos e3]
            unfold py_st
            rw [if_neg (fun z => c z.2.2)]
          · rw [if_neg e3]
  exact A n 0 zfuel ct to wc (by omega) (by unfold zfuel; omega) (fun a b ha hb => by rw [if_neg (by omega)]; exact hC.1 a b ha hb) (fun a _ hb => (hC.2 a hb).1)
/-- one hand more: the reference -/
theorem py_pt_MD (hM : py_MD D rt) {i j p : Nat} (hi : i < 8) (hj : j < 8) : py_MD (py_pt D i j p) (upd rt (8 * i + j) (nI p)) := by
  intro a b ha hb
  show _ = nI (if a = i ∧ b = j then p else D a b)
  by_cases e : a = i ∧ b = j
  · rw [if_pos e, e.1, e.2, pk_us]
  · rw [if_neg e, pk_un (by omega)]
    exact hM a b ha hb
/-- what reading gives: a fault at the same place, or the same table -/
def py_Rd (n : Nat) (r1 : Option (Int32 × (Nat → Int32) × (Nat → Int32) × (Nat → Int32))) (r2 : Option (Int32 × (Nat → Int32) × Int32 × Int32 × Int32 × Int32 × Int32)) (kd rg : Int32) : Prop :=
  (∃ (q : Nat) (ct to wc rt : Nat → Int32) (ps fa : Int32), q < 1000 ∧ r1 = some (nI q, ct, to, wc) ∧ r2 = some (nI q, rt, nI n, kd, rg, ps, fa)) ∨
  (∃ (D : Nat → Nat → Nat) (ct to wc rt : Nat → Int32) (ps fa : Int32), r1 = some (-9, ct, to, wc) ∧ r2 = some (-9, rt, nI n, kd, rg, ps, fa) ∧ py_DD n D ∧ py_whole n D ∧ (∀ a b, a < 8 → b < 8 → ct (8 * a + b) = nI (py_st n D a b)) ∧ py_MD D rt)
theorem py_rf (h8 : n ≤ 8) (hl : len ≤ 98) (h1 : ∀ i, i < len → tx i < 256 ∧ xb i = nI (tx i)) (h2 : ∀ i, i < len → tx i < 256 ∧ mt i = nI (tx i)) (kd rg : Int32) : ∀ (d p m m' : Nat) (D : Nat → Nat → Nat) (ct to wc rt : Nat → Int32), len ≤ p + d → p ≤ len → d < m → d + 1 < m' → py_DD n D → py_CD D ct to wc → py_MD D rt →
    py_Rd n (zf_X7_readFree_2 xb (nI len) (nI n) m ct to wc (nI p)) (zf_X9_readText_203 mt (nI len) m' rt (nI n) kd rg (nI p) (-9)) kd rg := by
  have fin : ∀ (f : Nat) (rt : Nat → Int32) (ps : Int32) (q : Nat), q < 1000 → zf_X9_readText_203 mt (nI len) (f + 1) rt (nI n) kd rg ps (nI q) = some (nI q, rt, nI n, kd, rg, ps, nI q) := by
    intro f rt ps q hq
    show zf_X9_readText_203_b _ _ _ _ _ _ _ _ _ = _
    unfold zf_X9_readText_203_b zf_X9_readText_262
    rw [if_neg (py_m9' hq), if_neg (py_m9' hq)]
  intro d
  induction d with
  | zero =>
    intro p m m' D ct to wc rt e1 e2 e3 e4 hd hC hM
    obtain ⟨f, rfl⟩ : ∃ f, m = f + 1 := ⟨m - 1, by omega⟩
    obtain ⟨f', rfl⟩ : ∃ f, m' = f + 1 := ⟨m' - 1, by omega⟩
    have hle : nI len ≤ nI p := (tn_le (by omega) (by omega)).mpr (by omega)
    have eM : zf_X9_readText_203 mt (nI len) (f' + 1) rt (nI n) kd rg (nI p) (-9) = Option.bind (zf_X9_isWhole rt (nI n)) (fun x => if x = 0 then some (nI len, rt, nI n, kd, rg, nI p, -9) else some (-9, rt, nI n, kd, rg, nI p, -9)) := by
      show zf_X9_readText_203_b _ _ _ _ _ _ _ _ _ = _
      unfold zf_X9_readText_203_b zf_X9_readText_262
      rw [if_pos rfl, if_pos hle, if_pos rfl]
    have eC : zf_X7_readFree_2 xb (nI len) (nI n) (f + 1) ct to wc (nI p) = Option.bind (zf_X3_isWhole to (nI n)) (fun x => if x = 0 then some (nI len, ct, to, wc) else Option.bind (zf_X3_layStays (nI n) ct to wc) (fun x_5 => some (-9, x_5.1, x_5.2.1, x_5.2.2))) := by
      show zf_X7_readFree_2_b _ _ _ _ _ _ _ _ = _
      unfold zf_X7_readFree_2_b
      rw [if_pos hle]
    rw [eM, eC]
    rcases py_wholeC h8 hd hC with ⟨w1, w2⟩ | ⟨w1, w2⟩
    · rcases py_wholeM h8 hd hM with ⟨v1, v2⟩ | ⟨v1, v2⟩
      · right
        obtain ⟨ct', to', wc', s1, s2⟩ := py_stays h8 hd hC
        rw [w2, v2, s1]
        exact ⟨D, ct', to', wc', rt, nI p, -9, rfl, rfl, hd, w1, s2, hM⟩
      · exact absurd w1 v1
    · rcases py_wholeM h8 hd hM with ⟨v1, v2⟩ | ⟨v1, v2⟩
      · exact absurd v1 w1
      · left
        rw [w2, v2]
        exact ⟨len, ct, to, wc, rt, nI p, -9, by omega, rfl, rfl⟩
  | succ d ih =>
    intro p m m' D ct to wc rt e1 e2 e3 e4 hd hC hM
    by_cases hend : len ≤ p
    · exact ih p m m' D ct to wc rt (by omega) e2 (by omega) (by omega) hd hC hM
    obtain ⟨f, rfl⟩ : ∃ f, m = f + 1 := ⟨m - 1, by omega⟩
    obtain ⟨f', rfl⟩ : ∃ f, m' = f + 1 := ⟨m' - 1, by omega⟩
    obtain ⟨f2, rfl⟩ : ∃ f, f' = f + 1 := ⟨f' - 1, by omega⟩
    have hp : p < len := by omega
    have hb := (h2 p hp).1
    have eC : zf_X7_readFree_2 xb (nI len) (nI n) (f + 1) ct to wc (nI p) = Option.bind (zf_X7_readOne (nI p) xb (nI len) (nI n) ct to wc) (fun x => if x.1 = -9 then zf_X7_readFree_2 xb (nI len) (nI n) f x.2.1 x.2.2.1 x.2.2.2 (nI (p + 4)) else some (x.1, x.2.1, x.2.2.1, x.2.2.2)) := by
      show zf_X7_readFree_2_b _ _ _ _ _ _ _ _ = _
      unfold zf_X7_readFree_2_b
      rw [if_neg (nI_ge (a := p) (b := len) (by omega) (by omega)), show nI p + (4 : Int32) = nI (p + 4) from nI_add p 4]
    have eM : zf_X9_readText_203 mt (nI len) (f2 + 1 + 1) rt (nI n) kd rg (nI p) (-9) = if nI (tx p) = 72 then Option.bind (some (nI (py_op n D))) (fun x_5 => if x_5 = 0 then zf_X9_readText_203 mt (nI len) (f2 + 1) rt (nI n) kd rg (nI p) (nI p) else Option.bind (zf_X9_readHand (nI n) mt (nI len) rt (nI p) (-9)) (fun x_8 => zf_X9_readText_203 mt (nI len) (f2 + 1) x_8.1 (nI n) kd rg x_8.2.1 x_8.2.2)) else zf_X9_readText_203 mt (nI len) (f2 + 1) rt (nI n) kd rg (nI p) (nI p) := by
      show zf_X9_readText_203_b _ _ _ _ _ _ _ _ _ = _
      unfold zf_X9_readText_203_b zf_X9_readText_251
      rw [if_pos rfl, if_neg (nI_ge (a := p) (b := len) (by omega) (by omega)), if_neg (tn_in (a := p) (N := 98) (by omega) (by decide)), tn_cl (by omega), (h2 p hp).2, py_openM h8 hd hM]
    have hop := py_op_lt h8 D
    rw [eC, eM]
    by_cases hA : tx p = 72 ∧ ¬ py_op n D = 0
    · rw [if_pos (show nI (tx p) = 72 from by rw [hA.1]; rfl)]
      simp only [zb]
      rw [if_neg (show ¬ nI (py_op n D) = 0 from nI_ne0 (by omega) (by have := hA.2; omega)), py_readHand h8 hd hM hl h2 (by omega)]
      rcases py_readOne (p := p) h8 hd hC hl h1 (by omega) ⟨hp, hA.1, hA.2⟩ with ⟨g1, g2, g3, g4, g5, ct', to', wc', g6, g7⟩ | ⟨g1, g2⟩
      · rw [g6, if_pos g1]
        simp only [zb]
        rw [if_pos trivial]
        exact ih (p + 4) f (f2 + 1) _ ct' to' wc' _ (by omega) (by omega) (by omega) (by omega) (py_pt_DD hd g2 h8 g3 g5) g7 (py_pt_MD hM (by omega) (by omega))
      · rw [g2, if_neg g1]
        simp only [zb]
        have hq : py_out n len tx D p < 1000 := by
          unfold py_out
          repeat' split
          all_goals omega
        rw [if_neg (py_m9' hq), fin f2 rt (nI (py_out n len tx D p)) (py_out n len tx D p) hq]
        left
        exact ⟨py_out n len tx D p, ct, to, wc, rt, _, _, hq, rfl, rfl⟩
    · rw [py_readOne0 h8 hd hC hl h1 hp hA]
      simp only [zb]
      rw [if_neg (py_m9' (by omega)), fin f2 rt (nI p) p (by omega)]
      left
      refine ⟨p, ct, to, wc, rt, nI p, nI p, by omega, rfl, ?_⟩
      by_cases c : tx p = 72
      · have c2 : py_op n D = 0 := by
          by_cases c2 : py_op n D = 0
          · exact c2
          · exact absurd ⟨c, c2⟩ hA
        rw [if_pos (show nI (tx p) = 72 from by rw [c]; rfl), if_pos (show nI (py_op n D) = 0 from by rw [c2]; rfl)]
      · rw [if_neg (show ¬ nI (tx p) = 72 from fun z => c ((tn_eq (a := tx p) (b := 72) (by omega) (by decide)).mp z))]
end PYRF
