/-! ===== last, all, sit ===== -/
def py_full (n k : Nat) : Nat := if k / 8 = 2 ^ n - 1 ∧ k % 8 < n then 1 else 0
theorem py_PM_add (T : Nat → Nat → Nat) (n : Nat) (f g : Nat → Nat) (k : Nat) : py_PM T n (fun k => f k + g k) k = py_PM T n f k + py_PM T n g k := by
  unfold py_PM
  rw [← fb_sm_add]
  exact fb_sm_cong (fun s _ => Nat.mul_add _ _ _)
theorem py_it_cong (T : Nat → Nat → Nat) (n : Nat) : ∀ (t : Nat) (f g : Nat → Nat), (∀ k, f k = g k) → ∀ k, py_it T n t f k = py_it T n t g k
  | 0, _, _, h, k => h k
  | t + 1, f, g, h, k => py_it_cong T n t (py_PM T n f) (py_PM T n g) (fun k => fb_sm_cong (fun s _ => by rw [h])) k
theorem py_it_add (T : Nat → Nat → Nat) (n : Nat) : ∀ (t : Nat) (f g : Nat → Nat) (k : Nat), py_it T n t (fun k => f k + g k) k = py_it T n t f k + py_it T n t g k
  | 0, _, _, _ => rfl
  | t + 1, f, g, k => by
    show py_it T n t (py_PM T n (fun k => f k + g k)) k = py_it T n t (py_PM T n f) k + py_it T n t (py_PM T n g) k
    rw [← py_it_add T n t]
    exact py_it_cong T n t _ _ (fun k => py_PM_add T n f g k) k
theorem py_it_mul (T : Nat → Nat → Nat) (n c : Nat) : ∀ (t : Nat) (f : Nat → Nat) (k : Nat), py_it T n t (fun k => c * f k) k = c * py_it T n t f k
  | 0, _, _ => rfl
  | t + 1, f, k => by
    show py_it T n t (py_PM T n (fun k => c * f k)) k = c * py_it T n t (py_PM T n f) k
    rw [← py_it_mul T n c t]
    refine py_it_cong T n t _ _ (fun k => ?_) k
    unfold py_PM
    rw [Nat.mul_comm c, ← py_sm_mulr]
    exact fb_sm_cong (fun s _ => by
      show T (k % 8) s * (c * f (8 * (k / 8 ||| 2 ^ s) + s)) = _
      rw [Nat.mul_comm c, Nat.mul_assoc])
theorem py_it_zero (T : Nat → Nat → Nat) (n : Nat) : ∀ (t k : Nat), py_it T n t (fun _ => 0) k = 0 := by
  intro t k
  have := py_it_mul T n 0 t (fun _ => 0) k
  simp only [Nat.zero_mul] at this
  exact this
theorem py_it_sum (T : Nat → Nat → Nat) (n : Nat) (t : Nat) (f : Nat → Nat → Nat) (k : Nat) : ∀ m, py_it T n t (fun k => fb_sm (fun s => f s k) m) k = fb_sm (fun s => py_it T n t (f s) k) m
  | 0 => py_it_zero T n t k
  | m + 1 => by
    rw [fb_sm_succ, ← py_it_sum T n t f k m, ← py_it_add]
    rfl
theorem py_PM_full {n : Nat} {T : Nat → Nat → Nat} (h8 : n ≤ 8) (hz : ∀ i j, n ≤ i ∨ n ≤ j → T i j = 0) (hr : ∀ i, i < n → fb_sm (T i) n = 10) (k : Nat) : py_PM T n (py_full n) k = 10 * py_full n k + fb_sm (fun s => py_ch T n s k) n := by
  unfold py_PM
  by_cases hA : k / 8 = 2 ^ n - 1
  · have e1 : fb_sm (fun s => T (k % 8) s * py_full n (8 * (k / 8 ||| 2 ^ s) + s)) n = fb_sm (T (k % 8)) n := fb_sm_cong (fun s hs => by
      unfold py_full
      rw [hA, py_orA n (by omega) s hs, if_pos (by omega), Nat.mul_one])
    have e2 : fb_sm (fun s => py_ch T n s k) n = fb_sm (fun _ => 0) n := fb_sm_cong (fun s _ => py_ch_van T n s k hA)
    rw [e1, e2, fb_sm_const, Nat.mul_zero]
    unfold py_full
    by_cases hk : k % 8 < n
    · rw [if_pos ⟨hA, hk⟩, hr _ hk]
    · rw [if_neg (fun z => hk z.2), fb_sm_cong (g := fun _ => 0) (fun s _ => hz _ _ (Or.inl (by omega))), fb_sm_const]
      omega
  · have e0 : py_full n k = 0 := if_neg (fun z => hA z.1)
    rw [e0, Nat.mul_zero, Nat.zero_add]
    refine fb_sm_cong (fun s hs => ?_)
    unfold py_full py_ch
    by_cases h1 : k / 8 ||| 2 ^ s = 2 ^ n - 1
    · rw [if_pos (by omega), if_pos ⟨h1, hA⟩]
    · rw [if_neg (by omega), if_neg (fun z => h1 z.1)]
theorem py_it_full {n : Nat} {T : Nat → Nat → Nat} (h8 : n ≤ 8) (hz : ∀ i j, n ≤ i ∨ n ≤ j → T i j = 0) (hr : ∀ i, i < n → fb_sm (T i) n = 10) (k0 : Nat) : ∀ t, py_it T n t (py_full n) k0 = 10 ^ t * py_full n k0 + fb_sm (py_z T n k0 t) n
  | 0 => by
    show py_full n k0 = _
    rw [Nat.pow_zero, Nat.one_mul]
    show _ = _ + fb_sm (fun _ => 0) n
    rw [fb_sm_const, Nat.mul_zero]
    rfl
  | t + 1 => by
    show py_it T n t (py_PM T n (py_full n)) k0 = _
    rw [py_it_cong T n t _ _ (py_PM_full h8 hz hr) k0, py_it_add, py_it_mul, py_it_sum T n t (fun s k => py_ch T n s k), py_it_full h8 hz hr k0 t]
    have e : fb_sm (py_z T n k0 (t + 1)) n = fb_sm (fun s => py_z T n k0 t s * 10) n + fb_sm (fun s => py_it T n t (fun k => py_ch T n s k) k0) n := by
      rw [← fb_sm_add]
      exact fb_sm_cong (fun s _ => by rw [Nat.mul_comm]; rfl)
    have e2 := py_sm_mulr (py_z T n k0 t) 10 n
    have e3 : fb_sm (fun s => py_z T n k0 t s * 10) n = fb_sm (py_z T n k0 t) n * 10 := e2
    have e4 : 10 ^ (t + 1) * py_full n k0 = 10 * (10 ^ t * py_full n k0) := by rw [Nat.pow_succ, Nat.mul_comm (10 ^ t) 10, Nat.mul_assoc]
    rw [e, e3, e4]
    omega
theorem py_it_full_le {n : Nat} {T : Nat → Nat → Nat} (hz : ∀ i j, n ≤ i ∨ n ≤ j → T i j = 0) (hr : ∀ i, i < n → fb_sm (T i) n = 10) (k0 t : Nat) : py_it T n t (py_full n) k0 ≤ 10 ^ t := by
  have := py_it_le (py_RN_R hz hr) t 1 (py_full n) (fun k => by unfold py_full; by_cases e : k / 8 = 2 ^ n - 1 ∧ k % 8 < n <;> simp [e]) k0
  rw [Nat.one_mul] at this
  exact this
theorem py_z_sum {n : Nat} {T : Nat → Nat → Nat} (h8 : n ≤ 8) (hz : ∀ i j, n ≤ i ∨ n ≤ j → T i j = 0) (hr : ∀ i, i < n → fb_sm (T i) n = 10) (k0 t : Nat) : fb_sm (py_z T n k0 t) n ≤ 10 ^ t := by
  have h1 := py_it_full h8 hz hr k0 t
  have h2 := py_it_full_le hz hr k0 t
  omega
theorem py_z_le {n : Nat} {T : Nat → Nat → Nat} (h8 : n ≤ 8) (hz : ∀ i j, n ≤ i ∨ n ≤ j → T i j = 0) (hr : ∀ i, i < n → fb_sm (T i) n = 10) (k0 t : Nat) {j : Nat} (hj : j < n) : py_z T n k0 t j ≤ 10 ^ t := by
  have h1 := py_z_sum h8 hz hr k0 t
  have h2 := fb_sm_part (py_z T n k0 t) hj
  omega
theorem py_F_full {n : Nat} (h8 : n ≤ 8) (a : Nat → Nat) : py_F 2048 a (py_full n) = fb_sm (fun s => a (8 * (2 ^ n - 1) + s)) n := by
  have hp8 := py_pow8 h8
  have h1 := Nat.one_le_two_pow (n := n)
  unfold py_F
  rw [show 2048 = 8 * (2 ^ n - 1) + (n + (2048 - 8 * (2 ^ n - 1) - n)) by omega, fb_sm_split, fb_sm_split]
  have e1 : fb_sm (fun x => a x * py_full n x) (8 * (2 ^ n - 1)) = fb_sm (fun _ => 0) (8 * (2 ^ n - 1)) := fb_sm_cong (fun x hx => by unfold py_full; rw [if_neg (by omega), Nat.mul_zero])
  have e2 : fb_sm (fun k => a (8 * (2 ^ n - 1) + (n + k)) * py_full n (8 * (2 ^ n - 1) + (n + k))) (2048 - 8 * (2 ^ n - 1) - n) = fb_sm (fun _ => 0) (2048 - 8 * (2 ^ n - 1) - n) := fb_sm_cong (fun x hx => by unfold py_full; rw [if_neg (by omega), Nat.mul_zero])
  have e3 : fb_sm (fun k => a (8 * (2 ^ n - 1) + k) * py_full n (8 * (2 ^ n - 1) + k)) n = fb_sm (fun s => a (8 * (2 ^ n - 1) + s)) n := fb_sm_cong (fun x hx => by unfold py_full; rw [if_pos (by omega), Nat.mul_one])
  rw [e1, e2, e3, fb_sm_const, fb_sm_const]
  omega
theorem py_lastW {n j : Nat} (h8 : n ≤ 8) (hj : j < n) (lw : Nat → Int64) : zf_X0_lastWeight (nI j) lw = some (lw j) := by
  unfold zf_X0_lastWeight
  rw [if_neg (tn_n0 (by omega)), if_neg (show ¬ (8 : Int32) ≤ nI j from nI_ge (a := j) (b := 8) (by omega) (by decide)), if_neg (tn_in (by omega) (by decide)), tn_cl (by omega)]
section PYALL
variable {n : Nat} {ct mt : Nat → Int32}
theorem py_cAll (h8 : n ≤ 8) {lw : Nat → Int64} {z : Nat → Nat} (hz : ∀ j, j < n → lw j = lN (z j)) {t : Nat} (ht : t ≤ 12) (u pl hd : Int32) (ow nw : Nat → Int64) (ol nl : Nat → Int32) (os ns : Int32) : ∀ (d q m : Nat), q + d = n → d < m →
    zf_X8_all_64 ct (nI n) pl hd m lw ow ol os nw nl ns (nI t) u (lN (fb_sm z q)) (nI q) = Option.bind (zf_X8_leastTerms (lN (fb_sm z n)) (lN (10 ^ t)) u) (fun x => some (x, lw, ow, ol, os, nw, nl, ns)) := by
  intro d
  induction d with
  | zero =>
    intro q m h1 h2
    obtain ⟨f, rfl⟩ : ∃ f, m = f + 1 := ⟨m - 1, by omega⟩
    have : q = n := by omega
    subst this
    show zf_X8_all_64_b ct _ pl hd _ _ _ _ _ _ _ _ _ _ _ _ = _
    unfold zf_X8_all_64_b
    rw [if_pos ((tn_le (by omega) (by omega)).mpr (by omega)), show zf_X8_power (10 : Int64) (nI t) = _ from tp_c (B := 10) (by omega)]
    rfl
  | succ d ih =>
    intro q m h1 h2
    obtain ⟨f, rfl⟩ : ∃ f, m = f + 1 := ⟨m - 1, by omega⟩
    have := ih (q + 1) f (by omega) (by omega)
    rw [fb_sm_succ, ← tl_add] at this
    rw [← this]
    show zf_X8_all_64_b ct _ pl hd _ _ _ _ _ _ _ _ _ _ _ _ = _
    unfold zf_X8_all_64_b
    rw [if_neg (nI_ge (a := q) (b := n) (by omega) (by omega)), py_lastW h8 (by omega), hz q (by omega), show nI q + (1 : Int32) = nI (q + 1) from nI_1 q]
    rfl
theorem py_mAll (h8 : n ≤ 8) {w : Nat → Int64} {a : Nat → Nat} (hw : py_AR w a 2048) {t : Nat} (ht : t ≤ 12) (u pl hd : Int32) (sp la : Nat → Int64) : ∀ (d q m : Nat), q + d = n → d < m →
    zf_X9_all_34 mt (nI n) pl hd m w sp la (nI t) u (lN (fb_sm (fun s => a (8 * (2 ^ n - 1) + s)) q)) (nI q) = Option.bind (zf_X9_part (lN (fb_sm (fun s => a (8 * (2 ^ n - 1) + s)) n)) (lN (10 ^ t)) u) (fun x => some (x, w, sp, la)) := by
  have hp8 := py_pow8 h8
  have hp1 := Nat.one_le_two_pow (n := n)
  intro d
  induction d with
  | zero =>
    intro q m h1 h2
    obtain ⟨f, rfl⟩ : ∃ f, m = f + 1 := ⟨m - 1, by omega⟩
    have : q = n := by omega
    subst this
    show zf_X9_all_34_b mt _ pl hd _ _ _ _ _ _ _ _ = _
    unfold zf_X9_all_34_b
    rw [if_pos ((tn_le (by omega) (by omega)).mpr (by omega)), show zf_X9_power (10 : Int32) (nI t) = _ from tp_m (b := 10) (by decide) (by omega)]
    rfl
  | succ d ih =>
    intro q m h1 h2
    obtain ⟨f, rfl⟩ : ∃ f, m = f + 1 := ⟨m - 1, by omega⟩
    have := ih (q + 1) f (by omega) (by omega)
    rw [fb_sm_succ, ← tl_add] at this
    rw [← this]
    show zf_X9_all_34_b mt _ pl hd _ _ _ _ _ _ _ _ = _
    unfold zf_X9_all_34_b
    rw [if_neg (nI_ge (a := q) (b := n) (by omega) (by omega)), py_all h8, show (8 : Int32) * nI (2 ^ n - 1) + nI q = nI (8 * (2 ^ n - 1) + q) from by rw [show (8 : Int32) = nI 8 from rfl, pk_mul, nI_add], if_neg (tn_in (by omega) (by decide)), tn_cl (by omega), hw _ (by omega), show nI q + (1 : Int32) = nI (q + 1) from nI_1 q]
end PYALL
section PYSIT
variable {n : Nat} {ct mt : Nat → Int32}
theorem py_sit (h8 : n ≤ 8) {lw la : Nat → Int64} {z : Nat → Nat} (hc : ∀ j, j < n → lw j = lN (z j)) (hm : ∀ j, j < n → la j = lN (z j)) (fr : Int32) (w sp ow nw : Nat → Int64) (ol nl : Nat → Int32) (os ns : Int32) : ∀ (d q m m' : Nat) (v2 : Int32) (v3 : Int64), q + d = n → d < m → d < m' → (v2 = -9 ∨ ∃ j, j < n ∧ v2 = nI j ∧ v3 = lN (z j)) →
    ∃ r, zf_X8_sit_49 ct (nI n) fr m lw ow ol os nw nl ns v2 v3 (nI q) = some (r, lw, ow, ol, os, nw, nl, ns) ∧ zf_X9_sit_35 mt (nI n) fr m' w sp la v2 (nI q) = some (r, w, sp, la) := by
  intro d
  induction d with
  | zero =>
    intro q m m' v2 v3 h1 h2 h3 hv
    obtain ⟨f, rfl⟩ : ∃ f, m = f + 1 := ⟨m - 1, by omega⟩
    obtain ⟨f', rfl⟩ : ∃ f, m' = f + 1 := ⟨m' - 1, by omega⟩
    refine ⟨v2, ?_, ?_⟩
    · show zf_X8_sit_49_b ct _ _ _ _ _ _ _ _ _ _ _ _ _ = _
      unfold zf_X8_sit_49_b
      rw [if_pos ((tn_le (by omega) (by omega)).mpr (by omega))]
    · show zf_X9_sit_35_b mt _ _ _ _ _ _ _ _ = _
      unfold zf_X9_sit_35_b
      rw [if_pos ((tn_le (by omega) (by omega)).mpr (by omega))]
  | succ d ih =>
    intro q m m' v2 v3 h1 h2 h3 hv
    obtain ⟨f, rfl⟩ : ∃ f, m = f + 1 := ⟨m - 1, by omega⟩
    obtain ⟨f', rfl⟩ : ∃ f, m' = f + 1 := ⟨m' - 1, by omega⟩
    have hq : q < n := by omega
    show ∃ r, zf_X8_sit_49_b ct _ _ _ _ _ _ _ _ _ _ _ _ _ = _ ∧ zf_X9_sit_35_b mt _ _ _ _ _ _ _ _ = _
    unfold zf_X8_sit_49_b zf_X9_sit_35_b zf_X8_sit_97 zf_X8_sit_103 zf_X9_sit_77 zf_X9_sit_73 zf_X9_sit_78
    rw [if_neg (nI_ge (a := q) (b := n) (by omega) (by omega)), if_neg (nI_ge (a := q) (b := n) (by omega) (by omega)), py_lastW h8 hq, show nI q + (1 : Int32) = nI (q + 1) from nI_1 q, hc q hq, if_neg (tn_in (a := q) (N := 8) (by omega) (by decide)), tn_cl (a := q) (by omega), hm q hq]
    simp only [zb]
    by_cases e1 : nI q = fr
    · rw [if_pos e1, if_pos e1]
      exact ih (q + 1) f f' v2 v3 (by omega) (by omega) (by omega) hv
    · rw [if_neg e1, if_neg e1]
      by_cases e2 : v2 = -9
      · rw [if_pos e2, if_pos e2]
        exact ih (q + 1) f f' _ _ (by omega) (by omega) (by omega) (Or.inr ⟨q, hq, rfl, rfl⟩)
      · rw [if_neg e2, if_neg e2]
        rcases hv with hv | ⟨j, hj, rfl, rfl⟩
        · exact absurd hv e2
        rw [if_neg (tn_in (a := j) (N := 8) (by omega) (by decide)), tn_cl (a := j) (by omega), hm j hj]
        by_cases e3 : 0 ≤ lg_cmp (lN (z q)) (lN (z j))
        · rw [if_pos e3, if_pos e3]
          exact ih (q + 1) f f' _ _ (by omega) (by omega) (by omega) (Or.inr ⟨j, hj, rfl, rfl⟩)
        · rw [if_neg e3, if_neg e3]
          exact ih (q + 1) f f' _ _ (by omega) (by omega) (by omega) (Or.inr ⟨q, hq, rfl, rfl⟩)
end PYSIT
section PYALL3
variable {n kd pn b h sc : Nat} {T : Nat → Nat → Nat} {hs st ss : Nat → Nat} {sd : Int64}
variable {ct mt xh xt xs ma mw mt' ms' : Nat → Int32} {cs ck cp ms mk mr x0 x1 x2 x3 x4 mp mf mh mn mc : Int32} {x5 md : Int64}
theorem po_last (hN : py_RN n T kd pn ct cs ck cp mt ms mk mr) (hG : py_RG n b h hs sc st ss sd xh xt xs x0 x1 x2 x3 x4 x5 mp mf mh mn ma mw mc mt' ms' md) (lw : Nat → Int64) {ow nw : Nat → Int64} {ol : Nat → Int32} (nl : Nat → Int32) {os ns : Int32} (hS : py_RS ow ol os nw ns) (w sp la : Nat → Int64) (p0 p1 u : Int32) :
    ∃ r lw' ow' ol' os' nw' nl' ns' w' sp' la', zf_X8_last p0 p1 u ct cs x1 x2 lw ow ol os nw nl ns = some (r, lw', ow', ol', os', nw', nl', ns') ∧ zf_X9_last p0 p1 u mt ms mp mh w sp la = some (r, w', sp', la') ∧ py_RS ow' ol' os' nw' ns' := by
  obtain ⟨h2, h8, -, -, rfl, rfl, -, -, -, -, hc, hm, hz, hr, -⟩ := hN
  obtain ⟨hb, hh, -, hhs, -, -, -, -, -, -, -, -, -, rfl, rfl, -, -, -, rfl, -, rfl, -, -, -⟩ := hG
  have hp := py_pl_lt hb hhs
  have hd := py_hd_lt hb hhs
  have hp8 := py_pow8 h8
  have hR := py_RN_R hz hr
  have hT := py_RN_le hz hr
  unfold zf_X8_last zf_X9_last
  rcases tn_seat p1 (n := n) (by omega) with ⟨j, hj, rfl⟩ | h0
  · rw [py_has1 h8 hj, py_isSeat1 (by omega) h8 hj, py_rng (lo := 0) (hi := 12) (lo' := 0) (hi' := 12) (by decide) (by decide)]
    simp only [zb, if_neg zone]
    by_cases hq : p0 < 0
    · rw [if_pos hq, if_pos (Or.inl hq), if_pos rfl]
      exact ⟨_, _, _, _, _, _, _, _, _, _, _, rfl, rfl, hS⟩
    · rw [if_neg hq]
      by_cases hq2 : p0 ≤ 12
      · rw [if_pos hq2, if_neg (show ¬ (p0 < 0 ∨ 12 < p0) from fun q => q.elim hq (fun q => absurd hq2 (Int32.not_le.mpr q))), if_neg zone]
        obtain ⟨t, ht, rfl⟩ := nI_of2 (x := p0) (M := 12) (n := 12) (by decide) hq hq2
        obtain ⟨lw', ow', nw', ol', nl', os', ns', a1, a2, a3⟩ := py_wl h8 hc hT hR (pos := py_pl b hs h) (set := py_hd b hs h) (t := t) ht hp hd nl hS lw
        obtain ⟨w', sp', la', a, z, b1, b2, b3, b4, b5⟩ := py_lay (by omega) h8 hm hT hR (t := t) (pos := py_pl b hs h) (set := py_hd b hs h) ht (by omega) (by omega) w sp la
        rw [a1, b1]
        simp only [zb]
        have hle := py_z_le h8 hz hr (8 * py_hd b hs h + py_pl b hs h) t hj
        have h10 := py_p10_63 (e := t) (by omega)
        rw [py_lastW h8 hj, a3 j hj, if_neg (tn_in (a := j) (N := 8) (by omega) (by decide)), tn_cl (a := j) (by omega), b3 j (by omega), b5 j hj, show zf_X8_power (10 : Int64) (nI t) = _ from tp_c (B := 10) (by omega), show zf_X9_power (10 : Int32) (nI t) = _ from tp_m (b := 10) (by decide) (by omega)]
        simp only [zb]
        rw [py_frM u (by omega) (py_p10 t) h10, py_frC u (by omega) (py_p10 t) h10]
        exact ⟨_, _, _, _, _, _, _, _, _, _, _, rfl, rfl, a2⟩
      · rw [if_neg hq2, if_pos (Or.inr (py_nle hq2)), if_pos rfl]
        exact ⟨_, _, _, _, _, _, _, _, _, _, _, rfl, rfl, hS⟩
  · rw [py_has0 h0, py_isSeat0 (by omega) h8 h0]
    exact ⟨_, _, _, _, _, _, _, _, _, _, _, rfl, rfl, hS⟩
theorem po_all (hN : py_RN n T kd pn ct cs ck cp mt ms mk mr) (hG : py_RG n b h hs sc st ss sd xh xt xs x0 x1 x2 x3 x4 x5 mp mf mh mn ma mw mc mt' ms' md) (lw : Nat → Int64) {ow nw : Nat → Int64} {ol : Nat → Int32} (nl : Nat → Int32) {os ns : Int32} (hS : py_RS ow ol os nw ns) (w sp la : Nat → Int64) (p0 u : Int32) :
    ∃ r lw' ow' ol' os' nw' nl' ns' w' sp' la', zf_X8_all p0 u ct cs x1 x2 lw ow ol os nw nl ns = some (r, lw', ow', ol', os', nw', nl', ns') ∧ zf_X9_all p0 u mt ms mp mh w sp la = some (r, w', sp', la') ∧ py_RS ow' ol' os' nw' ns' := by
  obtain ⟨h2, h8, -, -, rfl, rfl, -, -, -, -, hc, hm, hz, hr, -⟩ := hN
  obtain ⟨hb, hh, -, hhs, -, -, -, -, -, -, -, -, -, rfl, rfl, -, -, -, rfl, -, rfl, -, -, -⟩ := hG
  have hp := py_pl_lt hb hhs
  have hd := py_hd_lt hb hhs
  have hp8 := py_pow8 h8
  have hp1 := Nat.one_le_two_pow (n := n)
  have hR := py_RN_R hz hr
  have hT := py_RN_le hz hr
  unfold zf_X8_all zf_X9_all
  rw [py_rng (lo := 0) (hi := 12) (lo' := 0) (hi' := 12) (by decide) (by decide)]
  simp only [zb]
  by_cases hq : p0 < 0
  · rw [if_pos hq, if_pos (Or.inl hq), if_pos rfl]
    exact ⟨_, _, _, _, _, _, _, _, _, _, _, rfl, rfl, hS⟩
  · rw [if_neg hq]
    by_cases hq2 : p0 ≤ 12
    · rw [if_pos hq2, if_neg (show ¬ (p0 < 0 ∨ 12 < p0) from fun q => q.elim hq (fun q => absurd hq2 (Int32.not_le.mpr q))), if_neg zone, py_allBits h8]
      simp only [zb]
      obtain ⟨t, ht, rfl⟩ := nI_of2 (x := p0) (M := 12) (n := 12) (by decide) hq hq2
      obtain ⟨w', sp', la', a, z, b1, b2, b3, b4, b5⟩ := py_lay (by omega) h8 hm hT hR (t := t) (pos := py_pl b hs h) (set := py_hd b hs h) ht (by omega) (by omega) w sp la
      have h10 := py_p10_63 (e := t) (by omega)
      have m1 := py_mAll (mt := mt) h8 b2 ht u (nI (py_pl b hs h)) (nI (py_hd b hs h)) sp' la' n 0 zfuel (by omega) (by unfold zfuel; omega)
      have hle := py_it_full_le hz hr (8 * py_hd b hs h + py_pl b hs h) t
      rw [← py_F_full h8 a, b4, py_frM u (by omega) (py_p10 t) h10] at m1
      rw [b1]
      simp only [zb]
      rw [show zf_X9_all_34 mt (nI n) (nI (py_pl b hs h)) (nI (py_hd b hs h)) zfuel w' sp' la' (nI t) u 0 0 = _ from m1]
      by_cases hA : py_hd b hs h = 2 ^ n - 1
      · rw [if_pos (by rw [hA])]
        refine ⟨1, _, _, _, _, _, _, _, w', sp', la', rfl, ?_, hS⟩
        have e1 : py_it T n t (py_full n) (8 * py_hd b hs h + py_pl b hs h) = 10 ^ t := by
          rw [py_it_full h8 hz hr, fb_sm_cong (g := fun _ => 0) (fun j _ => py_z_full T h8 (by omega) t j), fb_sm_const]
          unfold py_full
          rw [if_pos (by omega)]
          omega
        rw [e1]
        have e2 : py_fr (10 ^ t) (10 ^ t) u = 1 := by
          have := py_fr_sc (A := 1) (B := 1) u (py_p10 t)
          rw [Nat.one_mul] at this
          rw [this]
          unfold py_fr
          by_cases hu : u = 0
          · rw [if_pos hu]; rfl
          · rw [if_neg hu]; rfl
        rw [e2]
        rfl
      · rw [if_neg (fun z => hA ((tn_eq (by omega) (by omega)).mp z))]
        obtain ⟨lw', ow', nw', ol', nl', os', ns', a1, a2, a3⟩ := py_wl h8 hc hT hR (pos := py_pl b hs h) (set := py_hd b hs h) (t := t) ht hp hd nl hS lw
        rw [a1]
        simp only [zb]
        have c1 := py_cAll (ct := ct) h8 a3 ht u (nI (py_pl b hs h)) (nI (py_hd b hs h)) ow' nw' ol' nl' os' ns' n 0 zfuel (by omega) (by unfold zfuel; omega)
        have e1 : py_it T n t (py_full n) (8 * py_hd b hs h + py_pl b hs h) = fb_sm (py_z T n (8 * py_hd b hs h + py_pl b hs h) t) n := by
          rw [py_it_full h8 hz hr]
          unfold py_full
          rw [if_neg (by omega)]
          omega
        rw [← e1, py_frC u (by omega) (py_p10 t) h10] at c1
        rw [show zf_X8_all_64 ct (nI n) (nI (py_pl b hs h)) (nI (py_hd b hs h)) zfuel lw' ow' ol' os' nw' nl' ns' (nI t) u 0 0 = _ from c1]
        exact ⟨_, _, _, _, _, _, _, _, _, _, _, rfl, rfl, a2⟩
    · rw [if_neg hq2, if_pos (Or.inr (py_nle hq2)), if_pos rfl]
      exact ⟨_, _, _, _, _, _, _, _, _, _, _, rfl, rfl, hS⟩
theorem po_sit (hN : py_RN n T kd pn ct cs ck cp mt ms mk mr) (hG : py_RG n b h hs sc st ss sd xh xt xs x0 x1 x2 x3 x4 x5 mp mf mh mn ma mw mc mt' ms' md) (lw : Nat → Int64) {ow nw : Nat → Int64} {ol : Nat → Int32} (nl : Nat → Int32) {os ns : Int32} (hS : py_RS ow ol os nw ns) (w sp la : Nat → Int64) (p0 : Int32) :
    ∃ r lw' ow' ol' os' nw' nl' ns' w' sp' la', zf_X8_sit p0 ct cs x0 lw ow ol os nw nl ns = some (r, lw', ow', ol', os', nw', nl', ns') ∧ zf_X9_sit p0 mt ms mf w sp la = some (r, w', sp', la') ∧ py_RS ow' ol' os' nw' ns' := by
  obtain ⟨h2, h8, -, -, rfl, rfl, -, -, -, -, hc, hm, hz, hr, -⟩ := hN
  obtain ⟨hb, hh, -, hhs, -, -, -, -, -, -, -, -, rfl, -, -, -, -, -, -, rfl, -, -, -, -⟩ := hG
  have hp8 := py_pow8 h8
  have hR := py_RN_R hz hr
  have hT := py_RN_le hz hr
  have hbn : 2 ^ b < 2 ^ n := Nat.pow_lt_pow_right (by decide) hb
  unfold zf_X8_sit zf_X9_sit
  rw [py_rng (lo := 0) (hi := 12) (lo' := 0) (hi' := 12) (by decide) (by decide)]
  simp only [zb]
  by_cases hq : p0 < 0
  · rw [if_pos hq, if_pos (Or.inl hq), if_pos rfl]
    exact ⟨_, _, _, _, _, _, _, _, _, _, _, rfl, rfl, hS⟩
  · rw [if_neg hq]
    by_cases hq2 : p0 ≤ 12
    · rw [if_pos hq2, if_neg (show ¬ (p0 < 0 ∨ 12 < p0) from fun q => q.elim hq (fun q => absurd hq2 (Int32.not_le.mpr q))), if_neg zone, tb_sh b (by omega)]
      obtain ⟨t, ht, rfl⟩ := nI_of2 (x := p0) (M := 12) (n := 12) (by decide) hq hq2
      obtain ⟨w', sp', la', a, z, b1, b2, b3, b4, b5⟩ := py_lay (by omega) h8 hm hT hR (t := t) (pos := b) (set := 2 ^ b) ht (by omega) (by omega) w sp la
      obtain ⟨lw', ow', nw', ol', nl', os', ns', a1, a2, a3⟩ := py_wl h8 hc hT hR (pos := b) (set := 2 ^ b) (t := t) ht hb hbn nl hS lw
      rw [a1, b1]
      simp only [zb]
      obtain ⟨r, s1, s2⟩ := py_sit (ct := ct) (mt := mt) (la := la') h8 a3 (fun j hj => by rw [b3 j (by omega), b5 j hj]) (nI b) w' sp' ow' nw' ol' nl' os' ns' n 0 zfuel zfuel (-9) 0 (by omega) (by unfold zfuel; omega) (by unfold zfuel; omega) (Or.inl rfl)
      rw [show zf_X8_sit_49 ct (nI n) (nI b) zfuel lw' ow' ol' os' nw' nl' ns' (-9) 0 0 = _ from s1, show zf_X9_sit_35 mt (nI n) (nI b) zfuel w' sp' la' (-9) 0 = _ from s2]
      exact ⟨_, _, _, _, _, _, _, _, _, _, _, rfl, rfl, a2⟩
    · rw [if_neg hq2, if_pos (Or.inr (py_nle hq2)), if_pos rfl]
      exact ⟨_, _, _, _, _, _, _, _, _, _, _, rfl, rfl, hS⟩
end PYALL3
