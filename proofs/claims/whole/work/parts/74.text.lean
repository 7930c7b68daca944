/-! ===== the text: write ===== -/
def py_RT (len : Nat) (tx : Nat → Nat) (xb : Nat → Int32) (xl : Int32) (mt : Nat → Int32) (ml : Int32) : Prop :=
  len ≤ 98 ∧ xl = nI len ∧ ml = nI len ∧ ∀ i, i < len → tx i < 256 ∧ xb i = nI (tx i) ∧ mt i = nI (tx i)
theorem py_255 : ∀ i, i < 64 → 8 ≤ i → (255#64).getLsbD i = false := by decide
theorem py_shb (x : BitVec 64) (s : Nat) (hs : s ≤ 56) : (x.sshiftRight s) &&& 255#64 = (x >>> s) &&& 255#64 := by
  apply BitVec.eq_of_getLsbD_eq
  intro i hi
  rw [BitVec.getLsbD_and, BitVec.getLsbD_and]
  by_cases h8 : 8 ≤ i
  · rw [py_255 i hi h8, Bool.and_false, Bool.and_false]
  · congr 1
    rw [BitVec.getLsbD_sshiftRight, BitVec.getLsbD_ushiftRight]
    simp only [show s + i < 64 by omega, if_true]
    simp [show ¬ 64 ≤ i by omega]
theorem py_sm : ∀ k, k < 8 → ((nI (8 * k)).toInt64 &&& 63).toBitVec.smod 64 = BitVec.ofNat 64 (8 * k) := by decide
theorem py_byte (v : Int64) (k : Nat) (hk : k < 8) : ∃ t : Nat, t < 256 ∧ (((v).toUInt64 >>> ((((8 : Int32) * nI k)).toInt64.toUInt64 &&& Int64.toUInt64 63)).toInt64 &&& (255 : Int64)).toInt32 = nI t ∧ ((v >>> ((((8 : Int32) * nI k)).toInt64 &&& 63)) &&& (255 : Int64)).toInt32 = nI t := by
  obtain ⟨N, hN, rfl⟩ := wb_of v
  rw [show (8 : Int32) * nI k = nI (8 * k) from pk_mul 8 k]
  have e1 : ((lN N).toUInt64 >>> ((nI (8 * k)).toInt64.toUInt64 &&& Int64.toUInt64 63)).toInt64 = lN (N / 2 ^ (8 * k)) := wb_shr hN (by omega)
  have hd : N / 2 ^ (8 * k) < 2 ^ 64 := Nat.lt_of_le_of_lt (Nat.div_le_self _ _) hN
  have e2 : lN (N / 2 ^ (8 * k)) &&& (255 : Int64) = lN (N / 2 ^ (8 * k) % 2 ^ 8) := wb_mask (k := 8) hd (by decide)
  have e3 : (lN N >>> ((nI (8 * k)).toInt64 &&& 63)) &&& (255 : Int64) = lN (N / 2 ^ (8 * k)) &&& (255 : Int64) := by
    apply wb_inj
    rw [Int64.toBitVec_and, Int64.toBitVec_and, Int64.toBitVec_shiftRight, py_sm k hk, wb_tb, wb_tb, BitVec.sshiftRight']
    rw [show (BitVec.ofNat 64 (8 * k)).toNat = 8 * k from by rw [BitVec.toNat_ofNat]; omega]
    rw [show (255 : Int64).toBitVec = 255#64 from rfl, py_shb _ _ (by omega)]
    congr 1
    apply BitVec.eq_of_toNat_eq
    rw [BitVec.toNat_ushiftRight, BitVec.toNat_ofNat, BitVec.toNat_ofNat, Nat.mod_eq_of_lt hN, Nat.mod_eq_of_lt hd, Nat.shiftRight_eq_div_pow]
  refine ⟨N / 2 ^ (8 * k) % 2 ^ 8, Nat.mod_lt _ (by decide), ?_, ?_⟩
  · rw [e1, e2, lN_i]
  · rw [e3, e2, lN_i]
theorem py_add {xb : Nat → Int32} {len t : Nat} (h : len < 98) : zf_X7_add (nI t) xb (nI len) = some (upd xb len (nI t), nI (len + 1)) := by
  unfold zf_X7_add
  rw [if_neg (tn_n0 (by omega)), if_neg (show ¬ (98 : Int32) ≤ nI len from nI_ge (a := len) (b := 98) (by omega) (by decide)), if_neg (tn_in (by omega) (by decide)), tn_cl (by omega), show nI len + (1 : Int32) = nI (len + 1) from nI_1 len]
theorem py_wr (v : Int64) : ∀ (k len m : Nat) (tx : Nat → Nat) (xb mt : Nat → Int32), len + k ≤ 98 → k ≤ 8 → k < m → (∀ i, i < len → tx i < 256 ∧ xb i = nI (tx i) ∧ mt i = nI (tx i)) →
    ∃ (tx' : Nat → Nat) (xb' mt' : Nat → Int32), zf_X8_write_36 m xb (nI len) v (nI k + (-1)) = some (nI (len + k), xb', nI (len + k)) ∧ zf_X9_write_34 m mt (nI len) v (nI k + (-1)) = some (nI (len + k), mt', nI (len + k)) ∧ ∀ i, i < len + k → tx' i < 256 ∧ xb' i = nI (tx' i) ∧ mt' i = nI (tx' i) := by
  intro k
  induction k with
  | zero =>
    intro len m tx xb mt h1 h2 h3 h
    obtain ⟨q, rfl⟩ : ∃ q, m = q + 1 := ⟨m - 1, by omega⟩
    refine ⟨tx, xb, mt, ?_, ?_, h⟩
    · show zf_X8_write_36_b _ _ _ _ _ = _
      unfold zf_X8_write_36_b
      rw [if_pos (by decide)]; rfl
    · show zf_X9_write_34_b _ _ _ _ _ = _
      unfold zf_X9_write_34_b
      rw [if_pos (by decide)]; rfl
  | succ k ih =>
    intro len m tx xb mt h1 h2 h3 h
    obtain ⟨q, rfl⟩ : ∃ q, m = q + 1 := ⟨m - 1, by omega⟩
    obtain ⟨t, ht, b1, b2⟩ := py_byte v k (by omega)
    obtain ⟨tx', xb', mt', g1, g2, g3⟩ := ih (len + 1) q (fun i => if i = len then t else tx i) (upd xb len (nI t)) (upd mt len (nI t)) (by omega) (by omega) (by omega) (by
      intro i hi
      show (if i = len then t else tx i) < 256 ∧ _ = nI (if i = len then t else tx i) ∧ _ = nI (if i = len then t else tx i)
      by_cases e : i = len
      · rw [if_pos e, e, pk_us, pk_us]; exact ⟨ht, rfl, rfl⟩
      · rw [if_neg e, pk_un e, pk_un e]; exact h i (by omega))
    refine ⟨tx', xb', mt', ?_, ?_, fun i hi => g3 i (by omega)⟩
    · show zf_X8_write_36_b _ _ _ _ _ = _
      unfold zf_X8_write_36_b
      rw [pk_m1, if_neg (tn_n0 (by omega)), b1, py_add (by omega)]
      simp only [zb]
      rw [g1, show len + 1 + k = len + (k + 1) by omega]
    · show zf_X9_write_34_b _ _ _ _ _ = _
      unfold zf_X9_write_34_b
      rw [pk_m1, if_neg (tn_n0 (by omega)), b2, if_neg (tn_in (by omega) (by decide)), tn_cl (by omega), show nI len + (1 : Int32) = nI (len + 1) from nI_1 len, g2, show len + 1 + k = len + (k + 1) by omega]
theorem po_write {len : Nat} {tx : Nat → Nat} {xb mt : Nat → Int32} {xl ml : Int32} (hT : py_RT len tx xb xl mt ml) (p0 : Int32) (p1 : Int64) :
    ∃ r a0 a1 c0 c1, zf_X8_write p0 p1 xb xl = some (r, a0, a1) ∧ zf_X9_write p0 p1 mt ml = some (r, c0, c1) ∧ ∃ len' tx', py_RT len' tx' a0 a1 c0 c1 := by
  obtain ⟨hl, rfl, rfl, h⟩ := id hT
  unfold zf_X8_write zf_X9_write
  rw [py_rng (lo := 1) (hi := 8) (lo' := 1) (hi' := 8) (by decide) (by decide)]
  simp only [zb]
  by_cases hp : p0 < 1
  · rw [if_pos hp, if_pos (Or.inl hp), if_pos rfl]
    exact ⟨_, _, _, _, _, rfl, rfl, len, tx, hT⟩
  · rw [if_neg hp]
    by_cases hp9 : p0 ≤ 8
    · rw [if_pos hp9, if_neg (show ¬ (p0 < 1 ∨ 8 < p0) from fun q => q.elim hp (fun q => absurd hp9 (Int32.not_le.mpr q))), if_neg zone]
      obtain ⟨t, ht, rfl⟩ := nI_of2 (x := p0) (M := 8) (n := 8) (by decide) (fun q => hp (by rw [fa_lt] at q ⊢; have : (0 : Int32).toInt = 0 := rfl; have : (1 : Int32).toInt = 1 := rfl; omega)) hp9
      rw [nI_add]
      by_cases hf : len + t ≤ 98
      · have e : nI (len + t) ≤ (98 : Int32) := nI_le (a := len + t) (b := 98) hf (by decide)
        rw [if_pos e, if_pos e, Int32.sub_eq_add_neg]
        obtain ⟨tx', xb', mt', g1, g2, g3⟩ := py_wr p1 t len zfuel tx xb mt hf ht (by unfold zfuel; omega) h
        rw [g1, g2]
        exact ⟨_, _, _, _, _, rfl, rfl, len + t, tx', hf, rfl, rfl, g3⟩
      · have e : ¬ nI (len + t) ≤ (98 : Int32) := nI_ge (a := 98) (b := len + t) (by omega) (by omega)
        rw [if_neg e, if_neg e]
        exact ⟨_, _, _, _, _, rfl, rfl, len, tx, hT⟩
    · rw [if_neg hp9, if_pos (Or.inr (py_nle hp9)), if_pos rfl]
      exact ⟨_, _, _, _, _, rfl, rfl, len, tx, hT⟩
