/-! ===== the plainest calls ===== -/
section PYPL
variable {len n kd pn b h sc : Nat} {tx : Nat → Nat} {T : Nat → Nat → Nat} {hs st ss : Nat → Nat} {sd : Int64}
variable {xb mx ct mt xh xt xs ma mw mta mss : Nat → Int32} {xl ml cs ck cp ms mk mr x0 x1 x2 x3 x4 mp mf mh mn mc : Int32} {x5 md : Int64}
theorem po_wipe (hT : py_RT len tx xb xl mx ml) : ∃ r a0 c0, zf_X8_wipe xl = some (r, a0) ∧ zf_X9_wipe ml = some (r, c0) ∧ ∃ len' tx', py_RT len' tx' xb a0 mx c0 := by
  obtain ⟨hl, rfl, rfl, hx⟩ := hT
  exact ⟨_, _, _, rfl, rfl, 0, tx, by omega, rfl, rfl, fun i hi => absurd hi (by omega)⟩
theorem po_unsee (hG : py_RG n b h hs sc st ss sd xh xt xs x0 x1 x2 x3 x4 x5 mp mf mh mn ma mw mc mta mss md) : ∃ r a0 c0, zf_X8_unsee x4 = some (r, a0) ∧ zf_X9_unsee mc = some (r, c0) ∧ ∃ sc' st' ss', py_RG n b h hs sc' st' ss' sd xh xt xs x0 x1 x2 x3 a0 x5 mp mf mh mn ma mw c0 mta mss md := by
  obtain ⟨hb, hh, hsc, hhs, hst, hxh, hma, hmw, hxt, hxs, hmt, hms, rfl, rfl, rfl, rfl, rfl, rfl, rfl, rfl, rfl, rfl, rfl, rfl⟩ := hG
  exact ⟨_, _, _, rfl, rfl, 0, st, ss, hb, hh, by omega, hhs, fun i hi => absurd hi (by omega), hxh, hma, hmw, fun i hi => absurd hi (by omega), fun i hi => absurd hi (by omega), fun i hi => absurd hi (by omega), fun i hi => absurd hi (by omega), rfl, rfl, rfl, rfl, rfl, rfl, rfl, rfl, rfl, rfl, rfl, rfl⟩
theorem po_seed (hG : py_RG n b h hs sc st ss sd xh xt xs x0 x1 x2 x3 x4 x5 mp mf mh mn ma mw mc mta mss md) (p0 : Int64) : ∃ r a0 c0, zf_X8_seed p0 x5 = some (r, a0) ∧ zf_X9_seed p0 md = some (r, c0) ∧ py_RG n b h hs sc st ss p0 xh xt xs x0 x1 x2 x3 x4 a0 mp mf mh mn ma mw mc mta mss c0 := by
  obtain ⟨hb, hh, hsc, hhs, hst, hxh, hma, hmw, hxt, hxs, hmt, hms, rfl, rfl, rfl, rfl, rfl, rfl, rfl, rfl, rfl, rfl, rfl, rfl⟩ := hG
  exact ⟨_, _, _, rfl, rfl, hb, hh, hsc, hhs, hst, hxh, hma, hmw, hxt, hxs, hmt, hms, rfl, rfl, rfl, rfl, rfl, rfl, rfl, rfl, rfl, rfl, rfl, rfl⟩
theorem po_count (hT : py_RT len tx xb xl mx ml) (hN : py_RN n T kd pn ct cs ck cp mt ms mk mr) (hG : py_RG n b h hs sc st ss sd xh xt xs x0 x1 x2 x3 x4 x5 mp mf mh mn ma mw mc mta mss md) (p0 : Int32) : ∃ r, zf_X8_count p0 xl cs ck x0 x1 x2 x3 x4 = some r ∧ zf_X9_count p0 ms mk ml mp mf mh mn mc = some r := by
  obtain ⟨hl, rfl, rfl, hx⟩ := hT
  obtain ⟨h2, h8, hkd, hpn, rfl, rfl, rfl, rfl, rfl, rfl, -⟩ := hN
  obtain ⟨hb, hh, hsc, hhs, hst, hxh, hma, hmw, hxt, hxs, hmt, hms, rfl, rfl, rfl, rfl, rfl, rfl, rfl, rfl, rfl, rfl, rfl, rfl⟩ := hG
  unfold zf_X8_count zf_X9_count
  by_cases c0 : p0 = 0
  · rw [if_pos c0]; exact ⟨_, rfl, rfl⟩
  rw [if_neg c0]
  by_cases c1 : p0 = 1
  · rw [if_pos c1]; exact ⟨_, rfl, rfl⟩
  rw [if_neg c1]
  by_cases c2 : p0 = 2
  · rw [if_pos c2]; exact ⟨_, rfl, rfl⟩
  rw [if_neg c2]
  by_cases c3 : p0 = 3
  · rw [if_pos c3]; exact ⟨_, rfl, rfl⟩
  rw [if_neg c3]
  by_cases c4 : p0 = 4
  · rw [if_pos c4]; exact ⟨_, rfl, rfl⟩
  rw [if_neg c4]
  by_cases c5 : p0 = 5
  · rw [if_pos c5]; exact ⟨_, rfl, rfl⟩
  rw [if_neg c5]
  by_cases c6 : p0 = 6
  · rw [if_pos c6]; exact ⟨_, rfl, rfl⟩
  rw [if_neg c6]
  by_cases c7 : p0 = 7
  · rw [if_pos c7]; exact ⟨_, rfl, rfl⟩
  rw [if_neg c7]
  exact ⟨_, rfl, rfl⟩
end PYPL
/-! the first state -/
theorem py_init : ∃ o, zf_X8_init = some o ∧ o.1 = nI 2 ∧ o.2.1 = nI 0 ∧ o.2.2.1 = nI 5 ∧ ∀ a b, a < 8 → b < 8 → o.2.2.2.1 (8 * a + b) = nI (py_ln 2 0 5 a b) := by
  obtain ⟨ct, to, wc, k1, k2, k3⟩ := py_clearN 2 (fun _ => 0) (fun _ => 0) (fun _ => 0) 0 0 0
  obtain ⟨ct', to', wc', y1, y2⟩ := py_layC (n := 2) (kd := 0) (pn := 5) (by omega) (by omega) (by omega) (by omega) 2 0 zfuel ct to wc (by omega) (by unfold zfuel; omega) (fun a b ha hb => by rw [if_neg (by omega)]; exact k2 _ (by omega))
  unfold zf_X8_init
  rw [k1]
  simp only [zb]
  rw [show zf_X3_lay 0 5 2 ct to wc 2 0 = some (ct', to', wc', nI 0, nI 5) from y1]
  exact ⟨_, rfl, rfl, rfl, rfl, y2⟩
theorem py_initM : ∀ a, a < 8 → ∀ b, b < 8 → (upd (upd (fun _ => 0) ((1 : Int32)).toNatClampNeg (10 : Int32)) ((8 : Int32)).toNatClampNeg (10 : Int32)) (8 * a + b) = nI (py_ln 2 0 5 a b) := by decide +kernel
