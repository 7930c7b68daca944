/-! X8_power : PlateLast.power(JI)J -/
set_option maxRecDepth 100000 in
def zf_X8_power_5_b (k5 : Int64 → Int32 → Int64 → Int32 → Option (Int64)) (v0 : Int64) (v2 : Int32) (v3 : Int64) (v5 : Int32) : Option (Int64) := (if v2 ≤ v5 then (some v3) else (k5 v0 v2 (v3 * v0) (v5 + (1 : Int32))))
def zf_X8_power_5 : Nat → Int64 → Int32 → Int64 → Int32 → Option (Int64)
  | 0 => fun _ _ _ _ => none
  | n + 1 => fun v0 v2 v3 v5 => zf_X8_power_5_b (zf_X8_power_5 n) v0 v2 v3 v5
set_option maxRecDepth 100000 in
def zf_X8_power (p0 : Int64) (p1 : Int32) : Option (Int64) := (zf_X8_power_5 zfuel p0 p1 (1 : Int64) (0 : Int32))
/-! X8_sharedDivisor : PlateLast.sharedDivisor(JJ)J -/
set_option maxRecDepth 100000 in
def zf_X8_sharedDivisor_9_b (k9 : Int64 → Int64 → Int32 → Option (Int64)) (v4 : Int64) (v6 : Int64) (v8 : Int32) : Option (Int64) := (if (200 : Int32) ≤ v8 then (some v4) else (if (lg_cmp v6 (0 : Int64)) = 0 then (some v4) else (if v6 = 0 then none else (k9 v6 (v4 - v4 / v6 * v6) (v8 + (1 : Int32))))))
def zf_X8_sharedDivisor_9 : Nat → Int64 → Int64 → Int32 → Option (Int64)
  | 0 => fun _ _ _ => none
  | n + 1 => fun v4 v6 v8 => zf_X8_sharedDivisor_9_b (zf_X8_sharedDivisor_9 n) v4 v6 v8
set_option maxRecDepth 100000 in
def zf_X8_sharedDivisor (p0 : Int64) (p1 : Int64) : Option (Int64) := (zf_X8_sharedDivisor_9 zfuel p0 p1 (0 : Int32))
/-! X8_leastTerms : PlateLast.leastTerms(JJZ)J -/
set_option maxRecDepth 100000 in
def zf_X8_leastTerms (p0 : Int64) (p1 : Int64) (p2 : Int32) : Option (Int64) := (Option.bind (zf_X8_sharedDivisor p0 p1) (fun x_1 => (if 0 ≤ (lg_cmp x_1 (1 : Int64)) then (if p2 = 0 then (if x_1 = 0 then none else (some (p1 / x_1))) else (if x_1 = 0 then none else (some (p0 / x_1)))) else (if p2 = 0 then (some p1) else (some p0)))))
/-! X8_isNoRow : PlateLast.isNoRow(II)Z -/
set_option maxRecDepth 100000 in
def zf_X8_isNoRow_28 : Option (Int32) := (some (1 : Int32))
set_option maxRecDepth 100000 in
def zf_X8_isNoRow (p0 : Int32) (p1 : Int32) : Option (Int32) := (if p0 < (1 : Int32) then (zf_X8_isNoRow_28) else (if (9 : Int32) < p0 then (zf_X8_isNoRow_28) else (if p1 < 0 then (zf_X8_isNoRow_28) else (Option.bind (zf_X8_power (10 : Int64) p0) (fun x_4 => (if (lg_cmp (p1).toInt64 x_4) < 0 then (some (0 : Int32)) else (zf_X8_isNoRow_28)))))))
/-! X8_ringWeight : PlateLast.ringWeight(I)J -/
set_option maxRecDepth 100000 in
def zf_X8_ringWeight (p0 : Int32) (th_net_seats : Int32) (th_net_penny : Int32) : Option (Int64) := (Option.bind (zf_X8_power (th_net_penny).toInt64 (p0 - (1 : Int32))) (fun x_1 => (Option.bind (zf_X8_power (((10 : Int32) - th_net_penny)).toInt64 ((th_net_seats - (1 : Int32)) - p0)) (fun x_3 => (some (x_1 * x_3))))))
/-! X8_power : PlateLast.power(JI)J -/
set_option maxHeartbeats 4000000 in
set_option maxRecDepth 100000 in
theorem zw_X8_power_5_b {p : Program} {l : Launch} {e : Env} {s : State} {m : MethodId} {args : Array Value} {below : List Frame} {meth : Method} {c : Code} {dC : Nat → ClassId} {dI : Nat → Nat → Nat} {cI cJ cZ : ClassId} {A : Nat → Prop} {o : Int64} (C0 : zz_C p s m args meth c cX8_power 6 RX8 wsX8_power (some .long)) (hE : zz_EV (dC, dI) (zz_T cI cJ cZ) s) (hA : ∀ q : Nat, s.heap.size ≤ q → A q) (k5 : Int64 → Int32 → Int64 → Int32 → Option (Int64)) (hk5 : ∀ (v0 : Int64) (v2 : Int32) (v3 : Int64) (v5 : Int32), k5 v0 v2 v3 v5 = some o → ∀ (H : Heap) (locs : List Loc) (ls : Array Slot), va_P (dC, dI) vwCl [] H → va_D A [] → va_S A s.heap H locs → lv_has ls 6 [(0, .long v0), (2, .int v2), (3, .long v3), (5, .int v5)] → W p l e { frames := 0, cells := 0, slots := 0, locals := 0 } s m args below meth c H locs 0 0 (MQ below (zz_QL (dC, dI) (zz_T cI cJ cZ) A (fun _ : Unit => []) o) args s 0 0 A) (F0 m 5 ls [])) {v0 : Int64} {v2 : Int32} {v3 : Int64} {v5 : Int32} (h : zf_X8_power_5_b k5 v0 v2 v3 v5 = some o) : ∀ (H : Heap) (locs : List Loc) (ls : Array Slot), va_P (dC, dI) vwCl [] H → va_D A [] → va_S A s.heap H locs → lv_has ls 6 [(0, .long v0), (2, .int v2), (3, .long v3), (5, .int v5)] → W p l e { frames := 0, cells := 0, slots := 0, locals := 0 } s m args below meth c H locs 0 0 (MQ below (zz_QL (dC, dI) (zz_T cI cJ cZ) A (fun _ : Unit => []) o) args s 0 0 A) (F0 m 5 ls []) := by
  obtain ⟨⟨hx, hb, hml, hown, hts⟩, hr, hlocks⟩ := id C0
  unfold zf_X8_power_5_b at h
  intro H locs ls hP hD hS hl
  refine lv_iload hx hb dX8_power_5 (lv_at hl 3 rfl) ?_
  refine lv_iload_n hx hb dX8_power_7 rfl (lv_at hl 1 rfl) ?_
  refine lv_icmp_ge (tgt := 21) hx hb dX8_power_8 (by decide) (fun hc_1 => ?_) (fun hc_1 => ?_)
  · have h := zz_t hc_1 h
    refine lv_lload_n hx hb dX8_power_21 rfl (lv_at hl 2 rfl) ?_
    obtain rfl := Option.some.inj h
    exact zk_lret hx hb hr hlocks hE () hP hD hS rfl dX8_power_22
  have h := zz_f hc_1 h
  refine lv_lload_n hx hb dX8_power_11 rfl (lv_at hl 2 rfl) ?_
  refine lv_lload_n hx hb dX8_power_12 rfl (lv_at hl 0 rfl) ?_
  refine lv_lmul hx hb dX8_power_13 ?_
  refine lv_lstore_n (lv' := [(3, .long (v3 * v0)), (0, .long v0), (2, .int v2), (5, .int v5)]) hx hb dX8_power_14 rfl hl (by decide) rfl (fun ls hl => ?_)
  refine lv_iinc (v := (v5 + (1 : Int32))) (lv' := [(5, .int (v5 + (1 : Int32))), (3, .long (v3 * v0)), (0, .long v0), (2, .int v2)]) hx hb dX8_power_15 hl (k := 3) rfl rfl (by decide) rfl (fun ls hl => ?_)
  refine lv_goto (tgt := 5) hx hb dX8_power_18 (by decide) ?_
  exact hk5 v0 v2 (v3 * v0) (v5 + (1 : Int32)) h _ _ _ hP hD hS (lv_sub hl [2, 3, 1, 0] rfl)
set_option maxHeartbeats 4000000 in
set_option maxRecDepth 100000 in
theorem zw_X8_power_5 {p : Program} {l : Launch} {e : Env} {s : State} {m : MethodId} {args : Array Value} {below : List Frame} {meth : Method} {c : Code} {dC : Nat → ClassId} {dI : Nat → Nat → Nat} {cI cJ cZ : ClassId} {A : Nat → Prop} {o : Int64} (C0 : zz_C p s m args meth c cX8_power 6 RX8 wsX8_power (some .long)) (hE : zz_EV (dC, dI) (zz_T cI cJ cZ) s) (hA : ∀ q : Nat, s.heap.size ≤ q → A q) : ∀ (n : Nat) (v0 : Int64) (v2 : Int32) (v3 : Int64) (v5 : Int32), zf_X8_power_5 n v0 v2 v3 v5 = some o → ∀ (H : Heap) (locs : List Loc) (ls : Array Slot), va_P (dC, dI) vwCl [] H → va_D A [] → va_S A s.heap H locs → lv_has ls 6 [(0, .long v0), (2, .int v2), (3, .long v3), (5, .int v5)] → W p l e { frames := 0, cells := 0, slots := 0, locals := 0 } s m args below meth c H locs 0 0 (MQ below (zz_QL (dC, dI) (zz_T cI cJ cZ) A (fun _ : Unit => []) o) args s 0 0 A) (F0 m 5 ls []) := by
  intro n
  induction n with
  | zero =>
    intro v0 v2 v3 v5 h
    cases h
  | succ n ih =>
    intro v0 v2 v3 v5 h
    exact zw_X8_power_5_b C0 hE hA  (zf_X8_power_5 n) ih h
set_option maxHeartbeats 4000000 in
set_option maxRecDepth 100000 in
theorem zw_X8_power {p : Program} {l : Launch} {e : Env} {s : State} {m : MethodId} {args : Array Value} {below : List Frame} {meth : Method} {c : Code} {dC : Nat → ClassId} {dI : Nat → Nat → Nat} {cI cJ cZ : ClassId} {A : Nat → Prop} {o : Int64} (C0 : zz_C p s m args meth c cX8_power 6 RX8 wsX8_power (some .long)) (hE : zz_EV (dC, dI) (zz_T cI cJ cZ) s) (hA : ∀ q : Nat, s.heap.size ≤ q → A q) {p0 : Int64} {p1 : Int32} (h : zf_X8_power p0 p1 = some o) : ∀ (H : Heap) (locs : List Loc) (ls : Array Slot), va_P (dC, dI) vwCl [] H → va_D A [] → va_S A s.heap H locs → lv_has ls 6 [(0, .long p0), (2, .int p1)] → W p l e { frames := 0, cells := 0, slots := 0, locals := 0 } s m args below meth c H locs 0 0 (MQ below (zz_QL (dC, dI) (zz_T cI cJ cZ) A (fun _ : Unit => []) o) args s 0 0 A) (F0 m 0 ls []) := by
  obtain ⟨⟨hx, hb, hml, hown, hts⟩, hr, hlocks⟩ := id C0
  unfold zf_X8_power at h
  intro H locs ls hP hD hS hl
  refine lv_lconst (v := (1 : Int64)) hx hb dX8_power_0 (by decide) ?_
  refine lv_lstore_n (lv' := [(3, .long (1 : Int64)), (0, .long p0), (2, .int p1)]) hx hb dX8_power_1 rfl hl (by decide) rfl (fun ls hl => ?_)
  refine lv_iconst (v := (0 : Int32)) hx hb dX8_power_2 (by decide) ?_
  refine lv_istore (lv' := [(5, .int (0 : Int32)), (3, .long (1 : Int64)), (0, .long p0), (2, .int p1)]) hx hb dX8_power_3 hl (by decide) rfl (fun ls hl => ?_)
  exact zw_X8_power_5 C0 hE hA  zfuel p0 p1 (1 : Int64) (0 : Int32) h _ _ _ hP hD hS (lv_sub hl [2, 3, 1, 0] rfl)
set_option maxHeartbeats 4000000 in
set_option maxRecDepth 100000 in
theorem zc_X8_power (l : Launch) (dC : Nat → ClassId) (dI : Nat → Nat → Nat) (cI cJ cZ : ClassId) (sz : Nat) (p0 : Int64) (p1 : Int32) {o : Int64} (h : zf_X8_power p0 p1 = some o) : Met l yX8_power wsX8_power { frames := 0, cells := 0, slots := 0, locals := 0 } (zz_PC (dC, dI) (zz_T cI cJ cZ) [.long p0, .int p1] sz []) (zz_QL (dC, dI) (zz_T cI cJ cZ) (va_A [] sz) (fun _ : Unit => []) o) 0 0 (va_A [] sz) := by
  refine zz_met (own := RX8) (cc := cX8_power) (maxL := 6) (ret := some .long) (by decide) rfl rfl (Nat.le_of_ble_eq_true rfl) ?_
  intro p e s m below meth c ls hsz C0 hE hin hl hP hD
  subst hsz
  exact zw_X8_power C0 hE (fun q hq => Or.inr hq) h _ _ _ hP hD va_S.rf hl
/-! X8_sharedDivisor : PlateLast.sharedDivisor(JJ)J -/
set_option maxHeartbeats 4000000 in
set_option maxRecDepth 100000 in
theorem zw_X8_sharedDivisor_9_b {p : Program} {l : Launch} {e : Env} {s : State} {m : MethodId} {args : Array Value} {below : List Frame} {meth : Method} {c : Code} {dC : Nat → ClassId} {dI : Nat → Nat → Nat} {cI cJ cZ : ClassId} {A : Nat → Prop} {o : Int64} (C0 : zz_C p s m args meth c cX8_sharedDivisor 11 RX8 wsX8_sharedDivisor (some .long)) (hE : zz_EV (dC, dI) (zz_T cI cJ cZ) s) (hA : ∀ q : Nat, s.heap.size ≤ q → A q) (k9 : Int64 → Int64 → Int32 → Option (Int64)) (hk9 : ∀ (v4 : Int64) (v6 : Int64) (v8 : Int32), k9 v4 v6 v8 = some o → ∀ (H : Heap) (locs : List Loc) (ls : Array Slot), va_P (dC, dI) vwCl [] H → va_D A [] → va_S A s.heap H locs → lv_has ls 11 [(4, .long v4), (6, .long v6), (8, .int v8)] → W p l e { frames := 0, cells := 0, slots := 0, locals := 0 } s m args below meth c H locs 0 0 (MQ below (zz_QL (dC, dI) (zz_T cI cJ cZ) A (fun _ : Unit => []) o) args s 0 0 A) (F0 m 9 ls [])) {v4 : Int64} {v6 : Int64} {v8 : Int32} (h : zf_X8_sharedDivisor_9_b k9 v4 v6 v8 = some o) : ∀ (H : Heap) (locs : List Loc) (ls : Array Slot), va_P (dC, dI) vwCl [] H → va_D A [] → va_S A s.heap H locs → lv_has ls 11 [(4, .long v4), (6, .long v6), (8, .int v8)] → W p l e { frames := 0, cells := 0, slots := 0, locals := 0 } s m args below meth c H locs 0 0 (MQ below (zz_QL (dC, dI) (zz_T cI cJ cZ) A (fun _ : Unit => []) o) args s 0 0 A) (F0 m 9 ls []) := by
  obtain ⟨⟨hx, hb, hml, hown, hts⟩, hr, hlocks⟩ := id C0
  unfold zf_X8_sharedDivisor_9_b at h
  intro H locs ls hP hD hS hl
  refine lv_iload hx hb dX8_sharedDivisor_9 (lv_at hl 2 rfl) ?_
  refine lv_sipush (v := (200 : Int32)) hx hb dX8_sharedDivisor_11 (by decide) ?_
  refine lv_icmp_ge (tgt := 45) hx hb dX8_sharedDivisor_14 (by decide) (fun hc_1 => ?_) (fun hc_1 => ?_)
  · have h := zz_t hc_1 h
    refine lv_lload hx hb dX8_sharedDivisor_45 (lv_at hl 0 rfl) ?_
    obtain rfl := Option.some.inj h
    exact zk_lret hx hb hr hlocks hE () hP hD hS rfl dX8_sharedDivisor_47
  have h := zz_f hc_1 h
  refine lv_lload hx hb dX8_sharedDivisor_17 (lv_at hl 1 rfl) ?_
  refine lv_lconst (v := (0 : Int64)) hx hb dX8_sharedDivisor_19 (by decide) ?_
  refine W.lcmp hx hb dX8_sharedDivisor_20 ?_
  refine lv_if_eq (tgt := 45) hx hb dX8_sharedDivisor_21 (by decide) (fun hc_2 => ?_) (fun hc_2 => ?_)
  · have h := zz_t hc_2 h
    refine lv_lload hx hb dX8_sharedDivisor_45 (lv_at hl 0 rfl) ?_
    obtain rfl := Option.some.inj h
    exact zk_lret hx hb hr hlocks hE () hP hD hS rfl dX8_sharedDivisor_47
  have h := zz_f hc_2 h
  refine lv_lload hx hb dX8_sharedDivisor_24 (lv_at hl 0 rfl) ?_
  refine lv_lload hx hb dX8_sharedDivisor_26 (lv_at hl 1 rfl) ?_
  obtain ⟨hnz_3, h⟩ := zz_nn h
  refine lv_lrem hx hb dX8_sharedDivisor_28 hnz_3 ?_
  refine lv_lstore (lv' := [(9, .long (v4 - v4 / v6 * v6)), (4, .long v4), (6, .long v6), (8, .int v8)]) hx hb dX8_sharedDivisor_29 hl (by decide) rfl (fun ls hl => ?_)
  refine lv_lload hx hb dX8_sharedDivisor_31 (lv_at hl 2 rfl) ?_
  refine lv_lstore (lv' := [(4, .long v6), (9, .long (v4 - v4 / v6 * v6)), (6, .long v6), (8, .int v8)]) hx hb dX8_sharedDivisor_33 hl (by decide) rfl (fun ls hl => ?_)
  refine lv_lload hx hb dX8_sharedDivisor_35 (lv_at hl 1 rfl) ?_
  refine lv_lstore (lv' := [(6, .long (v4 - v4 / v6 * v6)), (4, .long v6), (9, .long (v4 - v4 / v6 * v6)), (8, .int v8)]) hx hb dX8_sharedDivisor_37 hl (by decide) rfl (fun ls hl => ?_)
  refine lv_iinc (v := (v8 + (1 : Int32))) (lv' := [(8, .int (v8 + (1 : Int32))), (6, .long (v4 - v4 / v6 * v6)), (4, .long v6), (9, .long (v4 - v4 / v6 * v6))]) hx hb dX8_sharedDivisor_39 hl (k := 3) rfl rfl (by decide) rfl (fun ls hl => ?_)
  refine lv_goto (tgt := 9) hx hb dX8_sharedDivisor_42 (by decide) ?_
  exact hk9 v6 (v4 - v4 / v6 * v6) (v8 + (1 : Int32)) h _ _ _ hP hD hS (lv_sub hl [2, 1, 0] rfl)
set_option maxHeartbeats 4000000 in
set_option maxRecDepth 100000 in
theorem zw_X8_sharedDivisor_9 {p : Program} {l : Launch} {e : Env} {s : State} {m : MethodId} {args : Array Value} {below : List Frame} {meth : Method} {c : Code} {dC : Nat → ClassId} {dI : Nat → Nat → Nat} {cI cJ cZ : ClassId} {A : Nat → Prop} {o : Int64} (C0 : zz_C p s m args meth c cX8_sharedDivisor 11 RX8 wsX8_sharedDivisor (some .long)) (hE : zz_EV (dC, dI) (zz_T cI cJ cZ) s) (hA : ∀ q : Nat, s.heap.size ≤ q → A q) : ∀ (n : Nat) (v4 : Int64) (v6 : Int64) (v8 : Int32), zf_X8_sharedDivisor_9 n v4 v6 v8 = some o → ∀ (H : Heap) (locs : List Loc) (ls : Array Slot), va_P (dC, dI) vwCl [] H → va_D A [] → va_S A s.heap H locs → lv_has ls 11 [(4, .long v4), (6, .long v6), (8, .int v8)] → W p l e { frames := 0, cells := 0, slots := 0, locals := 0 } s m args below meth c H locs 0 0 (MQ below (zz_QL (dC, dI) (zz_T cI cJ cZ) A (fun _ : Unit => []) o) args s 0 0 A) (F0 m 9 ls []) := by
  intro n
  induction n with
  | zero =>
    intro v4 v6 v8 h
    cases h
  | succ n ih =>
    intro v4 v6 v8 h
    exact zw_X8_sharedDivisor_9_b C0 hE hA  (zf_X8_sharedDivisor_9 n) ih h
set_option maxHeartbeats 4000000 in
set_option maxRecDepth 100000 in
theorem zw_X8_sharedDivisor {p : Program} {l : Launch} {e : Env} {s : State} {m : MethodId} {args : Array Value} {below : List Frame} {meth : Method} {c : Code} {dC : Nat → ClassId} {dI : Nat → Nat → Nat} {cI cJ cZ : ClassId} {A : Nat → Prop} {o : Int64} (C0 : zz_C p s m args meth c cX8_sharedDivisor 11 RX8 wsX8_sharedDivisor (some .long)) (hE : zz_EV (dC, dI) (zz_T cI cJ cZ) s) (hA : ∀ q : Nat, s.heap.size ≤ q → A q) {p0 : Int64} {p1 : Int64} (h : zf_X8_sharedDivisor p0 p1 = some o) : ∀ (H : Heap) (locs : List Loc) (ls : Array Slot), va_P (dC, dI) vwCl [] H → va_D A [] → va_S A s.heap H locs → lv_has ls 11 [(0, .long p0), (2, .long p1)] → W p l e { frames := 0, cells := 0, slots := 0, locals := 0 } s m args below meth c H locs 0 0 (MQ below (zz_QL (dC, dI) (zz_T cI cJ cZ) A (fun _ : Unit => []) o) args s 0 0 A) (F0 m 0 ls []) := by
  obtain ⟨⟨hx, hb, hml, hown, hts⟩, hr, hlocks⟩ := id C0
  unfold zf_X8_sharedDivisor at h
  intro H locs ls hP hD hS hl
  refine lv_lload_n hx hb dX8_sharedDivisor_0 rfl (lv_at hl 0 rfl) ?_
  refine lv_lstore (lv' := [(4, .long p0), (0, .long p0), (2, .long p1)]) hx hb dX8_sharedDivisor_1 hl (by decide) rfl (fun ls hl => ?_)
  refine lv_lload_n hx hb dX8_sharedDivisor_3 rfl (lv_at hl 2 rfl) ?_
  refine lv_lstore (lv' := [(6, .long p1), (4, .long p0), (0, .long p0), (2, .long p1)]) hx hb dX8_sharedDivisor_4 hl (by decide) rfl (fun ls hl => ?_)
  refine lv_iconst (v := (0 : Int32)) hx hb dX8_sharedDivisor_6 (by decide) ?_
  refine lv_istore (lv' := [(8, .int (0 : Int32)), (6, .long p1), (4, .long p0), (0, .long p0), (2, .long p1)]) hx hb dX8_sharedDivisor_7 hl (by decide) rfl (fun ls hl => ?_)
  exact zw_X8_sharedDivisor_9 C0 hE hA  zfuel p0 p1 (0 : Int32) h _ _ _ hP hD hS (lv_sub hl [2, 1, 0] rfl)
set_option maxHeartbeats 4000000 in
set_option maxRecDepth 100000 in
theorem zc_X8_sharedDivisor (l : Launch) (dC : Nat → ClassId) (dI : Nat → Nat → Nat) (cI cJ cZ : ClassId) (sz : Nat) (p0 : Int64) (p1 : Int64) {o : Int64} (h : zf_X8_sharedDivisor p0 p1 = some o) : Met l yX8_sharedDivisor wsX8_sharedDivisor { frames := 0, cells := 0, slots := 0, locals := 0 } (zz_PC (dC, dI) (zz_T cI cJ cZ) [.long p0, .long p1] sz []) (zz_QL (dC, dI) (zz_T cI cJ cZ) (va_A [] sz) (fun _ : Unit => []) o) 0 0 (va_A [] sz) := by
  refine zz_met (own := RX8) (cc := cX8_sharedDivisor) (maxL := 11) (ret := some .long) (by decide) rfl rfl (Nat.le_of_ble_eq_true rfl) ?_
  intro p e s m below meth c ls hsz C0 hE hin hl hP hD
  subst hsz
  exact zw_X8_sharedDivisor C0 hE (fun q hq => Or.inr hq) h _ _ _ hP hD va_S.rf hl
/-! X8_leastTerms : PlateLast.leastTerms(JJZ)J -/
set_option maxHeartbeats 4000000 in
set_option maxRecDepth 100000 in
theorem zw_X8_leastTerms {p : Program} {l : Launch} {e : Env} {s : State} {m : MethodId} {args : Array Value} {below : List Frame} {meth : Method} {c : Code} {dC : Nat → ClassId} {dI : Nat → Nat → Nat} {cI cJ cZ : ClassId} {A : Nat → Prop} {o : Int64} (C0 : zz_C p s m args meth c cX8_leastTerms 7 RX8 wsX8_leastTerms (some .long)) (hE : zz_EV (dC, dI) (zz_T cI cJ cZ) s) (hA : ∀ q : Nat, s.heap.size ≤ q → A q) {p0 : Int64} {p1 : Int64} {p2 : Int32} (h : zf_X8_leastTerms p0 p1 p2 = some o) : ∀ (H : Heap) (locs : List Loc) (ls : Array Slot), va_P (dC, dI) vwCl [] H → va_D A [] → va_S A s.heap H locs → lv_has ls 7 [(0, .long p0), (2, .long p1), (4, .int p2)] → W p l e { frames := 1, cells := 0, slots := 0, locals := 30 } s m args below meth c H locs 0 0 (MQ below (zz_QL (dC, dI) (zz_T cI cJ cZ) A (fun _ : Unit => []) o) args s 0 0 A) (F0 m 0 ls []) := by
  obtain ⟨⟨hx, hb, hml, hown, hts⟩, hr, hlocks⟩ := id C0
  unfold zf_X8_leastTerms at h
  intro H locs ls hP hD hS hl
  refine lv_lload_n hx hb dX8_leastTerms_0 rfl (lv_at hl 0 rfl) ?_
  refine lv_lload_n hx hb dX8_leastTerms_1 rfl (lv_at hl 1 rfl) ?_
  obtain ⟨x_1, hcl_2, h⟩ := zz_bd h
  refine zk_cl (wr := []) (va_runS (As := [.long p0, .long p1]) (rest := []) C0.1 (zc_X8_sharedDivisor l dC dI cI cJ cZ _ p0 p1 hcl_2) (cwS 2 hts gX8_leastTerms_X8_sharedDivisor rfl rfl rfl (by decide +kernel) ⟨Nat.le_of_ble_eq_true rfl, Nat.le_of_ble_eq_true rfl⟩) (zz_preS (wc := []) hE hP hD [] rfl rfl (by decide)) rfl rfl hl.1 rfl (lv_room (Nat.le_of_ble_eq_true rfl)) dX8_leastTerms_2 ⟨Nat.zero_le _, Nat.zero_le _⟩) hP hD hS hA [] [] rfl rfl (by decide) (by decide) (fun u H locs hP hD hS => ?_)
  have hP : va_P (dC, dI) vwCl [] H := hP
  have hD : va_D A [] := hD
  refine lv_lstore (lv' := [(5, .long x_1), (0, .long p0), (2, .long p1), (4, .int p2)]) hx hb dX8_leastTerms_5 hl (by decide) rfl (fun ls hl => ?_)
  refine lv_lload hx hb dX8_leastTerms_7 (lv_at hl 0 rfl) ?_
  refine lv_lconst (v := (1 : Int64)) hx hb dX8_leastTerms_9 (by decide) ?_
  refine W.lcmp hx hb dX8_leastTerms_10 ?_
  refine lv_if_ge (tgt := 25) hx hb dX8_leastTerms_11 (by decide) (fun hc_3 => ?_) (fun hc_3 => ?_)
  · have h := zz_t hc_3 h
    refine lv_iload hx hb dX8_leastTerms_25 (lv_at hl 3 rfl) ?_
    refine lv_if_eq (tgt := 37) hx hb dX8_leastTerms_27 (by decide) (fun hc_4 => ?_) (fun hc_4 => ?_)
    · have h := zz_t hc_4 h
      refine lv_lload_n hx hb dX8_leastTerms_37 rfl (lv_at hl 2 rfl) ?_
      refine lv_lload hx hb dX8_leastTerms_38 (lv_at hl 0 rfl) ?_
      obtain ⟨hnz_5, h⟩ := zz_nn h
      refine lv_ldiv hx hb dX8_leastTerms_40 hnz_5 ?_
      obtain rfl := Option.some.inj h
      exact zk_lret hx hb hr hlocks hE () hP hD hS rfl dX8_leastTerms_41
    have h := zz_f hc_4 h
    refine lv_lload_n hx hb dX8_leastTerms_30 rfl (lv_at hl 1 rfl) ?_
    refine lv_lload hx hb dX8_leastTerms_31 (lv_at hl 0 rfl) ?_
    obtain ⟨hnz_6, h⟩ := zz_nn h
    refine lv_ldiv hx hb dX8_leastTerms_33 hnz_6 ?_
    refine lv_goto (tgt := 41) hx hb dX8_leastTerms_34 (by decide) ?_
    obtain rfl := Option.some.inj h
    exact zk_lret hx hb hr hlocks hE () hP hD hS rfl dX8_leastTerms_41
  have h := zz_f hc_3 h
  refine lv_iload hx hb dX8_leastTerms_14 (lv_at hl 3 rfl) ?_
  refine lv_if_eq (tgt := 23) hx hb dX8_leastTerms_16 (by decide) (fun hc_7 => ?_) (fun hc_7 => ?_)
  · have h := zz_t hc_7 h
    refine lv_lload_n hx hb dX8_leastTerms_23 rfl (lv_at hl 2 rfl) ?_
    obtain rfl := Option.some.inj h
    exact zk_lret hx hb hr hlocks hE () hP hD hS rfl dX8_leastTerms_24
  have h := zz_f hc_7 h
  refine lv_lload_n hx hb dX8_leastTerms_19 rfl (lv_at hl 1 rfl) ?_
  refine lv_goto (tgt := 24) hx hb dX8_leastTerms_20 (by decide) ?_
  obtain rfl := Option.some.inj h
  exact zk_lret hx hb hr hlocks hE () hP hD hS rfl dX8_leastTerms_24
set_option maxHeartbeats 4000000 in
set_option maxRecDepth 100000 in
theorem zc_X8_leastTerms (l : Launch) (dC : Nat → ClassId) (dI : Nat → Nat → Nat) (cI cJ cZ : ClassId) (sz : Nat) (p0 : Int64) (p1 : Int64) (p2 : Int32) {o : Int64} (h : zf_X8_leastTerms p0 p1 p2 = some o) : Met l yX8_leastTerms wsX8_leastTerms { frames := 1, cells := 0, slots := 0, locals := 30 } (zz_PC (dC, dI) (zz_T cI cJ cZ) [.long p0, .long p1, .int p2] sz []) (zz_QL (dC, dI) (zz_T cI cJ cZ) (va_A [] sz) (fun _ : Unit => []) o) 0 0 (va_A [] sz) := by
  refine zz_met (own := RX8) (cc := cX8_leastTerms) (maxL := 7) (ret := some .long) (by decide) rfl rfl (Nat.le_of_ble_eq_true rfl) ?_
  intro p e s m below meth c ls hsz C0 hE hin hl hP hD
  subst hsz
  exact zw_X8_leastTerms C0 hE (fun q hq => Or.inr hq) h _ _ _ hP hD va_S.rf hl
/-! X8_isNoRow : PlateLast.isNoRow(II)Z -/
theorem zl_X8_isNoRow_0 : Cond.constantLong RX8 137 (10) ∈ wsX8_isNoRow := by decide +kernel
set_option maxHeartbeats 4000000 in
set_option maxRecDepth 100000 in
theorem zw_X8_isNoRow_28 {p : Program} {l : Launch} {e : Env} {s : State} {m : MethodId} {args : Array Value} {below : List Frame} {meth : Method} {c : Code} {dC : Nat → ClassId} {dI : Nat → Nat → Nat} {cI cJ cZ : ClassId} {A : Nat → Prop} {o : Int32} (C0 : zz_C p s m args meth c cX8_isNoRow 2 RX8 wsX8_isNoRow (some .boolean)) (hE : zz_EV (dC, dI) (zz_T cI cJ cZ) s) (hA : ∀ q : Nat, s.heap.size ≤ q → A q) (h : zf_X8_isNoRow_28 = some o) : ∀ (H : Heap) (locs : List Loc) (ls : Array Slot), va_P (dC, dI) vwCl [] H → va_D A [] → va_S A s.heap H locs → lv_has ls 2 [] → W p l e { frames := 1, cells := 0, slots := 0, locals := 25 } s m args below meth c H locs 0 0 (MQ below (zz_QI (dC, dI) (zz_T cI cJ cZ) A (fun _ : Unit => []) o) args s 0 0 A) (F0 m 28 ls []) := by
  obtain ⟨⟨hx, hb, hml, hown, hts⟩, hr, hlocks⟩ := id C0
  unfold zf_X8_isNoRow_28 at h
  intro H locs ls hP hD hS hl
  refine lv_iconst (v := (1 : Int32)) hx hb dX8_isNoRow_28 (by decide) ?_
  refine lv_goto (tgt := 33) hx hb dX8_isNoRow_29 (by decide) ?_
  obtain rfl := Option.some.inj h
  exact zk_zret hx hb hr hlocks rfl hE () hP hD hS rfl dX8_isNoRow_33
set_option maxHeartbeats 4000000 in
set_option maxRecDepth 100000 in
theorem zw_X8_isNoRow {p : Program} {l : Launch} {e : Env} {s : State} {m : MethodId} {args : Array Value} {below : List Frame} {meth : Method} {c : Code} {dC : Nat → ClassId} {dI : Nat → Nat → Nat} {cI cJ cZ : ClassId} {A : Nat → Prop} {o : Int32} (C0 : zz_C p s m args meth c cX8_isNoRow 2 RX8 wsX8_isNoRow (some .boolean)) (hE : zz_EV (dC, dI) (zz_T cI cJ cZ) s) (hA : ∀ q : Nat, s.heap.size ≤ q → A q) {p0 : Int32} {p1 : Int32} (h : zf_X8_isNoRow p0 p1 = some o) : ∀ (H : Heap) (locs : List Loc) (ls : Array Slot), va_P (dC, dI) vwCl [] H → va_D A [] → va_S A s.heap H locs → lv_has ls 2 [(0, .int p0), (1, .int p1)] → W p l e { frames := 1, cells := 0, slots := 0, locals := 25 } s m args below meth c H locs 0 0 (MQ below (zz_QI (dC, dI) (zz_T cI cJ cZ) A (fun _ : Unit => []) o) args s 0 0 A) (F0 m 0 ls []) := by
  obtain ⟨⟨hx, hb, hml, hown, hts⟩, hr, hlocks⟩ := id C0
  unfold zf_X8_isNoRow at h
  intro H locs ls hP hD hS hl
  refine lv_iload_n hx hb dX8_isNoRow_0 rfl (lv_at hl 0 rfl) ?_
  refine lv_iconst (v := (1 : Int32)) hx hb dX8_isNoRow_1 (by decide) ?_
  refine lv_icmp_lt (tgt := 28) hx hb dX8_isNoRow_2 (by decide) (fun hc_1 => ?_) (fun hc_1 => ?_)
  · have h := zz_t hc_1 h
    exact zw_X8_isNoRow_28 C0 hE hA  h _ _ _ hP hD hS (lv_sub hl [] rfl)
  have h := zz_f hc_1 h
  refine lv_iload_n hx hb dX8_isNoRow_5 rfl (lv_at hl 0 rfl) ?_
  refine lv_bipush (v := (9 : Int32)) hx hb dX8_isNoRow_6 (by decide) ?_
  refine lv_icmp_gt (tgt := 28) hx hb dX8_isNoRow_8 (by decide) (fun hc_2 => ?_) (fun hc_2 => ?_)
  · have h := zz_t hc_2 h
    exact zw_X8_isNoRow_28 C0 hE hA  h _ _ _ hP hD hS (lv_sub hl [] rfl)
  have h := zz_f hc_2 h
  refine lv_iload_n hx hb dX8_isNoRow_11 rfl (lv_at hl 1 rfl) ?_
  refine lv_if_lt (tgt := 28) hx hb dX8_isNoRow_12 (by decide) (fun hc_3 => ?_) (fun hc_3 => ?_)
  · have h := zz_t hc_3 h
    exact zw_X8_isNoRow_28 C0 hE hA  h _ _ _ hP hD hS (lv_sub hl [] rfl)
  have h := zz_f hc_3 h
  refine lv_iload_n hx hb dX8_isNoRow_15 rfl (lv_at hl 1 rfl) ?_
  refine lv_i2l hx hb dX8_isNoRow_16 rfl ?_
  refine lv_ldc2 (v := (10 : Int64)) hx hb hown (hts _ zl_X8_isNoRow_0) dX8_isNoRow_17 ?_
  refine lv_iload_n hx hb dX8_isNoRow_20 rfl (lv_at hl 0 rfl) ?_
  obtain ⟨x_4, hcl_5, h⟩ := zz_bd h
  refine zk_cl (wr := []) (va_runS (As := [.long (10 : Int64), .int p0]) (rest := [.long (p1).toInt64]) C0.1 (zc_X8_power l dC dI cI cJ cZ _ (10 : Int64) p0 hcl_5) (cwS 2 hts gX8_isNoRow_X8_power rfl rfl rfl (by decide +kernel) ⟨Nat.le_of_ble_eq_true rfl, Nat.le_of_ble_eq_true rfl⟩) (zz_preS (wc := []) hE hP hD [] rfl rfl (by decide)) rfl rfl hl.1 rfl (lv_room (Nat.le_of_ble_eq_true rfl)) dX8_isNoRow_21 ⟨Nat.zero_le _, Nat.zero_le _⟩) hP hD hS hA [] [] rfl rfl (by decide) (by decide) (fun u H locs hP hD hS => ?_)
  have hP : va_P (dC, dI) vwCl [] H := hP
  have hD : va_D A [] := hD
  refine W.lcmp hx hb dX8_isNoRow_24 ?_
  refine lv_if_lt (tgt := 32) hx hb dX8_isNoRow_25 (by decide) (fun hc_6 => ?_) (fun hc_6 => ?_)
  · have h := zz_t hc_6 h
    refine lv_iconst (v := (0 : Int32)) hx hb dX8_isNoRow_32 (by decide) ?_
    obtain rfl := Option.some.inj h
    exact zk_zret hx hb hr hlocks rfl hE () hP hD hS rfl dX8_isNoRow_33
  have h := zz_f hc_6 h
  exact zw_X8_isNoRow_28 C0 hE hA  h _ _ _ hP hD hS (lv_sub hl [] rfl)
set_option maxHeartbeats 4000000 in
set_option maxRecDepth 100000 in
theorem zc_X8_isNoRow (l : Launch) (dC : Nat → ClassId) (dI : Nat → Nat → Nat) (cI cJ cZ : ClassId) (sz : Nat) (p0 : Int32) (p1 : Int32) {o : Int32} (h : zf_X8_isNoRow p0 p1 = some o) : Met l yX8_isNoRow wsX8_isNoRow { frames := 1, cells := 0, slots := 0, locals := 25 } (zz_PC (dC, dI) (zz_T cI cJ cZ) [.int p0, .int p1] sz []) (zz_QI (dC, dI) (zz_T cI cJ cZ) (va_A [] sz) (fun _ : Unit => []) o) 0 0 (va_A [] sz) := by
  refine zz_met (own := RX8) (cc := cX8_isNoRow) (maxL := 2) (ret := some .boolean) (by decide) rfl rfl (Nat.le_of_ble_eq_true rfl) ?_
  intro p e s m below meth c ls hsz C0 hE hin hl hP hD
  subst hsz
  exact zw_X8_isNoRow C0 hE (fun q hq => Or.inr hq) h _ _ _ hP hD va_S.rf hl
/-! X8_ringWeight : PlateLast.ringWeight(I)J -/
theorem zi_X8_ringWeight_8 : ∀ w ∈ u_ws RX8 TX8 9, w ∈ wsX8_ringWeight := by decide +kernel
theorem zl_X8_ringWeight_1 : Cond.fieldLink RX8 23 "PlateLast" "net" "LPlateLast$Net;" ∈ wsX8_ringWeight := by decide +kernel
theorem zi_X8_ringWeight_3 : ∀ w ∈ u_ws RX3 TX3 6, w ∈ wsX8_ringWeight := by decide +kernel
theorem zl_X8_ringWeight_3 : Cond.fieldLink RX8 162 "PlateLast$Net" "penny" "I" ∈ wsX8_ringWeight := by decide +kernel
theorem zl_X8_ringWeight_4 : Cond.fieldLink RX8 100 "PlateLast$Net" "seats" "I" ∈ wsX8_ringWeight := by decide +kernel
set_option maxHeartbeats 4000000 in
set_option maxRecDepth 100000 in
theorem zw_X8_ringWeight {p : Program} {l : Launch} {e : Env} {s : State} {m : MethodId} {args : Array Value} {below : List Frame} {meth : Method} {c : Code} {dC : Nat → ClassId} {dI : Nat → Nat → Nat} {cI cJ cZ : ClassId} {A : Nat → Prop} {a_th a_th_text a_th_draft a_th_net a_th_net_tenths a_th_net_toldFrom a_th_net_wayCount a_th_night a_th_slots a_th_chances a_th_means a_th_rows a_th_evenings : Nat} {th_net_kind : Int32} {th_net_seats : Int32} {th_net_penny : Int32} {o : Int64} (C0 : zz_C p s m args meth c cX8_ringWeight 2 RX8 wsX8_ringWeight (some .long)) (hE : zz_EV (dC, dI) (zz_T cI cJ cZ) s) (hA : ∀ q : Nat, s.heap.size ≤ q → A q) {p0 : Int32} (h : zf_X8_ringWeight p0 th_net_seats th_net_penny = some o) : ∀ (H : Heap) (locs : List Loc) (ls : Array Slot), va_P (dC, dI) vwCl [(a_th, .inr (8, [.ref a_th_text, .ref a_th_draft, .ref a_th_net, .ref a_th_night, .ref a_th_slots, .ref a_th_chances, .ref a_th_means, .ref a_th_rows, .ref a_th_evenings])), (a_th_net, .inr (3, [.ref a_th_net_tenths, .ref a_th_net_toldFrom, .ref a_th_net_wayCount, .int th_net_seats, .int th_net_kind, .int th_net_penny]))] H → va_D A [(a_th, .inr (8, [.ref a_th_text, .ref a_th_draft, .ref a_th_net, .ref a_th_night, .ref a_th_slots, .ref a_th_chances, .ref a_th_means, .ref a_th_rows, .ref a_th_evenings])), (a_th_net, .inr (3, [.ref a_th_net_tenths, .ref a_th_net_toldFrom, .ref a_th_net_wayCount, .int th_net_seats, .int th_net_kind, .int th_net_penny]))] → va_S A s.heap H locs → lv_has ls 2 [(0, .ref a_th), (1, .int p0)] → W p l e { frames := 1, cells := 0, slots := 0, locals := 25 } s m args below meth c H locs 0 0 (MQ below (zz_QL (dC, dI) (zz_T cI cJ cZ) A (fun _ : Unit => [(a_th, .inr (8, [.ref a_th_text, .ref a_th_draft, .ref a_th_net, .ref a_th_night, .ref a_th_slots, .ref a_th_chances, .ref a_th_means, .ref a_th_rows, .ref a_th_evenings])), (a_th_net, .inr (3, [.ref a_th_net_tenths, .ref a_th_net_toldFrom, .ref a_th_net_wayCount, .int th_net_seats, .int th_net_kind, .int th_net_penny]))]) o) args s 0 0 A) (F0 m 0 ls []) := by
  obtain ⟨⟨hx, hb, hml, hown, hts⟩, hr, hlocks⟩ := id C0
  unfold zf_X8_ringWeight at h
  intro H locs ls hP hD hS hl
  refine lv_aload_n hx hb dX8_ringWeight_0 rfl (lv_at hl 0 rfl) ?_
  refine va_get (D := (dC, dI)) (ci := 8) (v := .ref a_th_net) (C := RX8) (T := TX8) (N := 9) hx hb hts zi_X8_ringWeight_8 hown hE.1 hP 0 rfl rfl 2 (by decide) (hts _ zl_X8_ringWeight_1) (fun _ h9 => h9) rfl dX8_ringWeight_1 ?_
  refine va_get (D := (dC, dI)) (ci := 3) (v := .int th_net_penny) (C := RX3) (T := TX3) (N := 6) hx hb hts zi_X8_ringWeight_3 hown hE.1 hP 1 rfl rfl 5 (by decide) (hts _ zl_X8_ringWeight_3) (fun _ h9 => h9) rfl dX8_ringWeight_4 ?_
  refine lv_i2l hx hb dX8_ringWeight_7 rfl ?_
  refine lv_iload_n hx hb dX8_ringWeight_8 rfl (lv_at hl 1 rfl) ?_
  refine lv_iconst (v := (1 : Int32)) hx hb dX8_ringWeight_9 (by decide) ?_
  refine lv_isub hx hb dX8_ringWeight_10 ?_
  obtain ⟨x_1, hcl_2, h⟩ := zz_bd h
  refine zk_cl (wr := [(a_th, .inr (8, [.ref a_th_text, .ref a_th_draft, .ref a_th_net, .ref a_th_night, .ref a_th_slots, .ref a_th_chances, .ref a_th_means, .ref a_th_rows, .ref a_th_evenings])), (a_th_net, .inr (3, [.ref a_th_net_tenths, .ref a_th_net_toldFrom, .ref a_th_net_wayCount, .int th_net_seats, .int th_net_kind, .int th_net_penny]))]) (va_runS (As := [.long (th_net_penny).toInt64, .int (p0 - (1 : Int32))]) (rest := []) C0.1 (zc_X8_power l dC dI cI cJ cZ _ (th_net_penny).toInt64 (p0 - (1 : Int32)) hcl_2) (cwS 2 hts gX8_ringWeight_X8_power rfl rfl rfl (by decide +kernel) ⟨Nat.le_of_ble_eq_true rfl, Nat.le_of_ble_eq_true rfl⟩) (zz_preS (wc := []) hE hP hD [] rfl rfl (by decide)) rfl rfl hl.1 rfl (lv_room (Nat.le_of_ble_eq_true rfl)) dX8_ringWeight_11 ⟨Nat.zero_le _, Nat.zero_le _⟩) hP hD hS hA [] [0, 1] rfl rfl (by decide) (by decide) (fun u H locs hP hD hS => ?_)
  have hP : va_P (dC, dI) vwCl [(a_th, .inr (8, [.ref a_th_text, .ref a_th_draft, .ref a_th_net, .ref a_th_night, .ref a_th_slots, .ref a_th_chances, .ref a_th_means, .ref a_th_rows, .ref a_th_evenings])), (a_th_net, .inr (3, [.ref a_th_net_tenths, .ref a_th_net_toldFrom, .ref a_th_net_wayCount, .int th_net_seats, .int th_net_kind, .int th_net_penny]))] H := hP
  have hD : va_D A [(a_th, .inr (8, [.ref a_th_text, .ref a_th_draft, .ref a_th_net, .ref a_th_night, .ref a_th_slots, .ref a_th_chances, .ref a_th_means, .ref a_th_rows, .ref a_th_evenings])), (a_th_net, .inr (3, [.ref a_th_net_tenths, .ref a_th_net_toldFrom, .ref a_th_net_wayCount, .int th_net_seats, .int th_net_kind, .int th_net_penny]))] := hD
  refine lv_bipush (v := (10 : Int32)) hx hb dX8_ringWeight_14 (by decide) ?_
  refine lv_aload_n hx hb dX8_ringWeight_16 rfl (lv_at hl 0 rfl) ?_
  refine va_get (D := (dC, dI)) (ci := 8) (v := .ref a_th_net) (C := RX8) (T := TX8) (N := 9) hx hb hts zi_X8_ringWeight_8 hown hE.1 hP 0 rfl rfl 2 (by decide) (hts _ zl_X8_ringWeight_1) (fun _ h9 => h9) rfl dX8_ringWeight_17 ?_
  refine va_get (D := (dC, dI)) (ci := 3) (v := .int th_net_penny) (C := RX3) (T := TX3) (N := 6) hx hb hts zi_X8_ringWeight_3 hown hE.1 hP 1 rfl rfl 5 (by decide) (hts _ zl_X8_ringWeight_3) (fun _ h9 => h9) rfl dX8_ringWeight_20 ?_
  refine lv_isub hx hb dX8_ringWeight_23 ?_
  refine lv_i2l hx hb dX8_ringWeight_24 rfl ?_
  refine lv_aload_n hx hb dX8_ringWeight_25 rfl (lv_at hl 0 rfl) ?_
  refine va_get (D := (dC, dI)) (ci := 8) (v := .ref a_th_net) (C := RX8) (T := TX8) (N := 9) hx hb hts zi_X8_ringWeight_8 hown hE.1 hP 0 rfl rfl 2 (by decide) (hts _ zl_X8_ringWeight_1) (fun _ h9 => h9) rfl dX8_ringWeight_26 ?_
  refine va_get (D := (dC, dI)) (ci := 3) (v := .int th_net_seats) (C := RX3) (T := TX3) (N := 6) hx hb hts zi_X8_ringWeight_3 hown hE.1 hP 1 rfl rfl 3 (by decide) (hts _ zl_X8_ringWeight_4) (fun _ h9 => h9) rfl dX8_ringWeight_29 ?_
  refine lv_iconst (v := (1 : Int32)) hx hb dX8_ringWeight_32 (by decide) ?_
  refine lv_isub hx hb dX8_ringWeight_33 ?_
  refine lv_iload_n hx hb dX8_ringWeight_34 rfl (lv_at hl 1 rfl) ?_
  refine lv_isub hx hb dX8_ringWeight_35 ?_
  obtain ⟨x_3, hcl_4, h⟩ := zz_bd h
  refine zk_cl (wr := [(a_th, .inr (8, [.ref a_th_text, .ref a_th_draft, .ref a_th_net, .ref a_th_night, .ref a_th_slots, .ref a_th_chances, .ref a_th_means, .ref a_th_rows, .ref a_th_evenings])), (a_th_net, .inr (3, [.ref a_th_net_tenths, .ref a_th_net_toldFrom, .ref a_th_net_wayCount, .int th_net_seats, .int th_net_kind, .int th_net_penny]))]) (va_runS (As := [.long (((10 : Int32) - th_net_penny)).toInt64, .int ((th_net_seats - (1 : Int32)) - p0)]) (rest := [.long x_1]) C0.1 (zc_X8_power l dC dI cI cJ cZ _ (((10 : Int32) - th_net_penny)).toInt64 ((th_net_seats - (1 : Int32)) - p0) hcl_4) (cwS 2 hts gX8_ringWeight_X8_power rfl rfl rfl (by decide +kernel) ⟨Nat.le_of_ble_eq_true rfl, Nat.le_of_ble_eq_true rfl⟩) (zz_preS (wc := []) hE hP hD [] rfl rfl (by decide)) rfl rfl hl.1 rfl (lv_room (Nat.le_of_ble_eq_true rfl)) dX8_ringWeight_36 ⟨Nat.zero_le _, Nat.zero_le _⟩) hP hD hS hA [] [0, 1] rfl rfl (by decide) (by decide) (fun u H locs hP hD hS => ?_)
  have hP : va_P (dC, dI) vwCl [(a_th, .inr (8, [.ref a_th_text, .ref a_th_draft, .ref a_th_net, .ref a_th_night, .ref a_th_slots, .ref a_th_chances, .ref a_th_means, .ref a_th_rows, .ref a_th_evenings])), (a_th_net, .inr (3, [.ref a_th_net_tenths, .ref a_th_net_toldFrom, .ref a_th_net_wayCount, .int th_net_seats, .int th_net_kind, .int th_net_penny]))] H := hP
  have hD : va_D A [(a_th, .inr (8, [.ref a_th_text, .ref a_th_draft, .ref a_th_net, .ref a_th_night, .ref a_th_slots, .ref a_th_chances, .ref a_th_means, .ref a_th_rows, .ref a_th_evenings])), (a_th_net, .inr (3, [.ref a_th_net_tenths, .ref a_th_net_toldFrom, .ref a_th_net_wayCount, .int th_net_seats, .int th_net_kind, .int th_net_penny]))] := hD
  refine lv_lmul hx hb dX8_ringWeight_39 ?_
  obtain rfl := Option.some.inj h
  exact zk_lret hx hb hr hlocks hE () hP hD hS rfl dX8_ringWeight_40
set_option maxHeartbeats 4000000 in
set_option maxRecDepth 100000 in
theorem zc_X8_ringWeight (l : Launch) (dC : Nat → ClassId) (dI : Nat → Nat → Nat) (cI cJ cZ : ClassId) (sz : Nat) (a_th a_th_text a_th_draft a_th_net a_th_net_tenths a_th_net_toldFrom a_th_net_wayCount a_th_night a_th_slots a_th_chances a_th_means a_th_rows a_th_evenings : Nat) (th_net_kind : Int32) (th_net_seats : Int32) (th_net_penny : Int32) (p0 : Int32) {o : Int64} (h : zf_X8_ringWeight p0 th_net_seats th_net_penny = some o) : Met l yX8_ringWeight wsX8_ringWeight { frames := 1, cells := 0, slots := 0, locals := 25 } (zz_PC (dC, dI) (zz_T cI cJ cZ) [.ref a_th, .int p0] sz [(a_th, .inr (8, [.ref a_th_text, .ref a_th_draft, .ref a_th_net, .ref a_th_night, .ref a_th_slots, .ref a_th_chances, .ref a_th_means, .ref a_th_rows, .ref a_th_evenings])), (a_th_net, .inr (3, [.ref a_th_net_tenths, .ref a_th_net_toldFrom, .ref a_th_net_wayCount, .int th_net_seats, .int th_net_kind, .int th_net_penny]))]) (zz_QL (dC, dI) (zz_T cI cJ cZ) (va_A [(a_th, .inr (8, [.ref a_th_text, .ref a_th_draft, .ref a_th_net, .ref a_th_night, .ref a_th_slots, .ref a_th_chances, .ref a_th_means, .ref a_th_rows, .ref a_th_evenings])), (a_th_net, .inr (3, [.ref a_th_net_tenths, .ref a_th_net_toldFrom, .ref a_th_net_wayCount, .int th_net_seats, .int th_net_kind, .int th_net_penny]))] sz) (fun _ : Unit => [(a_th, .inr (8, [.ref a_th_text, .ref a_th_draft, .ref a_th_net, .ref a_th_night, .ref a_th_slots, .ref a_th_chances, .ref a_th_means, .ref a_th_rows, .ref a_th_evenings])), (a_th_net, .inr (3, [.ref a_th_net_tenths, .ref a_th_net_toldFrom, .ref a_th_net_wayCount, .int th_net_seats, .int th_net_kind, .int th_net_penny]))]) o) 0 0 (va_A [(a_th, .inr (8, [.ref a_th_text, .ref a_th_draft, .ref a_th_net, .ref a_th_night, .ref a_th_slots, .ref a_th_chances, .ref a_th_means, .ref a_th_rows, .ref a_th_evenings])), (a_th_net, .inr (3, [.ref a_th_net_tenths, .ref a_th_net_toldFrom, .ref a_th_net_wayCount, .int th_net_seats, .int th_net_kind, .int th_net_penny]))] sz) := by
  refine zz_met (own := RX8) (cc := cX8_ringWeight) (maxL := 2) (ret := some .long) (by decide) rfl rfl (Nat.le_of_ble_eq_true rfl) ?_
  intro p e s m below meth c ls hsz C0 hE hin hl hP hD
  subst hsz
  exact zw_X8_ringWeight C0 hE (fun q hq => Or.inr hq) h _ _ _ hP hD va_S.rf hl
