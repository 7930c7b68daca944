/-! X6_clear : PlateLast$Spread.clear()V -/
set_option maxRecDepth 100000 in
def zf_X6_clear_48 (th_live : (Nat → Int32)) (th_weights : (Nat → Int64)) (th_size : Int32) : Option ((Nat → Int64) × Int32) := (some (th_weights, (0 : Int32)))
set_option maxRecDepth 100000 in
def zf_X6_clear_42 (th_live : (Nat → Int32)) (k2 : (Nat → Int64) → Int32 → Int32 → Option ((Nat → Int64) × Int32)) (th_weights : (Nat → Int64)) (th_size : Int32) (v1 : Int32) : Option ((Nat → Int64) × Int32) := (k2 th_weights th_size (v1 + (1 : Int32)))
set_option maxRecDepth 100000 in
def zf_X6_clear_2_b (th_live : (Nat → Int32)) (k2 : (Nat → Int64) → Int32 → Int32 → Option ((Nat → Int64) × Int32)) (th_weights : (Nat → Int64)) (th_size : Int32) (v1 : Int32) : Option ((Nat → Int64) × Int32) := (if th_size ≤ v1 then (zf_X6_clear_48 th_live th_weights th_size) else (if (2048 : Int32) ≤ v1 then (zf_X6_clear_48 th_live th_weights th_size) else (if v1 < 0 ∨ 2048 ≤ (v1).toNatClampNeg then none else (if (th_live (v1).toNatClampNeg) < 0 then (zf_X6_clear_42 th_live k2 th_weights th_size v1) else (if (2048 : Int32) ≤ (th_live (v1).toNatClampNeg) then (zf_X6_clear_42 th_live k2 th_weights th_size v1) else (if (th_live (v1).toNatClampNeg) < 0 ∨ 2048 ≤ ((th_live (v1).toNatClampNeg)).toNatClampNeg then none else (zf_X6_clear_42 th_live k2 (vp_updL th_weights ((th_live (v1).toNatClampNeg)).toNatClampNeg (0 : Int64)) th_size v1)))))))
def zf_X6_clear_2 (th_live : (Nat → Int32)) : Nat → (Nat → Int64) → Int32 → Int32 → Option ((Nat → Int64) × Int32)
  | 0 => fun _ _ _ => none
  | n + 1 => fun th_weights th_size v1 => zf_X6_clear_2_b th_live (zf_X6_clear_2 th_live n) th_weights th_size v1
set_option maxRecDepth 100000 in
def zf_X6_clear (th_live : (Nat → Int32)) (th_weights : (Nat → Int64)) (th_size : Int32) : Option ((Nat → Int64) × Int32) := (zf_X6_clear_2 th_live zfuel th_weights th_size (0 : Int32))
/-! X6_add : PlateLast$Spread.add(IJ)V -/
set_option maxRecDepth 100000 in
def zf_X6_add_66 (th_weights : (Nat → Int64)) (th_live : (Nat → Int32)) (th_size : Int32) (v1 : Int32) (v2 : Int64) : Option ((Nat → Int64) × (Nat → Int32) × Int32) := (if v1 < 0 ∨ 2048 ≤ (v1).toNatClampNeg then none else (some ((vp_updL th_weights (v1).toNatClampNeg ((th_weights (v1).toNatClampNeg) + v2)), th_live, th_size)))
set_option maxRecDepth 100000 in
def zf_X6_add (p0 : Int32) (p1 : Int64) (th_weights : (Nat → Int64)) (th_live : (Nat → Int32)) (th_size : Int32) : Option ((Nat → Int64) × (Nat → Int32) × Int32) := (if (lg_cmp p1 (0 : Int64)) = 0 then (some (th_weights, th_live, th_size)) else (if p0 < 0 then (some (th_weights, th_live, th_size)) else (if p0 < (2048 : Int32) then (if p0 < 0 ∨ 2048 ≤ (p0).toNatClampNeg then none else (if (lg_cmp (th_weights (p0).toNatClampNeg) (0 : Int64)) = 0 then (if th_size < 0 then (zf_X6_add_66 th_weights th_live th_size p0 p1) else (if (2048 : Int32) ≤ th_size then (zf_X6_add_66 th_weights th_live th_size p0 p1) else (if th_size < 0 ∨ 2048 ≤ (th_size).toNatClampNeg then none else (zf_X6_add_66 th_weights (upd th_live (th_size).toNatClampNeg p0) (th_size + (1 : Int32)) p0 p1)))) else (zf_X6_add_66 th_weights th_live th_size p0 p1))) else (some (th_weights, th_live, th_size)))))
/-! X6_stateAt : PlateLast$Spread.stateAt(I)I -/
set_option maxRecDepth 100000 in
def zf_X6_stateAt (p0 : Int32) (th_live : (Nat → Int32)) (th_size : Int32) : Option (Int32) := (if p0 < 0 then (some (0 : Int32)) else (if th_size ≤ p0 then (some (0 : Int32)) else (if (2048 : Int32) ≤ p0 then (some (0 : Int32)) else (if p0 < 0 ∨ 2048 ≤ (p0).toNatClampNeg then none else (some (th_live (p0).toNatClampNeg))))))
/-! X6_weightOf : PlateLast$Spread.weightOf(I)J -/
set_option maxRecDepth 100000 in
def zf_X6_weightOf (p0 : Int32) (th_weights : (Nat → Int64)) : Option (Int64) := (if p0 < 0 then (some (0 : Int64)) else (if (2048 : Int32) ≤ p0 then (some (0 : Int64)) else (if p0 < 0 ∨ 2048 ≤ (p0).toNatClampNeg then none else (some (th_weights (p0).toNatClampNeg)))))
/-! X6_clear : PlateLast$Spread.clear()V -/
theorem zi_X6_clear_6 : ∀ w ∈ u_ws RX6 TX6 3, w ∈ wsX6_clear := by decide +kernel
theorem zl_X6_clear_1 : Cond.fieldLink RX6 19 "PlateLast$Spread" "size" "I" ∈ wsX6_clear := by decide +kernel
theorem zl_X6_clear_2 : Cond.fieldLink RX6 15 "PlateLast$Spread" "live" "[I" ∈ wsX6_clear := by decide +kernel
theorem zl_X6_clear_3 : Cond.fieldLink RX6 11 "PlateLast$Spread" "weights" "[J" ∈ wsX6_clear := by decide +kernel
set_option maxHeartbeats 4000000 in
set_option maxRecDepth 100000 in
theorem zw_X6_clear_48 {p : Program} {l : Launch} {e : Env} {s : State} {m : MethodId} {args : Array Value} {below : List Frame} {meth : Method} {c : Code} {dC : Nat → ClassId} {dI : Nat → Nat → Nat} {cI cJ cZ : ClassId} {A : Nat → Prop} {a_th a_th_weights a_th_live : Nat} {th_live : (Nat → Int32)} {o : (Nat → Int64) × Int32} (C0 : zz_C p s m args meth c cX6_clear 3 RX6 wsX6_clear (none)) (hE : zz_EV (dC, dI) (zz_T cI cJ cZ) s) (hA : ∀ q : Nat, s.heap.size ≤ q → A q) {th_weights : (Nat → Int64)} {th_size : Int32} (h : zf_X6_clear_48 th_live th_weights th_size = some o) : ∀ (H : Heap) (locs : List Loc) (ls : Array Slot), va_P (dC, dI) vwCl [(a_th, .inr (6, [.ref a_th_weights, .ref a_th_live, .int th_size])), (a_th_weights, .inl (cJ, 2048, .inr (.inl th_weights))), (a_th_live, .inl (cI, 2048, .inl th_live))] H → va_D A [(a_th, .inr (6, [.ref a_th_weights, .ref a_th_live, .int th_size])), (a_th_weights, .inl (cJ, 2048, .inr (.inl th_weights))), (a_th_live, .inl (cI, 2048, .inl th_live))] → va_S A s.heap H locs → lv_has ls 3 [(0, .ref a_th)] → W p l e { frames := 0, cells := 0, slots := 0, locals := 0 } s m args below meth c H locs 0 0 (MQ below (zz_QV (dC, dI) (zz_T cI cJ cZ) A (fun _ : Unit => [(a_th, .inr (6, [.ref a_th_weights, .ref a_th_live, .int o.2])), (a_th_weights, .inl (cJ, 2048, .inr (.inl o.1))), (a_th_live, .inl (cI, 2048, .inl th_live))])) args s 0 0 A) (F0 m 48 ls []) := by
  obtain ⟨⟨hx, hb, hml, hown, hts⟩, hr, hlocks⟩ := id C0
  unfold zf_X6_clear_48 at h
  intro H locs ls hP hD hS hl
  refine lv_aload_n hx hb dX6_clear_48 rfl (lv_at hl 0 rfl) ?_
  refine lv_iconst (v := (0 : Int32)) hx hb dX6_clear_49 (by decide) ?_
  refine va_put (D := (dC, dI)) (ci := 6) (v := .int (0 : Int32)) (ty := .int) (C := RX6) (T := TX6) (N := 3) hx hb hts zi_X6_clear_6 tyX6 tyX6_ok nmX6 hown hE.1 hP hD hS 0 rfl rfl 2 (by decide) (hts _ zl_X6_clear_1) (fun _ h9 => h9) rfl (by decide +kernel) rfl rfl (Nat.le_of_ble_eq_true rfl) dX6_clear_50 (fun H locs hP hD hS => ?_)
  have hP : va_P (dC, dI) vwCl [(a_th, .inr (6, [.ref a_th_weights, .ref a_th_live, .int (0 : Int32)])), (a_th_weights, .inl (cJ, 2048, .inr (.inl th_weights))), (a_th_live, .inl (cI, 2048, .inl th_live))] H := hP
  have hD : va_D A [(a_th, .inr (6, [.ref a_th_weights, .ref a_th_live, .int (0 : Int32)])), (a_th_weights, .inl (cJ, 2048, .inr (.inl th_weights))), (a_th_live, .inl (cI, 2048, .inl th_live))] := hD
  obtain rfl := Option.some.inj h
  exact zk_vret hx hb hr hlocks hE () hP hD hS dX6_clear_53
set_option maxHeartbeats 4000000 in
set_option maxRecDepth 100000 in
theorem zw_X6_clear_42 {p : Program} {l : Launch} {e : Env} {s : State} {m : MethodId} {args : Array Value} {below : List Frame} {meth : Method} {c : Code} {dC : Nat → ClassId} {dI : Nat → Nat → Nat} {cI cJ cZ : ClassId} {A : Nat → Prop} {a_th a_th_weights a_th_live : Nat} {th_live : (Nat → Int32)} {o : (Nat → Int64) × Int32} (C0 : zz_C p s m args meth c cX6_clear 3 RX6 wsX6_clear (none)) (hE : zz_EV (dC, dI) (zz_T cI cJ cZ) s) (hA : ∀ q : Nat, s.heap.size ≤ q → A q) (k2 : (Nat → Int64) → Int32 → Int32 → Option ((Nat → Int64) × Int32)) (hk2 : ∀ (th_weights : (Nat → Int64)) (th_size : Int32) (v1 : Int32), k2 th_weights th_size v1 = some o → ∀ (H : Heap) (locs : List Loc) (ls : Array Slot), va_P (dC, dI) vwCl [(a_th, .inr (6, [.ref a_th_weights, .ref a_th_live, .int th_size])), (a_th_weights, .inl (cJ, 2048, .inr (.inl th_weights))), (a_th_live, .inl (cI, 2048, .inl th_live))] H → va_D A [(a_th, .inr (6, [.ref a_th_weights, .ref a_th_live, .int th_size])), (a_th_weights, .inl (cJ, 2048, .inr (.inl th_weights))), (a_th_live, .inl (cI, 2048, .inl th_live))] → va_S A s.heap H locs → lv_has ls 3 [(0, .ref a_th), (1, .int v1)] → W p l e { frames := 0, cells := 0, slots := 0, locals := 0 } s m args below meth c H locs 0 0 (MQ below (zz_QV (dC, dI) (zz_T cI cJ cZ) A (fun _ : Unit => [(a_th, .inr (6, [.ref a_th_weights, .ref a_th_live, .int o.2])), (a_th_weights, .inl (cJ, 2048, .inr (.inl o.1))), (a_th_live, .inl (cI, 2048, .inl th_live))])) args s 0 0 A) (F0 m 2 ls [])) {th_weights : (Nat → Int64)} {th_size : Int32} {v1 : Int32} (h : zf_X6_clear_42 th_live k2 th_weights th_size v1 = some o) : ∀ (H : Heap) (locs : List Loc) (ls : Array Slot), va_P (dC, dI) vwCl [(a_th, .inr (6, [.ref a_th_weights, .ref a_th_live, .int th_size])), (a_th_weights, .inl (cJ, 2048, .inr (.inl th_weights))), (a_th_live, .inl (cI, 2048, .inl th_live))] H → va_D A [(a_th, .inr (6, [.ref a_th_weights, .ref a_th_live, .int th_size])), (a_th_weights, .inl (cJ, 2048, .inr (.inl th_weights))), (a_th_live, .inl (cI, 2048, .inl th_live))] → va_S A s.heap H locs → lv_has ls 3 [(0, .ref a_th), (1, .int v1)] → W p l e { frames := 0, cells := 0, slots := 0, locals := 0 } s m args below meth c H locs 0 0 (MQ below (zz_QV (dC, dI) (zz_T cI cJ cZ) A (fun _ : Unit => [(a_th, .inr (6, [.ref a_th_weights, .ref a_th_live, .int o.2])), (a_th_weights, .inl (cJ, 2048, .inr (.inl o.1))), (a_th_live, .inl (cI, 2048, .inl th_live))])) args s 0 0 A) (F0 m 42 ls []) := by
  obtain ⟨⟨hx, hb, hml, hown, hts⟩, hr, hlocks⟩ := id C0
  unfold zf_X6_clear_42 at h
  intro H locs ls hP hD hS hl
  refine lv_iinc (v := (v1 + (1 : Int32))) (lv' := [(1, .int (v1 + (1 : Int32))), (0, .ref a_th)]) hx hb dX6_clear_42 hl (k := 1) rfl rfl (by decide) rfl (fun ls hl => ?_)
  refine lv_goto (tgt := 2) hx hb dX6_clear_45 (by decide) ?_
  exact hk2 th_weights th_size (v1 + (1 : Int32)) h _ _ _ hP hD hS (lv_sub hl [1, 0] rfl)
set_option maxHeartbeats 4000000 in
set_option maxRecDepth 100000 in
theorem zw_X6_clear_2_b {p : Program} {l : Launch} {e : Env} {s : State} {m : MethodId} {args : Array Value} {below : List Frame} {meth : Method} {c : Code} {dC : Nat → ClassId} {dI : Nat → Nat → Nat} {cI cJ cZ : ClassId} {A : Nat → Prop} {a_th a_th_weights a_th_live : Nat} {th_live : (Nat → Int32)} {o : (Nat → Int64) × Int32} (C0 : zz_C p s m args meth c cX6_clear 3 RX6 wsX6_clear (none)) (hE : zz_EV (dC, dI) (zz_T cI cJ cZ) s) (hA : ∀ q : Nat, s.heap.size ≤ q → A q) (k2 : (Nat → Int64) → Int32 → Int32 → Option ((Nat → Int64) × Int32)) (hk2 : ∀ (th_weights : (Nat → Int64)) (th_size : Int32) (v1 : Int32), k2 th_weights th_size v1 = some o → ∀ (H : Heap) (locs : List Loc) (ls : Array Slot), va_P (dC, dI) vwCl [(a_th, .inr (6, [.ref a_th_weights, .ref a_th_live, .int th_size])), (a_th_weights, .inl (cJ, 2048, .inr (.inl th_weights))), (a_th_live, .inl (cI, 2048, .inl th_live))] H → va_D A [(a_th, .inr (6, [.ref a_th_weights, .ref a_th_live, .int th_size])), (a_th_weights, .inl (cJ, 2048, .inr (.inl th_weights))), (a_th_live, .inl (cI, 2048, .inl th_live))] → va_S A s.heap H locs → lv_has ls 3 [(0, .ref a_th), (1, .int v1)] → W p l e { frames := 0, cells := 0, slots := 0, locals := 0 } s m args below meth c H locs 0 0 (MQ below (zz_QV (dC, dI) (zz_T cI cJ cZ) A (fun _ : Unit => [(a_th, .inr (6, [.ref a_th_weights, .ref a_th_live, .int o.2])), (a_th_weights, .inl (cJ, 2048, .inr (.inl o.1))), (a_th_live, .inl (cI, 2048, .inl th_live))])) args s 0 0 A) (F0 m 2 ls [])) {th_weights : (Nat → Int64)} {th_size : Int32} {v1 : Int32} (h : zf_X6_clear_2_b th_live k2 th_weights th_size v1 = some o) : ∀ (H : Heap) (locs : List Loc) (ls : Array Slot), va_P (dC, dI) vwCl [(a_th, .inr (6, [.ref a_th_weights, .ref a_th_live, .int th_size])), (a_th_weights, .inl (cJ, 2048, .inr (.inl th_weights))), (a_th_live, .inl (cI, 2048, .inl th_live))] H → va_D A [(a_th, .inr (6, [.ref a_th_weights, .ref a_th_live, .int th_size])), (a_th_weights, .inl (cJ, 2048, .inr (.inl th_weights))), (a_th_live, .inl (cI, 2048, .inl th_live))] → va_S A s.heap H locs → lv_has ls 3 [(0, .ref a_th), (1, .int v1)] → W p l e { frames := 0, cells := 0, slots := 0, locals := 0 } s m args below meth c H locs 0 0 (MQ below (zz_QV (dC, dI) (zz_T cI cJ cZ) A (fun _ : Unit => [(a_th, .inr (6, [.ref a_th_weights, .ref a_th_live, .int o.2])), (a_th_weights, .inl (cJ, 2048, .inr (.inl o.1))), (a_th_live, .inl (cI, 2048, .inl th_live))])) args s 0 0 A) (F0 m 2 ls []) := by
  obtain ⟨⟨hx, hb, hml, hown, hts⟩, hr, hlocks⟩ := id C0
  unfold zf_X6_clear_2_b at h
  intro H locs ls hP hD hS hl
  refine lv_iload_n hx hb dX6_clear_2 rfl (lv_at hl 1 rfl) ?_
  refine lv_aload_n hx hb dX6_clear_3 rfl (lv_at hl 0 rfl) ?_
  refine va_get (D := (dC, dI)) (ci := 6) (v := .int th_size) (C := RX6) (T := TX6) (N := 3) hx hb hts zi_X6_clear_6 hown hE.1 hP 0 rfl rfl 2 (by decide) (hts _ zl_X6_clear_1) (fun _ h9 => h9) rfl dX6_clear_4 ?_
  refine lv_icmp_ge (tgt := 48) hx hb dX6_clear_7 (by decide) (fun hc_1 => ?_) (fun hc_1 => ?_)
  · have h := zz_t hc_1 h
    exact zw_X6_clear_48 C0 hE hA  h _ _ _ hP hD hS (lv_sub hl [0] rfl)
  have h := zz_f hc_1 h
  refine lv_iload_n hx hb dX6_clear_10 rfl (lv_at hl 1 rfl) ?_
  refine lv_sipush (v := (2048 : Int32)) hx hb dX6_clear_11 (by decide) ?_
  refine lv_icmp_ge (tgt := 48) hx hb dX6_clear_14 (by decide) (fun hc_2 => ?_) (fun hc_2 => ?_)
  · have h := zz_t hc_2 h
    exact zw_X6_clear_48 C0 hE hA  h _ _ _ hP hD hS (lv_sub hl [0] rfl)
  have h := zz_f hc_2 h
  refine lv_aload_n hx hb dX6_clear_17 rfl (lv_at hl 0 rfl) ?_
  refine va_get (D := (dC, dI)) (ci := 6) (v := .ref a_th_live) (C := RX6) (T := TX6) (N := 3) hx hb hts zi_X6_clear_6 hown hE.1 hP 0 rfl rfl 1 (by decide) (hts _ zl_X6_clear_2) (fun _ h9 => h9) rfl dX6_clear_18 ?_
  refine lv_iload_n hx hb dX6_clear_21 rfl (lv_at hl 1 rfl) ?_
  obtain ⟨hin_3, h⟩ := zz_nn h
  refine va_iald hx hb hE.1 hP 2 0 rfl rfl hin_3 dX6_clear_22 ?_
  refine lv_istore_n (lv' := [(2, .int (th_live (v1).toNatClampNeg)), (0, .ref a_th), (1, .int v1)]) hx hb dX6_clear_23 rfl hl (by decide) rfl (fun ls hl => ?_)
  refine lv_iload_n hx hb dX6_clear_24 rfl (lv_at hl 0 rfl) ?_
  refine lv_if_lt (tgt := 42) hx hb dX6_clear_25 (by decide) (fun hc_4 => ?_) (fun hc_4 => ?_)
  · have h := zz_t hc_4 h
    exact zw_X6_clear_42 C0 hE hA k2 hk2 h _ _ _ hP hD hS (lv_sub hl [1, 2] rfl)
  have h := zz_f hc_4 h
  refine lv_iload_n hx hb dX6_clear_28 rfl (lv_at hl 0 rfl) ?_
  refine lv_sipush (v := (2048 : Int32)) hx hb dX6_clear_29 (by decide) ?_
  refine lv_icmp_ge (tgt := 42) hx hb dX6_clear_32 (by decide) (fun hc_5 => ?_) (fun hc_5 => ?_)
  · have h := zz_t hc_5 h
    exact zw_X6_clear_42 C0 hE hA k2 hk2 h _ _ _ hP hD hS (lv_sub hl [1, 2] rfl)
  have h := zz_f hc_5 h
  refine lv_aload_n hx hb dX6_clear_35 rfl (lv_at hl 1 rfl) ?_
  refine va_get (D := (dC, dI)) (ci := 6) (v := .ref a_th_weights) (C := RX6) (T := TX6) (N := 3) hx hb hts zi_X6_clear_6 hown hE.1 hP 0 rfl rfl 0 (by decide) (hts _ zl_X6_clear_3) (fun _ h9 => h9) rfl dX6_clear_36 ?_
  refine lv_iload_n hx hb dX6_clear_39 rfl (lv_at hl 0 rfl) ?_
  refine lv_lconst (v := (0 : Int64)) hx hb dX6_clear_40 (by decide) ?_
  obtain ⟨hin_6, h⟩ := zz_nn h
  refine va_last hx hb hE.1 hP hD hS 1 1 rfl rfl hin_6 dX6_clear_41 (fun H locs hP hD hS => ?_)
  have hP : va_P (dC, dI) vwCl [(a_th, .inr (6, [.ref a_th_weights, .ref a_th_live, .int th_size])), (a_th_weights, .inl (cJ, 2048, .inr (.inl (vp_updL th_weights ((th_live (v1).toNatClampNeg)).toNatClampNeg (0 : Int64))))), (a_th_live, .inl (cI, 2048, .inl th_live))] H := hP
  have hD : va_D A [(a_th, .inr (6, [.ref a_th_weights, .ref a_th_live, .int th_size])), (a_th_weights, .inl (cJ, 2048, .inr (.inl (vp_updL th_weights ((th_live (v1).toNatClampNeg)).toNatClampNeg (0 : Int64))))), (a_th_live, .inl (cI, 2048, .inl th_live))] := hD
  exact zw_X6_clear_42 C0 hE hA k2 hk2 h _ _ _ hP hD hS (lv_sub hl [1, 2] rfl)
set_option maxHeartbeats 4000000 in
set_option maxRecDepth 100000 in
theorem zw_X6_clear_2 {p : Program} {l : Launch} {e : Env} {s : State} {m : MethodId} {args : Array Value} {below : List Frame} {meth : Method} {c : Code} {dC : Nat → ClassId} {dI : Nat → Nat → Nat} {cI cJ cZ : ClassId} {A : Nat → Prop} {a_th a_th_weights a_th_live : Nat} {th_live : (Nat → Int32)} {o : (Nat → Int64) × Int32} (C0 : zz_C p s m args meth c cX6_clear 3 RX6 wsX6_clear (none)) (hE : zz_EV (dC, dI) (zz_T cI cJ cZ) s) (hA : ∀ q : Nat, s.heap.size ≤ q → A q) : ∀ (n : Nat) (th_weights : (Nat → Int64)) (th_size : Int32) (v1 : Int32), zf_X6_clear_2 th_live n th_weights th_size v1 = some o → ∀ (H : Heap) (locs : List Loc) (ls : Array Slot), va_P (dC, dI) vwCl [(a_th, .inr (6, [.ref a_th_weights, .ref a_th_live, .int th_size])), (a_th_weights, .inl (cJ, 2048, .inr (.inl th_weights))), (a_th_live, .inl (cI, 2048, .inl th_live))] H → va_D A [(a_th, .inr (6, [.ref a_th_weights, .ref a_th_live, .int th_size])), (a_th_weights, .inl (cJ, 2048, .inr (.inl th_weights))), (a_th_live, .inl (cI, 2048, .inl th_live))] → va_S A s.heap H locs → lv_has ls 3 [(0, .ref a_th), (1, .int v1)] → W p l e { frames := 0, cells := 0, slots := 0, locals := 0 } s m args below meth c H locs 0 0 (MQ below (zz_QV (dC, dI) (zz_T cI cJ cZ) A (fun _ : Unit => [(a_th, .inr (6, [.ref a_th_weights, .ref a_th_live, .int o.2])), (a_th_weights, .inl (cJ, 2048, .inr (.inl o.1))), (a_th_live, .inl (cI, 2048, .inl th_live))])) args s 0 0 A) (F0 m 2 ls []) := by
  intro n
  induction n with
  | zero =>
    intro th_weights th_size v1 h
    cases h
  | succ n ih =>
    intro th_weights th_size v1 h
    exact zw_X6_clear_2_b C0 hE hA  (zf_X6_clear_2 th_live n) ih h
set_option maxHeartbeats 4000000 in
set_option maxRecDepth 100000 in
theorem zw_X6_clear {p : Program} {l : Launch} {e : Env} {s : State} {m : MethodId} {args : Array Value} {below : List Frame} {meth : Method} {c : Code} {dC : Nat → ClassId} {dI : Nat → Nat → Nat} {cI cJ cZ : ClassId} {A : Nat → Prop} {a_th a_th_weights a_th_live : Nat} {th_live : (Nat → Int32)} {o : (Nat → Int64) × Int32} (C0 : zz_C p s m args meth c cX6_clear 3 RX6 wsX6_clear (none)) (hE : zz_EV (dC, dI) (zz_T cI cJ cZ) s) (hA : ∀ q : Nat, s.heap.size ≤ q → A q) {th_weights : (Nat → Int64)} {th_size : Int32} (h : zf_X6_clear th_live th_weights th_size = some o) : ∀ (H : Heap) (locs : List Loc) (ls : Array Slot), va_P (dC, dI) vwCl [(a_th, .inr (6, [.ref a_th_weights, .ref a_th_live, .int th_size])), (a_th_weights, .inl (cJ, 2048, .inr (.inl th_weights))), (a_th_live, .inl (cI, 2048, .inl th_live))] H → va_D A [(a_th, .inr (6, [.ref a_th_weights, .ref a_th_live, .int th_size])), (a_th_weights, .inl (cJ, 2048, .inr (.inl th_weights))), (a_th_live, .inl (cI, 2048, .inl th_live))] → va_S A s.heap H locs → lv_has ls 3 [(0, .ref a_th)] → W p l e { frames := 0, cells := 0, slots := 0, locals := 0 } s m args below meth c H locs 0 0 (MQ below (zz_QV (dC, dI) (zz_T cI cJ cZ) A (fun _ : Unit => [(a_th, .inr (6, [.ref a_th_weights, .ref a_th_live, .int o.2])), (a_th_weights, .inl (cJ, 2048, .inr (.inl o.1))), (a_th_live, .inl (cI, 2048, .inl th_live))])) args s 0 0 A) (F0 m 0 ls []) := by
  obtain ⟨⟨hx, hb, hml, hown, hts⟩, hr, hlocks⟩ := id C0
  unfold zf_X6_clear at h
  intro H locs ls hP hD hS hl
  refine lv_iconst (v := (0 : Int32)) hx hb dX6_clear_0 (by decide) ?_
  refine lv_istore_n (lv' := [(1, .int (0 : Int32)), (0, .ref a_th)]) hx hb dX6_clear_1 rfl hl (by decide) rfl (fun ls hl => ?_)
  exact zw_X6_clear_2 C0 hE hA  zfuel th_weights th_size (0 : Int32) h _ _ _ hP hD hS (lv_sub hl [1, 0] rfl)
set_option maxHeartbeats 4000000 in
set_option maxRecDepth 100000 in
theorem zc_X6_clear (l : Launch) (dC : Nat → ClassId) (dI : Nat → Nat → Nat) (cI cJ cZ : ClassId) (sz : Nat) (a_th a_th_weights a_th_live : Nat) (th_live : (Nat → Int32)) (th_weights : (Nat → Int64)) (th_size : Int32) {o : (Nat → Int64) × Int32} (h : zf_X6_clear th_live th_weights th_size = some o) : Met l yX6_clear wsX6_clear { frames := 0, cells := 0, slots := 0, locals := 0 } (zz_PC (dC, dI) (zz_T cI cJ cZ) [.ref a_th] sz [(a_th, .inr (6, [.ref a_th_weights, .ref a_th_live, .int th_size])), (a_th_weights, .inl (cJ, 2048, .inr (.inl th_weights))), (a_th_live, .inl (cI, 2048, .inl th_live))]) (zz_QV (dC, dI) (zz_T cI cJ cZ) (va_A [(a_th, .inr (6, [.ref a_th_weights, .ref a_th_live, .int th_size])), (a_th_weights, .inl (cJ, 2048, .inr (.inl th_weights))), (a_th_live, .inl (cI, 2048, .inl th_live))] sz) (fun _ : Unit => [(a_th, .inr (6, [.ref a_th_weights, .ref a_th_live, .int o.2])), (a_th_weights, .inl (cJ, 2048, .inr (.inl o.1))), (a_th_live, .inl (cI, 2048, .inl th_live))])) 0 0 (va_A [(a_th, .inr (6, [.ref a_th_weights, .ref a_th_live, .int th_size])), (a_th_weights, .inl (cJ, 2048, .inr (.inl th_weights))), (a_th_live, .inl (cI, 2048, .inl th_live))] sz) := by
  refine zz_met (own := RX6) (cc := cX6_clear) (maxL := 3) (ret := none) (by decide) rfl rfl (Nat.le_of_ble_eq_true rfl) ?_
  intro p e s m below meth c ls hsz C0 hE hin hl hP hD
  subst hsz
  exact zw_X6_clear C0 hE (fun q hq => Or.inr hq) h _ _ _ hP hD va_S.rf hl
/-! X6_add : PlateLast$Spread.add(IJ)V -/
theorem zi_X6_add_6 : ∀ w ∈ u_ws RX6 TX6 3, w ∈ wsX6_add := by decide +kernel
theorem zl_X6_add_1 : Cond.fieldLink RX6 11 "PlateLast$Spread" "weights" "[J" ∈ wsX6_add := by decide +kernel
theorem zl_X6_add_2 : Cond.fieldLink RX6 19 "PlateLast$Spread" "size" "I" ∈ wsX6_add := by decide +kernel
theorem zl_X6_add_3 : Cond.fieldLink RX6 15 "PlateLast$Spread" "live" "[I" ∈ wsX6_add := by decide +kernel
set_option maxHeartbeats 4000000 in
set_option maxRecDepth 100000 in
theorem zw_X6_add_66 {p : Program} {l : Launch} {e : Env} {s : State} {m : MethodId} {args : Array Value} {below : List Frame} {meth : Method} {c : Code} {dC : Nat → ClassId} {dI : Nat → Nat → Nat} {cI cJ cZ : ClassId} {A : Nat → Prop} {a_th a_th_weights a_th_live : Nat} {o : (Nat → Int64) × (Nat → Int32) × Int32} (C0 : zz_C p s m args meth c cX6_add 4 RX6 wsX6_add (none)) (hE : zz_EV (dC, dI) (zz_T cI cJ cZ) s) (hA : ∀ q : Nat, s.heap.size ≤ q → A q) {th_weights : (Nat → Int64)} {th_live : (Nat → Int32)} {th_size : Int32} {v1 : Int32} {v2 : Int64} (h : zf_X6_add_66 th_weights th_live th_size v1 v2 = some o) : ∀ (H : Heap) (locs : List Loc) (ls : Array Slot), va_P (dC, dI) vwCl [(a_th, .inr (6, [.ref a_th_weights, .ref a_th_live, .int th_size])), (a_th_weights, .inl (cJ, 2048, .inr (.inl th_weights))), (a_th_live, .inl (cI, 2048, .inl th_live))] H → va_D A [(a_th, .inr (6, [.ref a_th_weights, .ref a_th_live, .int th_size])), (a_th_weights, .inl (cJ, 2048, .inr (.inl th_weights))), (a_th_live, .inl (cI, 2048, .inl th_live))] → va_S A s.heap H locs → lv_has ls 4 [(0, .ref a_th), (1, .int v1), (2, .long v2)] → W p l e { frames := 0, cells := 0, slots := 0, locals := 0 } s m args below meth c H locs 0 0 (MQ below (zz_QV (dC, dI) (zz_T cI cJ cZ) A (fun _ : Unit => [(a_th, .inr (6, [.ref a_th_weights, .ref a_th_live, .int o.2.2])), (a_th_weights, .inl (cJ, 2048, .inr (.inl o.1))), (a_th_live, .inl (cI, 2048, .inl o.2.1))])) args s 0 0 A) (F0 m 66 ls []) := by
  obtain ⟨⟨hx, hb, hml, hown, hts⟩, hr, hlocks⟩ := id C0
  unfold zf_X6_add_66 at h
  intro H locs ls hP hD hS hl
  refine lv_aload_n hx hb dX6_add_66 rfl (lv_at hl 0 rfl) ?_
  refine va_get (D := (dC, dI)) (ci := 6) (v := .ref a_th_weights) (C := RX6) (T := TX6) (N := 3) hx hb hts zi_X6_add_6 hown hE.1 hP 0 rfl rfl 0 (by decide) (hts _ zl_X6_add_1) (fun _ h9 => h9) rfl dX6_add_67 ?_
  refine lv_iload_n hx hb dX6_add_70 rfl (lv_at hl 1 rfl) ?_
  refine lv_dup2_11 hx hb dX6_add_71 rfl rfl ?_
  obtain ⟨hin_1, h⟩ := zz_nn h
  refine va_lald hx hb hE.1 hP 1 1 rfl rfl hin_1 dX6_add_72 ?_
  refine lv_lload_n hx hb dX6_add_73 rfl (lv_at hl 2 rfl) ?_
  refine lv_ladd hx hb dX6_add_74 ?_
  refine va_last hx hb hE.1 hP hD hS 1 1 rfl rfl hin_1 dX6_add_75 (fun H locs hP hD hS => ?_)
  have hP : va_P (dC, dI) vwCl [(a_th, .inr (6, [.ref a_th_weights, .ref a_th_live, .int th_size])), (a_th_weights, .inl (cJ, 2048, .inr (.inl (vp_updL th_weights (v1).toNatClampNeg ((th_weights (v1).toNatClampNeg) + v2))))), (a_th_live, .inl (cI, 2048, .inl th_live))] H := hP
  have hD : va_D A [(a_th, .inr (6, [.ref a_th_weights, .ref a_th_live, .int th_size])), (a_th_weights, .inl (cJ, 2048, .inr (.inl (vp_updL th_weights (v1).toNatClampNeg ((th_weights (v1).toNatClampNeg) + v2))))), (a_th_live, .inl (cI, 2048, .inl th_live))] := hD
  obtain rfl := Option.some.inj h
  exact zk_vret hx hb hr hlocks hE () hP hD hS dX6_add_76
set_option maxHeartbeats 4000000 in
set_option maxRecDepth 100000 in
theorem zw_X6_add {p : Program} {l : Launch} {e : Env} {s : State} {m : MethodId} {args : Array Value} {below : List Frame} {meth : Method} {c : Code} {dC : Nat → ClassId} {dI : Nat → Nat → Nat} {cI cJ cZ : ClassId} {A : Nat → Prop} {a_th a_th_weights a_th_live : Nat} {o : (Nat → Int64) × (Nat → Int32) × Int32} (C0 : zz_C p s m args meth c cX6_add 4 RX6 wsX6_add (none)) (hE : zz_EV (dC, dI) (zz_T cI cJ cZ) s) (hA : ∀ q : Nat, s.heap.size ≤ q → A q) {th_weights : (Nat → Int64)} {th_live : (Nat → Int32)} {th_size : Int32} {p0 : Int32} {p1 : Int64} (h : zf_X6_add p0 p1 th_weights th_live th_size = some o) : ∀ (H : Heap) (locs : List Loc) (ls : Array Slot), va_P (dC, dI) vwCl [(a_th, .inr (6, [.ref a_th_weights, .ref a_th_live, .int th_size])), (a_th_weights, .inl (cJ, 2048, .inr (.inl th_weights))), (a_th_live, .inl (cI, 2048, .inl th_live))] H → va_D A [(a_th, .inr (6, [.ref a_th_weights, .ref a_th_live, .int th_size])), (a_th_weights, .inl (cJ, 2048, .inr (.inl th_weights))), (a_th_live, .inl (cI, 2048, .inl th_live))] → va_S A s.heap H locs → lv_has ls 4 [(0, .ref a_th), (1, .int p0), (2, .long p1)] → W p l e { frames := 0, cells := 0, slots := 0, locals := 0 } s m args below meth c H locs 0 0 (MQ below (zz_QV (dC, dI) (zz_T cI cJ cZ) A (fun _ : Unit => [(a_th, .inr (6, [.ref a_th_weights, .ref a_th_live, .int o.2.2])), (a_th_weights, .inl (cJ, 2048, .inr (.inl o.1))), (a_th_live, .inl (cI, 2048, .inl o.2.1))])) args s 0 0 A) (F0 m 0 ls []) := by
  obtain ⟨⟨hx, hb, hml, hown, hts⟩, hr, hlocks⟩ := id C0
  unfold zf_X6_add at h
  intro H locs ls hP hD hS hl
  refine lv_lload_n hx hb dX6_add_0 rfl (lv_at hl 2 rfl) ?_
  refine lv_lconst (v := (0 : Int64)) hx hb dX6_add_1 (by decide) ?_
  refine W.lcmp hx hb dX6_add_2 ?_
  refine lv_if_eq (tgt := 17) hx hb dX6_add_3 (by decide) (fun hc_1 => ?_) (fun hc_1 => ?_)
  · have h := zz_t hc_1 h
    obtain rfl := Option.some.inj h
    exact zk_vret hx hb hr hlocks hE () hP hD hS dX6_add_17
  have h := zz_f hc_1 h
  refine lv_iload_n hx hb dX6_add_6 rfl (lv_at hl 1 rfl) ?_
  refine lv_if_lt (tgt := 17) hx hb dX6_add_7 (by decide) (fun hc_2 => ?_) (fun hc_2 => ?_)
  · have h := zz_t hc_2 h
    obtain rfl := Option.some.inj h
    exact zk_vret hx hb hr hlocks hE () hP hD hS dX6_add_17
  have h := zz_f hc_2 h
  refine lv_iload_n hx hb dX6_add_10 rfl (lv_at hl 1 rfl) ?_
  refine lv_sipush (v := (2048 : Int32)) hx hb dX6_add_11 (by decide) ?_
  refine lv_icmp_lt (tgt := 18) hx hb dX6_add_14 (by decide) (fun hc_3 => ?_) (fun hc_3 => ?_)
  · have h := zz_t hc_3 h
    refine lv_aload_n hx hb dX6_add_18 rfl (lv_at hl 0 rfl) ?_
    refine va_get (D := (dC, dI)) (ci := 6) (v := .ref a_th_weights) (C := RX6) (T := TX6) (N := 3) hx hb hts zi_X6_add_6 hown hE.1 hP 0 rfl rfl 0 (by decide) (hts _ zl_X6_add_1) (fun _ h9 => h9) rfl dX6_add_19 ?_
    refine lv_iload_n hx hb dX6_add_22 rfl (lv_at hl 1 rfl) ?_
    obtain ⟨hin_4, h⟩ := zz_nn h
    refine va_lald hx hb hE.1 hP 1 1 rfl rfl hin_4 dX6_add_23 ?_
    refine lv_lconst (v := (0 : Int64)) hx hb dX6_add_24 (by decide) ?_
    refine W.lcmp hx hb dX6_add_25 ?_
    refine lv_if_ne (tgt := 66) hx hb dX6_add_26 (by decide) (fun hc_5 => ?_) (fun hc_5 => ?_)
    · have h := zz_f hc_5 h
      exact zw_X6_add_66 C0 hE hA  h _ _ _ hP hD hS hl
    have h := zz_t hc_5 h
    refine lv_aload_n hx hb dX6_add_29 rfl (lv_at hl 0 rfl) ?_
    refine va_get (D := (dC, dI)) (ci := 6) (v := .int th_size) (C := RX6) (T := TX6) (N := 3) hx hb hts zi_X6_add_6 hown hE.1 hP 0 rfl rfl 2 (by decide) (hts _ zl_X6_add_2) (fun _ h9 => h9) rfl dX6_add_30 ?_
    refine lv_if_lt (tgt := 66) hx hb dX6_add_33 (by decide) (fun hc_6 => ?_) (fun hc_6 => ?_)
    · have h := zz_t hc_6 h
      exact zw_X6_add_66 C0 hE hA  h _ _ _ hP hD hS hl
    have h := zz_f hc_6 h
    refine lv_aload_n hx hb dX6_add_36 rfl (lv_at hl 0 rfl) ?_
    refine va_get (D := (dC, dI)) (ci := 6) (v := .int th_size) (C := RX6) (T := TX6) (N := 3) hx hb hts zi_X6_add_6 hown hE.1 hP 0 rfl rfl 2 (by decide) (hts _ zl_X6_add_2) (fun _ h9 => h9) rfl dX6_add_37 ?_
    refine lv_sipush (v := (2048 : Int32)) hx hb dX6_add_40 (by decide) ?_
    refine lv_icmp_ge (tgt := 66) hx hb dX6_add_43 (by decide) (fun hc_7 => ?_) (fun hc_7 => ?_)
    · have h := zz_t hc_7 h
      exact zw_X6_add_66 C0 hE hA  h _ _ _ hP hD hS hl
    have h := zz_f hc_7 h
    refine lv_aload_n hx hb dX6_add_46 rfl (lv_at hl 0 rfl) ?_
    refine va_get (D := (dC, dI)) (ci := 6) (v := .ref a_th_live) (C := RX6) (T := TX6) (N := 3) hx hb hts zi_X6_add_6 hown hE.1 hP 0 rfl rfl 1 (by decide) (hts _ zl_X6_add_3) (fun _ h9 => h9) rfl dX6_add_47 ?_
    refine lv_aload_n hx hb dX6_add_50 rfl (lv_at hl 0 rfl) ?_
    refine va_get (D := (dC, dI)) (ci := 6) (v := .int th_size) (C := RX6) (T := TX6) (N := 3) hx hb hts zi_X6_add_6 hown hE.1 hP 0 rfl rfl 2 (by decide) (hts _ zl_X6_add_2) (fun _ h9 => h9) rfl dX6_add_51 ?_
    refine lv_iload_n hx hb dX6_add_54 rfl (lv_at hl 1 rfl) ?_
    obtain ⟨hin_8, h⟩ := zz_nn h
    refine va_iast hx hb hE.1 hP hD hS 2 0 rfl rfl hin_8 dX6_add_55 (fun H locs hP hD hS => ?_)
    have hP : va_P (dC, dI) vwCl [(a_th, .inr (6, [.ref a_th_weights, .ref a_th_live, .int th_size])), (a_th_weights, .inl (cJ, 2048, .inr (.inl th_weights))), (a_th_live, .inl (cI, 2048, .inl (upd th_live (th_size).toNatClampNeg p0)))] H := hP
    have hD : va_D A [(a_th, .inr (6, [.ref a_th_weights, .ref a_th_live, .int th_size])), (a_th_weights, .inl (cJ, 2048, .inr (.inl th_weights))), (a_th_live, .inl (cI, 2048, .inl (upd th_live (th_size).toNatClampNeg p0)))] := hD
    refine lv_aload_n hx hb dX6_add_56 rfl (lv_at hl 0 rfl) ?_
    refine lv_dup hx hb dX6_add_57 rfl ?_
    refine va_get (D := (dC, dI)) (ci := 6) (v := .int th_size) (C := RX6) (T := TX6) (N := 3) hx hb hts zi_X6_add_6 hown hE.1 hP 0 rfl rfl 2 (by decide) (hts _ zl_X6_add_2) (fun _ h9 => h9) rfl dX6_add_58 ?_
    refine lv_iconst (v := (1 : Int32)) hx hb dX6_add_61 (by decide) ?_
    refine lv_iadd hx hb dX6_add_62 ?_
    refine va_put (D := (dC, dI)) (ci := 6) (v := .int (th_size + (1 : Int32))) (ty := .int) (C := RX6) (T := TX6) (N := 3) hx hb hts zi_X6_add_6 tyX6 tyX6_ok nmX6 hown hE.1 hP hD hS 0 rfl rfl 2 (by decide) (hts _ zl_X6_add_2) (fun _ h9 => h9) rfl (by decide +kernel) rfl rfl (Nat.le_of_ble_eq_true rfl) dX6_add_63 (fun H locs hP hD hS => ?_)
    have hP : va_P (dC, dI) vwCl [(a_th, .inr (6, [.ref a_th_weights, .ref a_th_live, .int (th_size + (1 : Int32))])), (a_th_weights, .inl (cJ, 2048, .inr (.inl th_weights))), (a_th_live, .inl (cI, 2048, .inl (upd th_live (th_size).toNatClampNeg p0)))] H := hP
    have hD : va_D A [(a_th, .inr (6, [.ref a_th_weights, .ref a_th_live, .int (th_size + (1 : Int32))])), (a_th_weights, .inl (cJ, 2048, .inr (.inl th_weights))), (a_th_live, .inl (cI, 2048, .inl (upd th_live (th_size).toNatClampNeg p0)))] := hD
    exact zw_X6_add_66 C0 hE hA  h _ _ _ hP hD hS hl
  have h := zz_f hc_3 h
  obtain rfl := Option.some.inj h
  exact zk_vret hx hb hr hlocks hE () hP hD hS dX6_add_17
set_option maxHeartbeats 4000000 in
set_option maxRecDepth 100000 in
theorem zc_X6_add (l : Launch) (dC : Nat → ClassId) (dI : Nat → Nat → Nat) (cI cJ cZ : ClassId) (sz : Nat) (a_th a_th_weights a_th_live : Nat) (th_weights : (Nat → Int64)) (th_live : (Nat → Int32)) (th_size : Int32) (p0 : Int32) (p1 : Int64) {o : (Nat → Int64) × (Nat → Int32) × Int32} (h : zf_X6_add p0 p1 th_weights th_live th_size = some o) : Met l yX6_add wsX6_add { frames := 0, cells := 0, slots := 0, locals := 0 } (zz_PC (dC, dI) (zz_T cI cJ cZ) [.ref a_th, .int p0, .long p1] sz [(a_th, .inr (6, [.ref a_th_weights, .ref a_th_live, .int th_size])), (a_th_weights, .inl (cJ, 2048, .inr (.inl th_weights))), (a_th_live, .inl (cI, 2048, .inl th_live))]) (zz_QV (dC, dI) (zz_T cI cJ cZ) (va_A [(a_th, .inr (6, [.ref a_th_weights, .ref a_th_live, .int th_size])), (a_th_weights, .inl (cJ, 2048, .inr (.inl th_weights))), (a_th_live, .inl (cI, 2048, .inl th_live))] sz) (fun _ : Unit => [(a_th, .inr (6, [.ref a_th_weights, .ref a_th_live, .int o.2.2])), (a_th_weights, .inl (cJ, 2048, .inr (.inl o.1))), (a_th_live, .inl (cI, 2048, .inl o.2.1))])) 0 0 (va_A [(a_th, .inr (6, [.ref a_th_weights, .ref a_th_live, .int th_size])), (a_th_weights, .inl (cJ, 2048, .inr (.inl th_weights))), (a_th_live, .inl (cI, 2048, .inl th_live))] sz) := by
  refine zz_met (own := RX6) (cc := cX6_add) (maxL := 4) (ret := none) (by decide) rfl rfl (Nat.le_of_ble_eq_true rfl) ?_
  intro p e s m below meth c ls hsz C0 hE hin hl hP hD
  subst hsz
  exact zw_X6_add C0 hE (fun q hq => Or.inr hq) h _ _ _ hP hD va_S.rf hl
/-! X6_stateAt : PlateLast$Spread.stateAt(I)I -/
theorem zi_X6_stateAt_6 : ∀ w ∈ u_ws RX6 TX6 3, w ∈ wsX6_stateAt := by decide +kernel
theorem zl_X6_stateAt_1 : Cond.fieldLink RX6 19 "PlateLast$Spread" "size" "I" ∈ wsX6_stateAt := by decide +kernel
theorem zl_X6_stateAt_2 : Cond.fieldLink RX6 15 "PlateLast$Spread" "live" "[I" ∈ wsX6_stateAt := by decide +kernel
set_option maxHeartbeats 4000000 in
set_option maxRecDepth 100000 in
theorem zw_X6_stateAt {p : Program} {l : Launch} {e : Env} {s : State} {m : MethodId} {args : Array Value} {below : List Frame} {meth : Method} {c : Code} {dC : Nat → ClassId} {dI : Nat → Nat → Nat} {cI cJ cZ : ClassId} {A : Nat → Prop} {a_th a_th_weights a_th_live : Nat} {th_live : (Nat → Int32)} {th_size : Int32} {o : Int32} (C0 : zz_C p s m args meth c cX6_stateAt 2 RX6 wsX6_stateAt (some .int)) (hE : zz_EV (dC, dI) (zz_T cI cJ cZ) s) (hA : ∀ q : Nat, s.heap.size ≤ q → A q) {p0 : Int32} (h : zf_X6_stateAt p0 th_live th_size = some o) : ∀ (H : Heap) (locs : List Loc) (ls : Array Slot), va_P (dC, dI) vwCl [(a_th, .inr (6, [.ref a_th_weights, .ref a_th_live, .int th_size])), (a_th_live, .inl (cI, 2048, .inl th_live))] H → va_D A [(a_th, .inr (6, [.ref a_th_weights, .ref a_th_live, .int th_size])), (a_th_live, .inl (cI, 2048, .inl th_live))] → va_S A s.heap H locs → lv_has ls 2 [(0, .ref a_th), (1, .int p0)] → W p l e { frames := 0, cells := 0, slots := 0, locals := 0 } s m args below meth c H locs 0 0 (MQ below (zz_QI (dC, dI) (zz_T cI cJ cZ) A (fun _ : Unit => [(a_th, .inr (6, [.ref a_th_weights, .ref a_th_live, .int th_size])), (a_th_live, .inl (cI, 2048, .inl th_live))]) o) args s 0 0 A) (F0 m 0 ls []) := by
  obtain ⟨⟨hx, hb, hml, hown, hts⟩, hr, hlocks⟩ := id C0
  unfold zf_X6_stateAt at h
  intro H locs ls hP hD hS hl
  refine lv_iload_n hx hb dX6_stateAt_0 rfl (lv_at hl 1 rfl) ?_
  refine lv_if_lt (tgt := 28) hx hb dX6_stateAt_1 (by decide) (fun hc_1 => ?_) (fun hc_1 => ?_)
  · have h := zz_t hc_1 h
    refine lv_iconst (v := (0 : Int32)) hx hb dX6_stateAt_28 (by decide) ?_
    obtain rfl := Option.some.inj h
    exact zk_iret hx hb hr hlocks hE () hP hD hS rfl dX6_stateAt_29
  have h := zz_f hc_1 h
  refine lv_iload_n hx hb dX6_stateAt_4 rfl (lv_at hl 1 rfl) ?_
  refine lv_aload_n hx hb dX6_stateAt_5 rfl (lv_at hl 0 rfl) ?_
  refine va_get (D := (dC, dI)) (ci := 6) (v := .int th_size) (C := RX6) (T := TX6) (N := 3) hx hb hts zi_X6_stateAt_6 hown hE.1 hP 0 rfl rfl 2 (by decide) (hts _ zl_X6_stateAt_1) (fun _ h9 => h9) rfl dX6_stateAt_6 ?_
  refine lv_icmp_ge (tgt := 28) hx hb dX6_stateAt_9 (by decide) (fun hc_2 => ?_) (fun hc_2 => ?_)
  · have h := zz_t hc_2 h
    refine lv_iconst (v := (0 : Int32)) hx hb dX6_stateAt_28 (by decide) ?_
    obtain rfl := Option.some.inj h
    exact zk_iret hx hb hr hlocks hE () hP hD hS rfl dX6_stateAt_29
  have h := zz_f hc_2 h
  refine lv_iload_n hx hb dX6_stateAt_12 rfl (lv_at hl 1 rfl) ?_
  refine lv_sipush (v := (2048 : Int32)) hx hb dX6_stateAt_13 (by decide) ?_
  refine lv_icmp_ge (tgt := 28) hx hb dX6_stateAt_16 (by decide) (fun hc_3 => ?_) (fun hc_3 => ?_)
  · have h := zz_t hc_3 h
    refine lv_iconst (v := (0 : Int32)) hx hb dX6_stateAt_28 (by decide) ?_
    obtain rfl := Option.some.inj h
    exact zk_iret hx hb hr hlocks hE () hP hD hS rfl dX6_stateAt_29
  have h := zz_f hc_3 h
  refine lv_aload_n hx hb dX6_stateAt_19 rfl (lv_at hl 0 rfl) ?_
  refine va_get (D := (dC, dI)) (ci := 6) (v := .ref a_th_live) (C := RX6) (T := TX6) (N := 3) hx hb hts zi_X6_stateAt_6 hown hE.1 hP 0 rfl rfl 1 (by decide) (hts _ zl_X6_stateAt_2) (fun _ h9 => h9) rfl dX6_stateAt_20 ?_
  refine lv_iload_n hx hb dX6_stateAt_23 rfl (lv_at hl 1 rfl) ?_
  obtain ⟨hin_4, h⟩ := zz_nn h
  refine va_iald hx hb hE.1 hP 1 0 rfl rfl hin_4 dX6_stateAt_24 ?_
  refine lv_goto (tgt := 29) hx hb dX6_stateAt_25 (by decide) ?_
  obtain rfl := Option.some.inj h
  exact zk_iret hx hb hr hlocks hE () hP hD hS rfl dX6_stateAt_29
set_option maxHeartbeats 4000000 in
set_option maxRecDepth 100000 in
theorem zc_X6_stateAt (l : Launch) (dC : Nat → ClassId) (dI : Nat → Nat → Nat) (cI cJ cZ : ClassId) (sz : Nat) (a_th a_th_weights a_th_live : Nat) (th_live : (Nat → Int32)) (th_size : Int32) (p0 : Int32) {o : Int32} (h : zf_X6_stateAt p0 th_live th_size = some o) : Met l yX6_stateAt wsX6_stateAt { frames := 0, cells := 0, slots := 0, locals := 0 } (zz_PC (dC, dI) (zz_T cI cJ cZ) [.ref a_th, .int p0] sz [(a_th, .inr (6, [.ref a_th_weights, .ref a_th_live, .int th_size])), (a_th_live, .inl (cI, 2048, .inl th_live))]) (zz_QI (dC, dI) (zz_T cI cJ cZ) (va_A [(a_th, .inr (6, [.ref a_th_weights, .ref a_th_live, .int th_size])), (a_th_live, .inl (cI, 2048, .inl th_live))] sz) (fun _ : Unit => [(a_th, .inr (6, [.ref a_th_weights, .ref a_th_live, .int th_size])), (a_th_live, .inl (cI, 2048, .inl th_live))]) o) 0 0 (va_A [(a_th, .inr (6, [.ref a_th_weights, .ref a_th_live, .int th_size])), (a_th_live, .inl (cI, 2048, .inl th_live))] sz) := by
  refine zz_met (own := RX6) (cc := cX6_stateAt) (maxL := 2) (ret := some .int) (by decide) rfl rfl (Nat.le_of_ble_eq_true rfl) ?_
  intro p e s m below meth c ls hsz C0 hE hin hl hP hD
  subst hsz
  exact zw_X6_stateAt C0 hE (fun q hq => Or.inr hq) h _ _ _ hP hD va_S.rf hl
/-! X6_weightOf : PlateLast$Spread.weightOf(I)J -/
theorem zi_X6_weightOf_6 : ∀ w ∈ u_ws RX6 TX6 3, w ∈ wsX6_weightOf := by decide +kernel
theorem zl_X6_weightOf_1 : Cond.fieldLink RX6 11 "PlateLast$Spread" "weights" "[J" ∈ wsX6_weightOf := by decide +kernel
set_option maxHeartbeats 4000000 in
set_option maxRecDepth 100000 in
theorem zw_X6_weightOf {p : Program} {l : Launch} {e : Env} {s : State} {m : MethodId} {args : Array Value} {below : List Frame} {meth : Method} {c : Code} {dC : Nat → ClassId} {dI : Nat → Nat → Nat} {cI cJ cZ : ClassId} {A : Nat → Prop} {a_th a_th_weights a_th_live : Nat} {th_size : Int32} {th_weights : (Nat → Int64)} {o : Int64} (C0 : zz_C p s m args meth c cX6_weightOf 2 RX6 wsX6_weightOf (some .long)) (hE : zz_EV (dC, dI) (zz_T cI cJ cZ) s) (hA : ∀ q : Nat, s.heap.size ≤ q → A q) {p0 : Int32} (h : zf_X6_weightOf p0 th_weights = some o) : ∀ (H : Heap) (locs : List Loc) (ls : Array Slot), va_P (dC, dI) vwCl [(a_th, .inr (6, [.ref a_th_weights, .ref a_th_live, .int th_size])), (a_th_weights, .inl (cJ, 2048, .inr (.inl th_weights)))] H → va_D A [(a_th, .inr (6, [.ref a_th_weights, .ref a_th_live, .int th_size])), (a_th_weights, .inl (cJ, 2048, .inr (.inl th_weights)))] → va_S A s.heap H locs → lv_has ls 2 [(0, .ref a_th), (1, .int p0)] → W p l e { frames := 0, cells := 0, slots := 0, locals := 0 } s m args below meth c H locs 0 0 (MQ below (zz_QL (dC, dI) (zz_T cI cJ cZ) A (fun _ : Unit => [(a_th, .inr (6, [.ref a_th_weights, .ref a_th_live, .int th_size])), (a_th_weights, .inl (cJ, 2048, .inr (.inl th_weights)))]) o) args s 0 0 A) (F0 m 0 ls []) := by
  obtain ⟨⟨hx, hb, hml, hown, hts⟩, hr, hlocks⟩ := id C0
  unfold zf_X6_weightOf at h
  intro H locs ls hP hD hS hl
  refine lv_iload_n hx hb dX6_weightOf_0 rfl (lv_at hl 1 rfl) ?_
  refine lv_if_lt (tgt := 20) hx hb dX6_weightOf_1 (by decide) (fun hc_1 => ?_) (fun hc_1 => ?_)
  · have h := zz_t hc_1 h
    refine lv_lconst (v := (0 : Int64)) hx hb dX6_weightOf_20 (by decide) ?_
    obtain rfl := Option.some.inj h
    exact zk_lret hx hb hr hlocks hE () hP hD hS rfl dX6_weightOf_21
  have h := zz_f hc_1 h
  refine lv_iload_n hx hb dX6_weightOf_4 rfl (lv_at hl 1 rfl) ?_
  refine lv_sipush (v := (2048 : Int32)) hx hb dX6_weightOf_5 (by decide) ?_
  refine lv_icmp_ge (tgt := 20) hx hb dX6_weightOf_8 (by decide) (fun hc_2 => ?_) (fun hc_2 => ?_)
  · have h := zz_t hc_2 h
    refine lv_lconst (v := (0 : Int64)) hx hb dX6_weightOf_20 (by decide) ?_
    obtain rfl := Option.some.inj h
    exact zk_lret hx hb hr hlocks hE () hP hD hS rfl dX6_weightOf_21
  have h := zz_f hc_2 h
  refine lv_aload_n hx hb dX6_weightOf_11 rfl (lv_at hl 0 rfl) ?_
  refine va_get (D := (dC, dI)) (ci := 6) (v := .ref a_th_weights) (C := RX6) (T := TX6) (N := 3) hx hb hts zi_X6_weightOf_6 hown hE.1 hP 0 rfl rfl 0 (by decide) (hts _ zl_X6_weightOf_1) (fun _ h9 => h9) rfl dX6_weightOf_12 ?_
  refine lv_iload_n hx hb dX6_weightOf_15 rfl (lv_at hl 1 rfl) ?_
  obtain ⟨hin_3, h⟩ := zz_nn h
  refine va_lald hx hb hE.1 hP 1 1 rfl rfl hin_3 dX6_weightOf_16 ?_
  refine lv_goto (tgt := 21) hx hb dX6_weightOf_17 (by decide) ?_
  obtain rfl := Option.some.inj h
  exact zk_lret hx hb hr hlocks hE () hP hD hS rfl dX6_weightOf_21
set_option maxHeartbeats 4000000 in
set_option maxRecDepth 100000 in
theorem zc_X6_weightOf (l : Launch) (dC : Nat → ClassId) (dI : Nat → Nat → Nat) (cI cJ cZ : ClassId) (sz : Nat) (a_th a_th_weights a_th_live : Nat) (th_size : Int32) (th_weights : (Nat → Int64)) (p0 : Int32) {o : Int64} (h : zf_X6_weightOf p0 th_weights = some o) : Met l yX6_weightOf wsX6_weightOf { frames := 0, cells := 0, slots := 0, locals := 0 } (zz_PC (dC, dI) (zz_T cI cJ cZ) [.ref a_th, .int p0] sz [(a_th, .inr (6, [.ref a_th_weights, .ref a_th_live, .int th_size])), (a_th_weights, .inl (cJ, 2048, .inr (.inl th_weights)))]) (zz_QL (dC, dI) (zz_T cI cJ cZ) (va_A [(a_th, .inr (6, [.ref a_th_weights, .ref a_th_live, .int th_size])), (a_th_weights, .inl (cJ, 2048, .inr (.inl th_weights)))] sz) (fun _ : Unit => [(a_th, .inr (6, [.ref a_th_weights, .ref a_th_live, .int th_size])), (a_th_weights, .inl (cJ, 2048, .inr (.inl th_weights)))]) o) 0 0 (va_A [(a_th, .inr (6, [.ref a_th_weights, .ref a_th_live, .int th_size])), (a_th_weights, .inl (cJ, 2048, .inr (.inl th_weights)))] sz) := by
  refine zz_met (own := RX6) (cc := cX6_weightOf) (maxL := 2) (ret := some .long) (by decide) rfl rfl (Nat.le_of_ble_eq_true rfl) ?_
  intro p e s m below meth c ls hsz C0 hE hin hl hP hD
  subst hsz
  exact zw_X6_weightOf C0 hE (fun q hq => Or.inr hq) h _ _ _ hP hD va_S.rf hl
