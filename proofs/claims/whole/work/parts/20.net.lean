/-! X3_clear : PlateLast$Net.clear(I)V -/
set_option maxRecDepth 100000 in
def zf_X3_clear_38_b (k38 : (Nat → Int32) → (Nat → Int32) → (Nat → Int32) → Int32 → Int32 → Int32 → Int32 → Option ((Nat → Int32) × (Nat → Int32) × (Nat → Int32) × Int32 × Int32 × Int32)) (th_tenths : (Nat → Int32)) (th_toldFrom : (Nat → Int32)) (th_wayCount : (Nat → Int32)) (th_seats : Int32) (th_kind : Int32) (th_penny : Int32) (v2 : Int32) : Option ((Nat → Int32) × (Nat → Int32) × (Nat → Int32) × Int32 × Int32 × Int32) := (if (8 : Int32) ≤ v2 then (some (th_tenths, th_toldFrom, th_wayCount, th_seats, th_kind, th_penny)) else (if v2 < 0 ∨ 8 ≤ (v2).toNatClampNeg then none else (k38 th_tenths (upd th_toldFrom (v2).toNatClampNeg (0 : Int32)) (upd th_wayCount (v2).toNatClampNeg (0 : Int32)) th_seats th_kind th_penny (v2 + (1 : Int32)))))
def zf_X3_clear_38 : Nat → (Nat → Int32) → (Nat → Int32) → (Nat → Int32) → Int32 → Int32 → Int32 → Int32 → Option ((Nat → Int32) × (Nat → Int32) × (Nat → Int32) × Int32 × Int32 × Int32)
  | 0 => fun _ _ _ _ _ _ _ => none
  | n + 1 => fun th_tenths th_toldFrom th_wayCount th_seats th_kind th_penny v2 => zf_X3_clear_38_b (zf_X3_clear_38 n) th_tenths th_toldFrom th_wayCount th_seats th_kind th_penny v2
set_option maxRecDepth 100000 in
def zf_X3_clear_17_b (k17 : (Nat → Int32) → (Nat → Int32) → (Nat → Int32) → Int32 → Int32 → Int32 → Int32 → Option ((Nat → Int32) × (Nat → Int32) × (Nat → Int32) × Int32 × Int32 × Int32)) (th_tenths : (Nat → Int32)) (th_toldFrom : (Nat → Int32)) (th_wayCount : (Nat → Int32)) (th_seats : Int32) (th_kind : Int32) (th_penny : Int32) (v2 : Int32) : Option ((Nat → Int32) × (Nat → Int32) × (Nat → Int32) × Int32 × Int32 × Int32) := (if (64 : Int32) ≤ v2 then (zf_X3_clear_38 zfuel th_tenths th_toldFrom th_wayCount th_seats th_kind th_penny (0 : Int32)) else (if v2 < 0 ∨ 64 ≤ (v2).toNatClampNeg then none else (k17 (upd th_tenths (v2).toNatClampNeg (0 : Int32)) th_toldFrom th_wayCount th_seats th_kind th_penny (v2 + (1 : Int32)))))
def zf_X3_clear_17 : Nat → (Nat → Int32) → (Nat → Int32) → (Nat → Int32) → Int32 → Int32 → Int32 → Int32 → Option ((Nat → Int32) × (Nat → Int32) × (Nat → Int32) × Int32 × Int32 × Int32)
  | 0 => fun _ _ _ _ _ _ _ => none
  | n + 1 => fun th_tenths th_toldFrom th_wayCount th_seats th_kind th_penny v2 => zf_X3_clear_17_b (zf_X3_clear_17 n) th_tenths th_toldFrom th_wayCount th_seats th_kind th_penny v2
set_option maxRecDepth 100000 in
def zf_X3_clear (p0 : Int32) (th_tenths : (Nat → Int32)) (th_toldFrom : (Nat → Int32)) (th_wayCount : (Nat → Int32)) (th_seats : Int32) (th_kind : Int32) (th_penny : Int32) : Option ((Nat → Int32) × (Nat → Int32) × (Nat → Int32) × Int32 × Int32 × Int32) := (zf_X3_clear_17 zfuel th_tenths th_toldFrom th_wayCount p0 (2 : Int32) (0 : Int32) (0 : Int32))
/-! X3_copyFrom : PlateLast$Net.copyFrom(LPlateLast$Net;)V -/
set_option maxRecDepth 100000 in
def zf_X3_copyFrom_26_b (oth_tenths : (Nat → Int32)) (oth_seats : Int32) (oth_kind : Int32) (oth_penny : Int32) (k26 : (Nat → Int32) → (Nat → Int32) → (Nat → Int32) → Int32 → Int32 → Int32 → Int32 → Option ((Nat → Int32) × (Nat → Int32) × (Nat → Int32) × Int32 × Int32 × Int32)) (th_tenths : (Nat → Int32)) (th_toldFrom : (Nat → Int32)) (th_wayCount : (Nat → Int32)) (th_seats : Int32) (th_kind : Int32) (th_penny : Int32) (v2 : Int32) : Option ((Nat → Int32) × (Nat → Int32) × (Nat → Int32) × Int32 × Int32 × Int32) := (if (64 : Int32) ≤ v2 then (some (th_tenths, th_toldFrom, th_wayCount, th_seats, th_kind, th_penny)) else (if v2 < 0 ∨ 64 ≤ (v2).toNatClampNeg then none else (k26 (upd th_tenths (v2).toNatClampNeg (oth_tenths (v2).toNatClampNeg)) th_toldFrom th_wayCount th_seats th_kind th_penny (v2 + (1 : Int32)))))
def zf_X3_copyFrom_26 (oth_tenths : (Nat → Int32)) (oth_seats : Int32) (oth_kind : Int32) (oth_penny : Int32) : Nat → (Nat → Int32) → (Nat → Int32) → (Nat → Int32) → Int32 → Int32 → Int32 → Int32 → Option ((Nat → Int32) × (Nat → Int32) × (Nat → Int32) × Int32 × Int32 × Int32)
  | 0 => fun _ _ _ _ _ _ _ => none
  | n + 1 => fun th_tenths th_toldFrom th_wayCount th_seats th_kind th_penny v2 => zf_X3_copyFrom_26_b oth_tenths oth_seats oth_kind oth_penny (zf_X3_copyFrom_26 oth_tenths oth_seats oth_kind oth_penny n) th_tenths th_toldFrom th_wayCount th_seats th_kind th_penny v2
set_option maxRecDepth 100000 in
def zf_X3_copyFrom (oth_tenths : (Nat → Int32)) (oth_seats : Int32) (oth_kind : Int32) (oth_penny : Int32) (th_tenths : (Nat → Int32)) (th_toldFrom : (Nat → Int32)) (th_wayCount : (Nat → Int32)) (th_seats : Int32) (th_kind : Int32) (th_penny : Int32) : Option ((Nat → Int32) × (Nat → Int32) × (Nat → Int32) × Int32 × Int32 × Int32) := (Option.bind (zf_X3_clear oth_seats th_tenths th_toldFrom th_wayCount th_seats th_kind th_penny) (fun x_1 => (zf_X3_copyFrom_26 oth_tenths oth_seats oth_kind oth_penny zfuel x_1.1 x_1.2.1 x_1.2.2.1 x_1.2.2.2.1 oth_kind oth_penny (0 : Int32))))
/-! X3_has : PlateLast$Net.has(I)Z -/
set_option maxRecDepth 100000 in
def zf_X3_has (p0 : Int32) (th_seats : Int32) : Option (Int32) := (if p0 < 0 then (some (0 : Int32)) else (if th_seats ≤ p0 then (some (0 : Int32)) else (if (8 : Int32) ≤ p0 then (some (0 : Int32)) else (some (1 : Int32)))))
/-! X3_allBits : PlateLast$Net.allBits()I -/
set_option maxRecDepth 100000 in
def zf_X3_allBits (th_seats : Int32) : Option (Int32) := (some (((1 : Int32) <<< (th_seats &&& 31)) - (1 : Int32)))
/-! X3_tenthsOf : PlateLast$Net.tenthsOf(II)I -/
set_option maxRecDepth 100000 in
def zf_X3_tenthsOf (p0 : Int32) (p1 : Int32) (th_tenths : (Nat → Int32)) (th_seats : Int32) : Option (Int32) := (Option.bind (zf_X3_has p0 th_seats) (fun x_1 => (if x_1 = 0 then (some (0 : Int32)) else (Option.bind (zf_X3_has p1 th_seats) (fun x_4 => (if x_4 = 0 then (some (0 : Int32)) else (if ((p0 * (8 : Int32)) + p1) < 0 ∨ 64 ≤ (((p0 * (8 : Int32)) + p1)).toNatClampNeg then none else (some (th_tenths (((p0 * (8 : Int32)) + p1)).toNatClampNeg)))))))))
/-! X3_tell : PlateLast$Net.tell(III)V -/
set_option maxRecDepth 100000 in
def zf_X3_tell (p0 : Int32) (p1 : Int32) (p2 : Int32) (th_seats : Int32) (th_tenths : (Nat → Int32)) (th_toldFrom : (Nat → Int32)) (th_wayCount : (Nat → Int32)) : Option ((Nat → Int32) × (Nat → Int32) × (Nat → Int32)) := (Option.bind (zf_X3_has p0 th_seats) (fun x_1 => (if x_1 = 0 then (some (th_tenths, th_toldFrom, th_wayCount)) else (Option.bind (zf_X3_has p1 th_seats) (fun x_4 => (if x_4 = 0 then (some (th_tenths, th_toldFrom, th_wayCount)) else (if ((p0 * (8 : Int32)) + p1) < 0 ∨ 64 ≤ (((p0 * (8 : Int32)) + p1)).toNatClampNeg then none else (if p0 < 0 ∨ 8 ≤ (p0).toNatClampNeg then none else (some ((upd th_tenths (((p0 * (8 : Int32)) + p1)).toNatClampNeg ((th_tenths (((p0 * (8 : Int32)) + p1)).toNatClampNeg) + p2)), (upd th_toldFrom (p0).toNatClampNeg ((th_toldFrom (p0).toNatClampNeg) + p2)), (upd th_wayCount (p0).toNatClampNeg ((th_wayCount (p0).toNatClampNeg) + (1 : Int32)))))))))))))
/-! X3_lay : PlateLast$Net.lay(II)V -/
set_option maxRecDepth 100000 in
def zf_X3_lay_125 (th_seats : Int32) (k20 : (Nat → Int32) → (Nat → Int32) → (Nat → Int32) → Int32 → Int32 → Int32 → Int32 → Int32 → Int32 → Option ((Nat → Int32) × (Nat → Int32) × (Nat → Int32) × Int32 × Int32)) (th_tenths : (Nat → Int32)) (th_toldFrom : (Nat → Int32)) (th_wayCount : (Nat → Int32)) (th_kind : Int32) (th_penny : Int32) (v1 : Int32) (v2 : Int32) (v3 : Int32) (v4 : Int32) : Option ((Nat → Int32) × (Nat → Int32) × (Nat → Int32) × Int32 × Int32) := (k20 th_tenths th_toldFrom th_wayCount th_kind th_penny v1 v2 v3 (v4 + (1 : Int32)))
set_option maxRecDepth 100000 in
def zf_X3_lay_104 (th_seats : Int32) (k20 : (Nat → Int32) → (Nat → Int32) → (Nat → Int32) → Int32 → Int32 → Int32 → Int32 → Int32 → Int32 → Option ((Nat → Int32) × (Nat → Int32) × (Nat → Int32) × Int32 × Int32)) (th_tenths : (Nat → Int32)) (th_toldFrom : (Nat → Int32)) (th_wayCount : (Nat → Int32)) (th_kind : Int32) (th_penny : Int32) (v1 : Int32) (v2 : Int32) (v3 : Int32) (v4 : Int32) (v5 : Int32) (v6 : Int32) : Option ((Nat → Int32) × (Nat → Int32) × (Nat → Int32) × Int32 × Int32) := (Option.bind (zf_X3_tell v4 v5 v2 th_seats th_tenths th_toldFrom th_wayCount) (fun x_1 => (Option.bind (zf_X3_tell v4 v6 ((10 : Int32) - v2) th_seats x_1.1 x_1.2.1 x_1.2.2) (fun x_3 => (zf_X3_lay_125 th_seats k20 x_3.1 x_3.2.1 x_3.2.2 th_kind th_penny v1 v2 v3 v4)))))
set_option maxRecDepth 100000 in
def zf_X3_lay_80 (th_seats : Int32) (k20 : (Nat → Int32) → (Nat → Int32) → (Nat → Int32) → Int32 → Int32 → Int32 → Int32 → Int32 → Int32 → Option ((Nat → Int32) × (Nat → Int32) × (Nat → Int32) × Int32 × Int32)) (th_tenths : (Nat → Int32)) (th_toldFrom : (Nat → Int32)) (th_wayCount : (Nat → Int32)) (th_kind : Int32) (th_penny : Int32) (v1 : Int32) (v2 : Int32) (v3 : Int32) (v4 : Int32) (v5 : Int32) (v6 : Int32) : Option ((Nat → Int32) × (Nat → Int32) × (Nat → Int32) × Int32 × Int32) := (if v1 = (1 : Int32) then (if v4 = v3 then (Option.bind (zf_X3_tell v4 v6 (10 : Int32) th_seats th_tenths th_toldFrom th_wayCount) (fun x_3 => (zf_X3_lay_125 th_seats k20 x_3.1 x_3.2.1 x_3.2.2 th_kind th_penny v1 v2 v3 v4))) else (zf_X3_lay_104 th_seats k20 th_tenths th_toldFrom th_wayCount th_kind th_penny v1 v2 v3 v4 v5 v6)) else (zf_X3_lay_104 th_seats k20 th_tenths th_toldFrom th_wayCount th_kind th_penny v1 v2 v3 v4 v5 v6))
set_option maxRecDepth 100000 in
def zf_X3_lay_55 (th_seats : Int32) (k20 : (Nat → Int32) → (Nat → Int32) → (Nat → Int32) → Int32 → Int32 → Int32 → Int32 → Int32 → Int32 → Option ((Nat → Int32) × (Nat → Int32) × (Nat → Int32) × Int32 × Int32)) (th_tenths : (Nat → Int32)) (th_toldFrom : (Nat → Int32)) (th_wayCount : (Nat → Int32)) (th_kind : Int32) (th_penny : Int32) (v1 : Int32) (v2 : Int32) (v3 : Int32) (v4 : Int32) (v5 : Int32) (s0 : Int32) : Option ((Nat → Int32) × (Nat → Int32) × (Nat → Int32) × Int32 × Int32) := (if v1 = (1 : Int32) then (if v4 = 0 then (Option.bind (zf_X3_tell v4 v5 (10 : Int32) th_seats th_tenths th_toldFrom th_wayCount) (fun x_3 => (zf_X3_lay_125 th_seats k20 x_3.1 x_3.2.1 x_3.2.2 th_kind th_penny v1 v2 v3 v4))) else (zf_X3_lay_80 th_seats k20 th_tenths th_toldFrom th_wayCount th_kind th_penny v1 v2 v3 v4 v5 s0)) else (zf_X3_lay_80 th_seats k20 th_tenths th_toldFrom th_wayCount th_kind th_penny v1 v2 v3 v4 v5 s0))
set_option maxRecDepth 100000 in
def zf_X3_lay_40 (th_seats : Int32) (k20 : (Nat → Int32) → (Nat → Int32) → (Nat → Int32) → Int32 → Int32 → Int32 → Int32 → Int32 → Int32 → Option ((Nat → Int32) × (Nat → Int32) × (Nat → Int32) × Int32 × Int32)) (th_tenths : (Nat → Int32)) (th_toldFrom : (Nat → Int32)) (th_wayCount : (Nat → Int32)) (th_kind : Int32) (th_penny : Int32) (v1 : Int32) (v2 : Int32) (v3 : Int32) (v4 : Int32) (s0 : Int32) : Option ((Nat → Int32) × (Nat → Int32) × (Nat → Int32) × Int32 × Int32) := (if v4 ≤ 0 then (zf_X3_lay_55 th_seats k20 th_tenths th_toldFrom th_wayCount th_kind th_penny v1 v2 v3 v4 s0 v3) else (zf_X3_lay_55 th_seats k20 th_tenths th_toldFrom th_wayCount th_kind th_penny v1 v2 v3 v4 s0 (v4 - (1 : Int32))))
set_option maxRecDepth 100000 in
def zf_X3_lay_20_b (th_seats : Int32) (k20 : (Nat → Int32) → (Nat → Int32) → (Nat → Int32) → Int32 → Int32 → Int32 → Int32 → Int32 → Int32 → Option ((Nat → Int32) × (Nat → Int32) × (Nat → Int32) × Int32 × Int32)) (th_tenths : (Nat → Int32)) (th_toldFrom : (Nat → Int32)) (th_wayCount : (Nat → Int32)) (th_kind : Int32) (th_penny : Int32) (v1 : Int32) (v2 : Int32) (v3 : Int32) (v4 : Int32) : Option ((Nat → Int32) × (Nat → Int32) × (Nat → Int32) × Int32 × Int32) := (if v3 < v4 then (some (th_tenths, th_toldFrom, th_wayCount, th_kind, th_penny)) else (if v3 ≤ v4 then (zf_X3_lay_40 th_seats k20 th_tenths th_toldFrom th_wayCount th_kind th_penny v1 v2 v3 v4 (0 : Int32)) else (zf_X3_lay_40 th_seats k20 th_tenths th_toldFrom th_wayCount th_kind th_penny v1 v2 v3 v4 (v4 + (1 : Int32)))))
def zf_X3_lay_20 (th_seats : Int32) : Nat → (Nat → Int32) → (Nat → Int32) → (Nat → Int32) → Int32 → Int32 → Int32 → Int32 → Int32 → Int32 → Option ((Nat → Int32) × (Nat → Int32) × (Nat → Int32) × Int32 × Int32)
  | 0 => fun _ _ _ _ _ _ _ _ _ => none
  | n + 1 => fun th_tenths th_toldFrom th_wayCount th_kind th_penny v1 v2 v3 v4 => zf_X3_lay_20_b th_seats (zf_X3_lay_20 th_seats n) th_tenths th_toldFrom th_wayCount th_kind th_penny v1 v2 v3 v4
set_option maxRecDepth 100000 in
def zf_X3_lay (p0 : Int32) (p1 : Int32) (th_seats : Int32) (th_tenths : (Nat → Int32)) (th_toldFrom : (Nat → Int32)) (th_wayCount : (Nat → Int32)) (th_kind : Int32) (th_penny : Int32) : Option ((Nat → Int32) × (Nat → Int32) × (Nat → Int32) × Int32 × Int32) := (zf_X3_lay_20 th_seats zfuel th_tenths th_toldFrom th_wayCount p0 p1 p0 p1 (th_seats - (1 : Int32)) (0 : Int32))
/-! X3_layStays : PlateLast$Net.layStays()V -/
set_option maxRecDepth 100000 in
def zf_X3_layStays_35 (th_seats : Int32) (k2 : (Nat → Int32) → (Nat → Int32) → (Nat → Int32) → Int32 → Option ((Nat → Int32) × (Nat → Int32) × (Nat → Int32))) (th_tenths : (Nat → Int32)) (th_toldFrom : (Nat → Int32)) (th_wayCount : (Nat → Int32)) (v1 : Int32) : Option ((Nat → Int32) × (Nat → Int32) × (Nat → Int32)) := (k2 th_tenths th_toldFrom th_wayCount (v1 + (1 : Int32)))
set_option maxRecDepth 100000 in
def zf_X3_layStays_2_b (th_seats : Int32) (k2 : (Nat → Int32) → (Nat → Int32) → (Nat → Int32) → Int32 → Option ((Nat → Int32) × (Nat → Int32) × (Nat → Int32))) (th_tenths : (Nat → Int32)) (th_toldFrom : (Nat → Int32)) (th_wayCount : (Nat → Int32)) (v1 : Int32) : Option ((Nat → Int32) × (Nat → Int32) × (Nat → Int32)) := (if th_seats ≤ v1 then (some (th_tenths, th_toldFrom, th_wayCount)) else (Option.bind (zf_X3_has v1 th_seats) (fun x_2 => (if x_2 = 0 then (zf_X3_layStays_35 th_seats k2 th_tenths th_toldFrom th_wayCount v1) else (if v1 < 0 ∨ 8 ≤ (v1).toNatClampNeg then none else (if (th_toldFrom (v1).toNatClampNeg) = 0 then (Option.bind (zf_X3_tell v1 v1 (10 : Int32) th_seats th_tenths th_toldFrom th_wayCount) (fun x_7 => (zf_X3_layStays_35 th_seats k2 x_7.1 x_7.2.1 x_7.2.2 v1))) else (zf_X3_layStays_35 th_seats k2 th_tenths th_toldFrom th_wayCount v1)))))))
def zf_X3_layStays_2 (th_seats : Int32) : Nat → (Nat → Int32) → (Nat → Int32) → (Nat → Int32) → Int32 → Option ((Nat → Int32) × (Nat → Int32) × (Nat → Int32))
  | 0 => fun _ _ _ _ => none
  | n + 1 => fun th_tenths th_toldFrom th_wayCount v1 => zf_X3_layStays_2_b th_seats (zf_X3_layStays_2 th_seats n) th_tenths th_toldFrom th_wayCount v1
set_option maxRecDepth 100000 in
def zf_X3_layStays (th_seats : Int32) (th_tenths : (Nat → Int32)) (th_toldFrom : (Nat → Int32)) (th_wayCount : (Nat → Int32)) : Option ((Nat → Int32) × (Nat → Int32) × (Nat → Int32)) := (zf_X3_layStays_2 th_seats zfuel th_tenths th_toldFrom th_wayCount (0 : Int32))
/-! X3_stays : PlateLast$Net.stays(I)Z -/
set_option maxRecDepth 100000 in
def zf_X3_stays (p0 : Int32) (th_tenths : (Nat → Int32)) (th_seats : Int32) : Option (Int32) := (Option.bind (zf_X3_tenthsOf p0 p0 th_tenths th_seats) (fun x_1 => (if x_1 ≤ 0 then (some (0 : Int32)) else (some (1 : Int32)))))
/-! X3_hasRoomFrom : PlateLast$Net.hasRoomFrom(I)Z -/
set_option maxRecDepth 100000 in
def zf_X3_hasRoomFrom (p0 : Int32) (th_toldFrom : (Nat → Int32)) (th_seats : Int32) : Option (Int32) := (Option.bind (zf_X3_has p0 th_seats) (fun x_1 => (if x_1 = 0 then (some (0 : Int32)) else (if p0 < 0 ∨ 8 ≤ (p0).toNatClampNeg then none else (if (10 : Int32) ≤ (th_toldFrom (p0).toNatClampNeg) then (some (0 : Int32)) else (some (1 : Int32)))))))
/-! X3_hasRoom : PlateLast$Net.hasRoom()Z -/
set_option maxRecDepth 100000 in
def zf_X3_hasRoom_2_b (th_toldFrom : (Nat → Int32)) (th_seats : Int32) (k2 : Int32 → Option (Int32)) (v1 : Int32) : Option (Int32) := (if th_seats ≤ v1 then (some (0 : Int32)) else (Option.bind (zf_X3_hasRoomFrom v1 th_toldFrom th_seats) (fun x_2 => (if x_2 = 0 then (k2 (v1 + (1 : Int32))) else (some (1 : Int32))))))
def zf_X3_hasRoom_2 (th_toldFrom : (Nat → Int32)) (th_seats : Int32) : Nat → Int32 → Option (Int32)
  | 0 => fun _ => none
  | n + 1 => fun v1 => zf_X3_hasRoom_2_b th_toldFrom th_seats (zf_X3_hasRoom_2 th_toldFrom th_seats n) v1
set_option maxRecDepth 100000 in
def zf_X3_hasRoom (th_toldFrom : (Nat → Int32)) (th_seats : Int32) : Option (Int32) := (zf_X3_hasRoom_2 th_toldFrom th_seats zfuel (0 : Int32))
/-! X3_isFree : PlateLast$Net.isFree(II)Z -/
set_option maxRecDepth 100000 in
def zf_X3_isFree (p0 : Int32) (p1 : Int32) (th_tenths : (Nat → Int32)) (th_seats : Int32) : Option (Int32) := (Option.bind (zf_X3_has p0 th_seats) (fun x_1 => (if x_1 = 0 then (some (0 : Int32)) else (Option.bind (zf_X3_has p1 th_seats) (fun x_4 => (if x_4 = 0 then (some (0 : Int32)) else (if p0 = p1 then (some (0 : Int32)) else (Option.bind (zf_X3_tenthsOf p0 p1 th_tenths th_seats) (fun x_8 => (if x_8 = 0 then (some (1 : Int32)) else (some (0 : Int32))))))))))))
/-! X3_canTell : PlateLast$Net.canTell(II)Z -/
set_option maxRecDepth 100000 in
def zf_X3_canTell_53 (th_toldFrom : (Nat → Int32)) (th_wayCount : (Nat → Int32)) (th_seats : Int32) : Option (Int32) := (some (1 : Int32))
set_option maxRecDepth 100000 in
def zf_X3_canTell (p0 : Int32) (p1 : Int32) (th_toldFrom : (Nat → Int32)) (th_wayCount : (Nat → Int32)) (th_seats : Int32) : Option (Int32) := (Option.bind (zf_X3_has p0 th_seats) (fun x_1 => (if x_1 = 0 then (some (0 : Int32)) else (if (1 : Int32) ≤ p1 then (if p0 < 0 ∨ 8 ≤ (p0).toNatClampNeg then none else (if ((th_toldFrom (p0).toNatClampNeg) + p1) = (10 : Int32) then (zf_X3_canTell_53 th_toldFrom th_wayCount th_seats) else (if (10 : Int32) ≤ ((th_toldFrom (p0).toNatClampNeg) + p1) then (some (0 : Int32)) else (if (th_seats - (1 : Int32)) ≤ ((th_wayCount (p0).toNatClampNeg) + (1 : Int32)) then (some (0 : Int32)) else (zf_X3_canTell_53 th_toldFrom th_wayCount th_seats))))) else (some (0 : Int32))))))
/-! X3_isWhole : PlateLast$Net.isWhole()Z -/
set_option maxRecDepth 100000 in
def zf_X3_isWhole_40 (th_toldFrom : (Nat → Int32)) (th_seats : Int32) (k2 : Int32 → Option (Int32)) (v1 : Int32) : Option (Int32) := (k2 (v1 + (1 : Int32)))
set_option maxRecDepth 100000 in
def zf_X3_isWhole_2_b (th_toldFrom : (Nat → Int32)) (th_seats : Int32) (k2 : Int32 → Option (Int32)) (v1 : Int32) : Option (Int32) := (if th_seats ≤ v1 then (some (1 : Int32)) else (Option.bind (zf_X3_has v1 th_seats) (fun x_2 => (if x_2 = 0 then (zf_X3_isWhole_40 th_toldFrom th_seats k2 v1) else (if v1 < 0 ∨ 8 ≤ (v1).toNatClampNeg then none else (if (th_toldFrom (v1).toNatClampNeg) ≤ 0 then (zf_X3_isWhole_40 th_toldFrom th_seats k2 v1) else (if (10 : Int32) ≤ (th_toldFrom (v1).toNatClampNeg) then (zf_X3_isWhole_40 th_toldFrom th_seats k2 v1) else (some (0 : Int32)))))))))
def zf_X3_isWhole_2 (th_toldFrom : (Nat → Int32)) (th_seats : Int32) : Nat → Int32 → Option (Int32)
  | 0 => fun _ => none
  | n + 1 => fun v1 => zf_X3_isWhole_2_b th_toldFrom th_seats (zf_X3_isWhole_2 th_toldFrom th_seats n) v1
set_option maxRecDepth 100000 in
def zf_X3_isWhole (th_toldFrom : (Nat → Int32)) (th_seats : Int32) : Option (Int32) := (zf_X3_isWhole_2 th_toldFrom th_seats zfuel (0 : Int32))
/-! X3_clear : PlateLast$Net.clear(I)V -/
theorem zi_X3_clear_3 : ∀ w ∈ u_ws RX3 TX3 6, w ∈ wsX3_clear := by decide +kernel
theorem zl_X3_clear_1 : Cond.fieldLink RX3 9 "PlateLast$Net" "tenths" "[I" ∈ wsX3_clear := by decide +kernel
theorem zl_X3_clear_2 : Cond.fieldLink RX3 15 "PlateLast$Net" "toldFrom" "[I" ∈ wsX3_clear := by decide +kernel
theorem zl_X3_clear_3 : Cond.fieldLink RX3 18 "PlateLast$Net" "wayCount" "[I" ∈ wsX3_clear := by decide +kernel
theorem zl_X3_clear_4 : Cond.fieldLink RX3 21 "PlateLast$Net" "seats" "I" ∈ wsX3_clear := by decide +kernel
theorem zl_X3_clear_5 : Cond.fieldLink RX3 25 "PlateLast$Net" "kind" "I" ∈ wsX3_clear := by decide +kernel
theorem zl_X3_clear_6 : Cond.fieldLink RX3 28 "PlateLast$Net" "penny" "I" ∈ wsX3_clear := by decide +kernel
set_option maxHeartbeats 4000000 in
set_option maxRecDepth 100000 in
theorem zw_X3_clear_38_b {p : Program} {l : Launch} {e : Env} {s : State} {m : MethodId} {args : Array Value} {below : List Frame} {meth : Method} {c : Code} {dC : Nat → ClassId} {dI : Nat → Nat → Nat} {cI cJ cZ : ClassId} {A : Nat → Prop} {a_th a_th_tenths a_th_toldFrom a_th_wayCount : Nat} {o : (Nat → Int32) × (Nat → Int32) × (Nat → Int32) × Int32 × Int32 × Int32} (C0 : zz_C p s m args meth c cX3_clear 3 RX3 wsX3_clear (none)) (hE : zz_EV (dC, dI) (zz_T cI cJ cZ) s) (hA : ∀ q : Nat, s.heap.size ≤ q → A q) (k38 : (Nat → Int32) → (Nat → Int32) → (Nat → Int32) → Int32 → Int32 → Int32 → Int32 → Option ((Nat → Int32) × (Nat → Int32) × (Nat → Int32) × Int32 × Int32 × Int32)) (hk38 : ∀ (th_tenths : (Nat → Int32)) (th_toldFrom : (Nat → Int32)) (th_wayCount : (Nat → Int32)) (th_seats : Int32) (th_kind : Int32) (th_penny : Int32) (v2 : Int32), k38 th_tenths th_toldFrom th_wayCount th_seats th_kind th_penny v2 = some o → ∀ (H : Heap) (locs : List Loc) (ls : Array Slot), va_P (dC, dI) vwCl [(a_th, .inr (3, [.ref a_th_tenths, .ref a_th_toldFrom, .ref a_th_wayCount, .int th_seats, .int th_kind, .int th_penny])), (a_th_tenths, .inl (cI, 64, .inl th_tenths)), (a_th_toldFrom, .inl (cI, 8, .inl th_toldFrom)), (a_th_wayCount, .inl (cI, 8, .inl th_wayCount))] H → va_D A [(a_th, .inr (3, [.ref a_th_tenths, .ref a_th_toldFrom, .ref a_th_wayCount, .int th_seats, .int th_kind, .int th_penny])), (a_th_tenths, .inl (cI, 64, .inl th_tenths)), (a_th_toldFrom, .inl (cI, 8, .inl th_toldFrom)), (a_th_wayCount, .inl (cI, 8, .inl th_wayCount))] → va_S A s.heap H locs → lv_has ls 3 [(0, .ref a_th), (2, .int v2)] → W p l e { frames := 0, cells := 0, slots := 0, locals := 0 } s m args below meth c H locs 0 0 (MQ below (zz_QV (dC, dI) (zz_T cI cJ cZ) A (fun _ : Unit => [(a_th, .inr (3, [.ref a_th_tenths, .ref a_th_toldFrom, .ref a_th_wayCount, .int o.2.2.2.1, .int o.2.2.2.2.1, .int o.2.2.2.2.2])), (a_th_tenths, .inl (cI, 64, .inl o.1)), (a_th_toldFrom, .inl (cI, 8, .inl o.2.1)), (a_th_wayCount, .inl (cI, 8, .inl o.2.2.1))])) args s 0 0 A) (F0 m 38 ls [])) {th_tenths : (Nat → Int32)} {th_toldFrom : (Nat → Int32)} {th_wayCount : (Nat → Int32)} {th_seats : Int32} {th_kind : Int32} {th_penny : Int32} {v2 : Int32} (h : zf_X3_clear_38_b k38 th_tenths th_toldFrom th_wayCount th_seats th_kind th_penny v2 = some o) : ∀ (H : Heap) (locs : List Loc) (ls : Array Slot), va_P (dC, dI) vwCl [(a_th, .inr (3, [.ref a_th_tenths, .ref a_th_toldFrom, .ref a_th_wayCount, .int th_seats, .int th_kind, .int th_penny])), (a_th_tenths, .inl (cI, 64, .inl th_tenths)), (a_th_toldFrom, .inl (cI, 8, .inl th_toldFrom)), (a_th_wayCount, .inl (cI, 8, .inl th_wayCount))] H → va_D A [(a_th, .inr (3, [.ref a_th_tenths, .ref a_th_toldFrom, .ref a_th_wayCount, .int th_seats, .int th_kind, .int th_penny])), (a_th_tenths, .inl (cI, 64, .inl th_tenths)), (a_th_toldFrom, .inl (cI, 8, .inl th_toldFrom)), (a_th_wayCount, .inl (cI, 8, .inl th_wayCount))] → va_S A s.heap H locs → lv_has ls 3 [(0, .ref a_th), (2, .int v2)] → W p l e { frames := 0, cells := 0, slots := 0, locals := 0 } s m args below meth c H locs 0 0 (MQ below (zz_QV (dC, dI) (zz_T cI cJ cZ) A (fun _ : Unit => [(a_th, .inr (3, [.ref a_th_tenths, .ref a_th_toldFrom, .ref a_th_wayCount, .int o.2.2.2.1, .int o.2.2.2.2.1, .int o.2.2.2.2.2])), (a_th_tenths, .inl (cI, 64, .inl o.1)), (a_th_toldFrom, .inl (cI, 8, .inl o.2.1)), (a_th_wayCount, .inl (cI, 8, .inl o.2.2.1))])) args s 0 0 A) (F0 m 38 ls []) := by
  obtain ⟨⟨hx, hb, hml, hown, hts⟩, hr, hlocks⟩ := id C0
  unfold zf_X3_clear_38_b at h
  intro H locs ls hP hD hS hl
  refine lv_iload_n hx hb dX3_clear_38 rfl (lv_at hl 1 rfl) ?_
  refine lv_bipush (v := (8 : Int32)) hx hb dX3_clear_39 (by decide) ?_
  refine lv_icmp_ge (tgt := 64) hx hb dX3_clear_41 (by decide) (fun hc_1 => ?_) (fun hc_1 => ?_)
  · have h := zz_t hc_1 h
    obtain rfl := Option.some.inj h
    exact zk_vret hx hb hr hlocks hE () hP hD hS dX3_clear_64
  have h := zz_f hc_1 h
  refine lv_aload_n hx hb dX3_clear_44 rfl (lv_at hl 0 rfl) ?_
  refine va_get (D := (dC, dI)) (ci := 3) (v := .ref a_th_toldFrom) (C := RX3) (T := TX3) (N := 6) hx hb hts zi_X3_clear_3 hown hE.1 hP 0 rfl rfl 1 (by decide) (hts _ zl_X3_clear_2) (fun _ h9 => h9) rfl dX3_clear_45 ?_
  refine lv_iload_n hx hb dX3_clear_48 rfl (lv_at hl 1 rfl) ?_
  refine lv_iconst (v := (0 : Int32)) hx hb dX3_clear_49 (by decide) ?_
  obtain ⟨hin_2, h⟩ := zz_nn h
  refine va_iast hx hb hE.1 hP hD hS 2 0 rfl rfl hin_2 dX3_clear_50 (fun H locs hP hD hS => ?_)
  have hP : va_P (dC, dI) vwCl [(a_th, .inr (3, [.ref a_th_tenths, .ref a_th_toldFrom, .ref a_th_wayCount, .int th_seats, .int th_kind, .int th_penny])), (a_th_tenths, .inl (cI, 64, .inl th_tenths)), (a_th_toldFrom, .inl (cI, 8, .inl (upd th_toldFrom (v2).toNatClampNeg (0 : Int32)))), (a_th_wayCount, .inl (cI, 8, .inl th_wayCount))] H := hP
  have hD : va_D A [(a_th, .inr (3, [.ref a_th_tenths, .ref a_th_toldFrom, .ref a_th_wayCount, .int th_seats, .int th_kind, .int th_penny])), (a_th_tenths, .inl (cI, 64, .inl th_tenths)), (a_th_toldFrom, .inl (cI, 8, .inl (upd th_toldFrom (v2).toNatClampNeg (0 : Int32)))), (a_th_wayCount, .inl (cI, 8, .inl th_wayCount))] := hD
  refine lv_aload_n hx hb dX3_clear_51 rfl (lv_at hl 0 rfl) ?_
  refine va_get (D := (dC, dI)) (ci := 3) (v := .ref a_th_wayCount) (C := RX3) (T := TX3) (N := 6) hx hb hts zi_X3_clear_3 hown hE.1 hP 0 rfl rfl 2 (by decide) (hts _ zl_X3_clear_3) (fun _ h9 => h9) rfl dX3_clear_52 ?_
  refine lv_iload_n hx hb dX3_clear_55 rfl (lv_at hl 1 rfl) ?_
  refine lv_iconst (v := (0 : Int32)) hx hb dX3_clear_56 (by decide) ?_
  refine va_iast hx hb hE.1 hP hD hS 3 0 rfl rfl hin_2 dX3_clear_57 (fun H locs hP hD hS => ?_)
  have hP : va_P (dC, dI) vwCl [(a_th, .inr (3, [.ref a_th_tenths, .ref a_th_toldFrom, .ref a_th_wayCount, .int th_seats, .int th_kind, .int th_penny])), (a_th_tenths, .inl (cI, 64, .inl th_tenths)), (a_th_toldFrom, .inl (cI, 8, .inl (upd th_toldFrom (v2).toNatClampNeg (0 : Int32)))), (a_th_wayCount, .inl (cI, 8, .inl (upd th_wayCount (v2).toNatClampNeg (0 : Int32))))] H := hP
  have hD : va_D A [(a_th, .inr (3, [.ref a_th_tenths, .ref a_th_toldFrom, .ref a_th_wayCount, .int th_seats, .int th_kind, .int th_penny])), (a_th_tenths, .inl (cI, 64, .inl th_tenths)), (a_th_toldFrom, .inl (cI, 8, .inl (upd th_toldFrom (v2).toNatClampNeg (0 : Int32)))), (a_th_wayCount, .inl (cI, 8, .inl (upd th_wayCount (v2).toNatClampNeg (0 : Int32))))] := hD
  refine lv_iinc (v := (v2 + (1 : Int32))) (lv' := [(2, .int (v2 + (1 : Int32))), (0, .ref a_th)]) hx hb dX3_clear_58 hl (k := 1) rfl rfl (by decide) rfl (fun ls hl => ?_)
  refine lv_goto (tgt := 38) hx hb dX3_clear_61 (by decide) ?_
  exact hk38 th_tenths (upd th_toldFrom (v2).toNatClampNeg (0 : Int32)) (upd th_wayCount (v2).toNatClampNeg (0 : Int32)) th_seats th_kind th_penny (v2 + (1 : Int32)) h _ _ _ hP hD hS (lv_sub hl [1, 0] rfl)
set_option maxHeartbeats 4000000 in
set_option maxRecDepth 100000 in
theorem zw_X3_clear_38 {p : Program} {l : Launch} {e : Env} {s : State} {m : MethodId} {args : Array Value} {below : List Frame} {meth : Method} {c : Code} {dC : Nat → ClassId} {dI : Nat → Nat → Nat} {cI cJ cZ : ClassId} {A : Nat → Prop} {a_th a_th_tenths a_th_toldFrom a_th_wayCount : Nat} {o : (Nat → Int32) × (Nat → Int32) × (Nat → Int32) × Int32 × Int32 × Int32} (C0 : zz_C p s m args meth c cX3_clear 3 RX3 wsX3_clear (none)) (hE : zz_EV (dC, dI) (zz_T cI cJ cZ) s) (hA : ∀ q : Nat, s.heap.size ≤ q → A q) : ∀ (n : Nat) (th_tenths : (Nat → Int32)) (th_toldFrom : (Nat → Int32)) (th_wayCount : (Nat → Int32)) (th_seats : Int32) (th_kind : Int32) (th_penny : Int32) (v2 : Int32), zf_X3_clear_38 n th_tenths th_toldFrom th_wayCount th_seats th_kind th_penny v2 = some o → ∀ (H : Heap) (locs : List Loc) (ls : Array Slot), va_P (dC, dI) vwCl [(a_th, .inr (3, [.ref a_th_tenths, .ref a_th_toldFrom, .ref a_th_wayCount, .int th_seats, .int th_kind, .int th_penny])), (a_th_tenths, .inl (cI, 64, .inl th_tenths)), (a_th_toldFrom, .inl (cI, 8, .inl th_toldFrom)), (a_th_wayCount, .inl (cI, 8, .inl th_wayCount))] H → va_D A [(a_th, .inr (3, [.ref a_th_tenths, .ref a_th_toldFrom, .ref a_th_wayCount, .int th_seats, .int th_kind, .int th_penny])), (a_th_tenths, .inl (cI, 64, .inl th_tenths)), (a_th_toldFrom, .inl (cI, 8, .inl th_toldFrom)), (a_th_wayCount, .inl (cI, 8, .inl th_wayCount))] → va_S A s.heap H locs → lv_has ls 3 [(0, .ref a_th), (2, .int v2)] → W p l e { frames := 0, cells := 0, slots := 0, locals := 0 } s m args below meth c H locs 0 0 (MQ below (zz_QV (dC, dI) (zz_T cI cJ cZ) A (fun _ : Unit => [(a_th, .inr (3, [.ref a_th_tenths, .ref a_th_toldFrom, .ref a_th_wayCount, .int o.2.2.2.1, .int o.2.2.2.2.1, .int o.2.2.2.2.2])), (a_th_tenths, .inl (cI, 64, .inl o.1)), (a_th_toldFrom, .inl (cI, 8, .inl o.2.1)), (a_th_wayCount, .inl (cI, 8, .inl o.2.2.1))])) args s 0 0 A) (F0 m 38 ls []) := by
  intro n
  induction n with
  | zero =>
    intro th_tenths th_toldFrom th_wayCount th_seats th_kind th_penny v2 h
    cases h
  | succ n ih =>
    intro th_tenths th_toldFrom th_wayCount th_seats th_kind th_penny v2 h
    exact zw_X3_clear_38_b C0 hE hA  (zf_X3_clear_38 n) ih h
set_option maxHeartbeats 4000000 in
set_option maxRecDepth 100000 in
theorem zw_X3_clear_17_b {p : Program} {l : Launch} {e : Env} {s : State} {m : MethodId} {args : Array Value} {below : List Frame} {meth : Method} {c : Code} {dC : Nat → ClassId} {dI : Nat → Nat → Nat} {cI cJ cZ : ClassId} {A : Nat → Prop} {a_th a_th_tenths a_th_toldFrom a_th_wayCount : Nat} {o : (Nat → Int32) × (Nat → Int32) × (Nat → Int32) × Int32 × Int32 × Int32} (C0 : zz_C p s m args meth c cX3_clear 3 RX3 wsX3_clear (none)) (hE : zz_EV (dC, dI) (zz_T cI cJ cZ) s) (hA : ∀ q : Nat, s.heap.size ≤ q → A q) (k17 : (Nat → Int32) → (Nat → Int32) → (Nat → Int32) → Int32 → Int32 → Int32 → Int32 → Option ((Nat → Int32) × (Nat → Int32) × (Nat → Int32) × Int32 × Int32 × Int32)) (hk17 : ∀ (th_tenths : (Nat → Int32)) (th_toldFrom : (Nat → Int32)) (th_wayCount : (Nat → Int32)) (th_seats : Int32) (th_kind : Int32) (th_penny : Int32) (v2 : Int32), k17 th_tenths th_toldFrom th_wayCount th_seats th_kind th_penny v2 = some o → ∀ (H : Heap) (locs : List Loc) (ls : Array Slot), va_P (dC, dI) vwCl [(a_th, .inr (3, [.ref a_th_tenths, .ref a_th_toldFrom, .ref a_th_wayCount, .int th_seats, .int th_kind, .int th_penny])), (a_th_tenths, .inl (cI, 64, .inl th_tenths)), (a_th_toldFrom, .inl (cI, 8, .inl th_toldFrom)), (a_th_wayCount, .inl (cI, 8, .inl th_wayCount))] H → va_D A [(a_th, .inr (3, [.ref a_th_tenths, .ref a_th_toldFrom, .ref a_th_wayCount, .int th_seats, .int th_kind, .int th_penny])), (a_th_tenths, .inl (cI, 64, .inl th_tenths)), (a_th_toldFrom, .inl (cI, 8, .inl th_toldFrom)), (a_th_wayCount, .inl (cI, 8, .inl th_wayCount))] → va_S A s.heap H locs → lv_has ls 3 [(0, .ref a_th), (2, .int v2)] → W p l e { frames := 0, cells := 0, slots := 0, locals := 0 } s m args below meth c H locs 0 0 (MQ below (zz_QV (dC, dI) (zz_T cI cJ cZ) A (fun _ : Unit => [(a_th, .inr (3, [.ref a_th_tenths, .ref a_th_toldFrom, .ref a_th_wayCount, .int o.2.2.2.1, .int o.2.2.2.2.1, .int o.2.2.2.2.2])), (a_th_tenths, .inl (cI, 64, .inl o.1)), (a_th_toldFrom, .inl (cI, 8, .inl o.2.1)), (a_th_wayCount, .inl (cI, 8, .inl o.2.2.1))])) args s 0 0 A) (F0 m 17 ls [])) {th_tenths : (Nat → Int32)} {th_toldFrom : (Nat → Int32)} {th_wayCount : (Nat → Int32)} {th_seats : Int32} {th_kind : Int32} {th_penny : Int32} {v2 : Int32} (h : zf_X3_clear_17_b k17 th_tenths th_toldFrom th_wayCount th_seats th_kind th_penny v2 = some o) : ∀ (H : Heap) (locs : List Loc) (ls : Array Slot), va_P (dC, dI) vwCl [(a_th, .inr (3, [.ref a_th_tenths, .ref a_th_toldFrom, .ref a_th_wayCount, .int th_seats, .int th_kind, .int th_penny])), (a_th_tenths, .inl (cI, 64, .inl th_tenths)), (a_th_toldFrom, .inl (cI, 8, .inl th_toldFrom)), (a_th_wayCount, .inl (cI, 8, .inl th_wayCount))] H → va_D A [(a_th, .inr (3, [.ref a_th_tenths, .ref a_th_toldFrom, .ref a_th_wayCount, .int th_seats, .int th_kind, .int th_penny])), (a_th_tenths, .inl (cI, 64, .inl th_tenths)), (a_th_toldFrom, .inl (cI, 8, .inl th_toldFrom)), (a_th_wayCount, .inl (cI, 8, .inl th_wayCount))] → va_S A s.heap H locs → lv_has ls 3 [(0, .ref a_th), (2, .int v2)] → W p l e { frames := 0, cells := 0, slots := 0, locals := 0 } s m args below meth c H locs 0 0 (MQ below (zz_QV (dC, dI) (zz_T cI cJ cZ) A (fun _ : Unit => [(a_th, .inr (3, [.ref a_th_tenths, .ref a_th_toldFrom, .ref a_th_wayCount, .int o.2.2.2.1, .int o.2.2.2.2.1, .int o.2.2.2.2.2])), (a_th_tenths, .inl (cI, 64, .inl o.1)), (a_th_toldFrom, .inl (cI, 8, .inl o.2.1)), (a_th_wayCount, .inl (cI, 8, .inl o.2.2.1))])) args s 0 0 A) (F0 m 17 ls []) := by
  obtain ⟨⟨hx, hb, hml, hown, hts⟩, hr, hlocks⟩ := id C0
  unfold zf_X3_clear_17_b at h
  intro H locs ls hP hD hS hl
  refine lv_iload_n hx hb dX3_clear_17 rfl (lv_at hl 1 rfl) ?_
  refine lv_bipush (v := (64 : Int32)) hx hb dX3_clear_18 (by decide) ?_
  refine lv_icmp_ge (tgt := 36) hx hb dX3_clear_20 (by decide) (fun hc_1 => ?_) (fun hc_1 => ?_)
  · have h := zz_t hc_1 h
    refine lv_iconst (v := (0 : Int32)) hx hb dX3_clear_36 (by decide) ?_
    refine lv_istore_n (lv' := [(2, .int (0 : Int32)), (0, .ref a_th)]) hx hb dX3_clear_37 rfl hl (by decide) rfl (fun ls hl => ?_)
    exact zw_X3_clear_38 C0 hE hA  zfuel th_tenths th_toldFrom th_wayCount th_seats th_kind th_penny (0 : Int32) h _ _ _ hP hD hS (lv_sub hl [1, 0] rfl)
  have h := zz_f hc_1 h
  refine lv_aload_n hx hb dX3_clear_23 rfl (lv_at hl 0 rfl) ?_
  refine va_get (D := (dC, dI)) (ci := 3) (v := .ref a_th_tenths) (C := RX3) (T := TX3) (N := 6) hx hb hts zi_X3_clear_3 hown hE.1 hP 0 rfl rfl 0 (by decide) (hts _ zl_X3_clear_1) (fun _ h9 => h9) rfl dX3_clear_24 ?_
  refine lv_iload_n hx hb dX3_clear_27 rfl (lv_at hl 1 rfl) ?_
  refine lv_iconst (v := (0 : Int32)) hx hb dX3_clear_28 (by decide) ?_
  obtain ⟨hin_2, h⟩ := zz_nn h
  refine va_iast hx hb hE.1 hP hD hS 1 0 rfl rfl hin_2 dX3_clear_29 (fun H locs hP hD hS => ?_)
  have hP : va_P (dC, dI) vwCl [(a_th, .inr (3, [.ref a_th_tenths, .ref a_th_toldFrom, .ref a_th_wayCount, .int th_seats, .int th_kind, .int th_penny])), (a_th_tenths, .inl (cI, 64, .inl (upd th_tenths (v2).toNatClampNeg (0 : Int32)))), (a_th_toldFrom, .inl (cI, 8, .inl th_toldFrom)), (a_th_wayCount, .inl (cI, 8, .inl th_wayCount))] H := hP
  have hD : va_D A [(a_th, .inr (3, [.ref a_th_tenths, .ref a_th_toldFrom, .ref a_th_wayCount, .int th_seats, .int th_kind, .int th_penny])), (a_th_tenths, .inl (cI, 64, .inl (upd th_tenths (v2).toNatClampNeg (0 : Int32)))), (a_th_toldFrom, .inl (cI, 8, .inl th_toldFrom)), (a_th_wayCount, .inl (cI, 8, .inl th_wayCount))] := hD
  refine lv_iinc (v := (v2 + (1 : Int32))) (lv' := [(2, .int (v2 + (1 : Int32))), (0, .ref a_th)]) hx hb dX3_clear_30 hl (k := 1) rfl rfl (by decide) rfl (fun ls hl => ?_)
  refine lv_goto (tgt := 17) hx hb dX3_clear_33 (by decide) ?_
  exact hk17 (upd th_tenths (v2).toNatClampNeg (0 : Int32)) th_toldFrom th_wayCount th_seats th_kind th_penny (v2 + (1 : Int32)) h _ _ _ hP hD hS (lv_sub hl [1, 0] rfl)
set_option maxHeartbeats 4000000 in
set_option maxRecDepth 100000 in
theorem zw_X3_clear_17 {p : Program} {l : Launch} {e : Env} {s : State} {m : MethodId} {args : Array Value} {below : List Frame} {meth : Method} {c : Code} {dC : Nat → ClassId} {dI : Nat → Nat → Nat} {cI cJ cZ : ClassId} {A : Nat → Prop} {a_th a_th_tenths a_th_toldFrom a_th_wayCount : Nat} {o : (Nat → Int32) × (Nat → Int32) × (Nat → Int32) × Int32 × Int32 × Int32} (C0 : zz_C p s m args meth c cX3_clear 3 RX3 wsX3_clear (none)) (hE : zz_EV (dC, dI) (zz_T cI cJ cZ) s) (hA : ∀ q : Nat, s.heap.size ≤ q → A q) : ∀ (n : Nat) (th_tenths : (Nat → Int32)) (th_toldFrom : (Nat → Int32)) (th_wayCount : (Nat → Int32)) (th_seats : Int32) (th_kind : Int32) (th_penny : Int32) (v2 : Int32), zf_X3_clear_17 n th_tenths th_toldFrom th_wayCount th_seats th_kind th_penny v2 = some o → ∀ (H : Heap) (locs : List Loc) (ls : Array Slot), va_P (dC, dI) vwCl [(a_th, .inr (3, [.ref a_th_tenths, .ref a_th_toldFrom, .ref a_th_wayCount, .int th_seats, .int th_kind, .int th_penny])), (a_th_tenths, .inl (cI, 64, .inl th_tenths)), (a_th_toldFrom, .inl (cI, 8, .inl th_toldFrom)), (a_th_wayCount, .inl (cI, 8, .inl th_wayCount))] H → va_D A [(a_th, .inr (3, [.ref a_th_tenths, .ref a_th_toldFrom, .ref a_th_wayCount, .int th_seats, .int th_kind, .int th_penny])), (a_th_tenths, .inl (cI, 64, .inl th_tenths)), (a_th_toldFrom, .inl (cI, 8, .inl th_toldFrom)), (a_th_wayCount, .inl (cI, 8, .inl th_wayCount))] → va_S A s.heap H locs → lv_has ls 3 [(0, .ref a_th), (2, .int v2)] → W p l e { frames := 0, cells := 0, slots := 0, locals := 0 } s m args below meth c H locs 0 0 (MQ below (zz_QV (dC, dI) (zz_T cI cJ cZ) A (fun _ : Unit => [(a_th, .inr (3, [.ref a_th_tenths, .ref a_th_toldFrom, .ref a_th_wayCount, .int o.2.2.2.1, .int o.2.2.2.2.1, .int o.2.2.2.2.2])), (a_th_tenths, .inl (cI, 64, .inl o.1)), (a_th_toldFrom, .inl (cI, 8, .inl o.2.1)), (a_th_wayCount, .inl (cI, 8, .inl o.2.2.1))])) args s 0 0 A) (F0 m 17 ls []) := by
  intro n
  induction n with
  | zero =>
    intro th_tenths th_toldFrom th_wayCount th_seats th_kind th_penny v2 h
    cases h
  | succ n ih =>
    intro th_tenths th_toldFrom th_wayCount th_seats th_kind th_penny v2 h
    exact zw_X3_clear_17_b C0 hE hA  (zf_X3_clear_17 n) ih h
set_option maxHeartbeats 4000000 in
set_option maxRecDepth 100000 in
theorem zw_X3_clear {p : Program} {l : Launch} {e : Env} {s : State} {m : MethodId} {args : Array Value} {below : List Frame} {meth : Method} {c : Code} {dC : Nat → ClassId} {dI : Nat → Nat → Nat} {cI cJ cZ : ClassId} {A : Nat → Prop} {a_th a_th_tenths a_th_toldFrom a_th_wayCount : Nat} {o : (Nat → Int32) × (Nat → Int32) × (Nat → Int32) × Int32 × Int32 × Int32} (C0 : zz_C p s m args meth c cX3_clear 3 RX3 wsX3_clear (none)) (hE : zz_EV (dC, dI) (zz_T cI cJ cZ) s) (hA : ∀ q : Nat, s.heap.size ≤ q → A q) {th_tenths : (Nat → Int32)} {th_toldFrom : (Nat → Int32)} {th_wayCount : (Nat → Int32)} {th_seats : Int32} {th_kind : Int32} {th_penny : Int32} {p0 : Int32} (h : zf_X3_clear p0 th_tenths th_toldFrom th_wayCount th_seats th_kind th_penny = some o) : ∀ (H : Heap) (locs : List Loc) (ls : Array Slot), va_P (dC, dI) vwCl [(a_th, .inr (3, [.ref a_th_tenths, .ref a_th_toldFrom, .ref a_th_wayCount, .int th_seats, .int th_kind, .int th_penny])), (a_th_tenths, .inl (cI, 64, .inl th_tenths)), (a_th_toldFrom, .inl (cI, 8, .inl th_toldFrom)), (a_th_wayCount, .inl (cI, 8, .inl th_wayCount))] H → va_D A [(a_th, .inr (3, [.ref a_th_tenths, .ref a_th_toldFrom, .ref a_th_wayCount, .int th_seats, .int th_kind, .int th_penny])), (a_th_tenths, .inl (cI, 64, .inl th_tenths)), (a_th_toldFrom, .inl (cI, 8, .inl th_toldFrom)), (a_th_wayCount, .inl (cI, 8, .inl th_wayCount))] → va_S A s.heap H locs → lv_has ls 3 [(0, .ref a_th), (1, .int p0)] → W p l e { frames := 0, cells := 0, slots := 0, locals := 0 } s m args below meth c H locs 0 0 (MQ below (zz_QV (dC, dI) (zz_T cI cJ cZ) A (fun _ : Unit => [(a_th, .inr (3, [.ref a_th_tenths, .ref a_th_toldFrom, .ref a_th_wayCount, .int o.2.2.2.1, .int o.2.2.2.2.1, .int o.2.2.2.2.2])), (a_th_tenths, .inl (cI, 64, .inl o.1)), (a_th_toldFrom, .inl (cI, 8, .inl o.2.1)), (a_th_wayCount, .inl (cI, 8, .inl o.2.2.1))])) args s 0 0 A) (F0 m 0 ls []) := by
  obtain ⟨⟨hx, hb, hml, hown, hts⟩, hr, hlocks⟩ := id C0
  unfold zf_X3_clear at h
  intro H locs ls hP hD hS hl
  refine lv_aload_n hx hb dX3_clear_0 rfl (lv_at hl 0 rfl) ?_
  refine lv_iload_n hx hb dX3_clear_1 rfl (lv_at hl 1 rfl) ?_
  refine va_put (D := (dC, dI)) (ci := 3) (v := .int p0) (ty := .int) (C := RX3) (T := TX3) (N := 6) hx hb hts zi_X3_clear_3 tyX3 tyX3_ok nmX3 hown hE.1 hP hD hS 0 rfl rfl 3 (by decide) (hts _ zl_X3_clear_4) (fun _ h9 => h9) rfl (by decide +kernel) rfl rfl (Nat.le_of_ble_eq_true rfl) dX3_clear_2 (fun H locs hP hD hS => ?_)
  have hP : va_P (dC, dI) vwCl [(a_th, .inr (3, [.ref a_th_tenths, .ref a_th_toldFrom, .ref a_th_wayCount, .int p0, .int th_kind, .int th_penny])), (a_th_tenths, .inl (cI, 64, .inl th_tenths)), (a_th_toldFrom, .inl (cI, 8, .inl th_toldFrom)), (a_th_wayCount, .inl (cI, 8, .inl th_wayCount))] H := hP
  have hD : va_D A [(a_th, .inr (3, [.ref a_th_tenths, .ref a_th_toldFrom, .ref a_th_wayCount, .int p0, .int th_kind, .int th_penny])), (a_th_tenths, .inl (cI, 64, .inl th_tenths)), (a_th_toldFrom, .inl (cI, 8, .inl th_toldFrom)), (a_th_wayCount, .inl (cI, 8, .inl th_wayCount))] := hD
  refine lv_aload_n hx hb dX3_clear_5 rfl (lv_at hl 0 rfl) ?_
  refine lv_iconst (v := (2 : Int32)) hx hb dX3_clear_6 (by decide) ?_
  refine va_put (D := (dC, dI)) (ci := 3) (v := .int (2 : Int32)) (ty := .int) (C := RX3) (T := TX3) (N := 6) hx hb hts zi_X3_clear_3 tyX3 tyX3_ok nmX3 hown hE.1 hP hD hS 0 rfl rfl 4 (by decide) (hts _ zl_X3_clear_5) (fun _ h9 => h9) rfl (by decide +kernel) rfl rfl (Nat.le_of_ble_eq_true rfl) dX3_clear_7 (fun H locs hP hD hS => ?_)
  have hP : va_P (dC, dI) vwCl [(a_th, .inr (3, [.ref a_th_tenths, .ref a_th_toldFrom, .ref a_th_wayCount, .int p0, .int (2 : Int32), .int th_penny])), (a_th_tenths, .inl (cI, 64, .inl th_tenths)), (a_th_toldFrom, .inl (cI, 8, .inl th_toldFrom)), (a_th_wayCount, .inl (cI, 8, .inl th_wayCount))] H := hP
  have hD : va_D A [(a_th, .inr (3, [.ref a_th_tenths, .ref a_th_toldFrom, .ref a_th_wayCount, .int p0, .int (2 : Int32), .int th_penny])), (a_th_tenths, .inl (cI, 64, .inl th_tenths)), (a_th_toldFrom, .inl (cI, 8, .inl th_toldFrom)), (a_th_wayCount, .inl (cI, 8, .inl th_wayCount))] := hD
  refine lv_aload_n hx hb dX3_clear_10 rfl (lv_at hl 0 rfl) ?_
  refine lv_iconst (v := (0 : Int32)) hx hb dX3_clear_11 (by decide) ?_
  refine va_put (D := (dC, dI)) (ci := 3) (v := .int (0 : Int32)) (ty := .int) (C := RX3) (T := TX3) (N := 6) hx hb hts zi_X3_clear_3 tyX3 tyX3_ok nmX3 hown hE.1 hP hD hS 0 rfl rfl 5 (by decide) (hts _ zl_X3_clear_6) (fun _ h9 => h9) rfl (by decide +kernel) rfl rfl (Nat.le_of_ble_eq_true rfl) dX3_clear_12 (fun H locs hP hD hS => ?_)
  have hP : va_P (dC, dI) vwCl [(a_th, .inr (3, [.ref a_th_tenths, .ref a_th_toldFrom, .ref a_th_wayCount, .int p0, .int (2 : Int32), .int (0 : Int32)])), (a_th_tenths, .inl (cI, 64, .inl th_tenths)), (a_th_toldFrom, .inl (cI, 8, .inl th_toldFrom)), (a_th_wayCount, .inl (cI, 8, .inl th_wayCount))] H := hP
  have hD : va_D A [(a_th, .inr (3, [.ref a_th_tenths, .ref a_th_toldFrom, .ref a_th_wayCount, .int p0, .int (2 : Int32), .int (0 : Int32)])), (a_th_tenths, .inl (cI, 64, .inl th_tenths)), (a_th_toldFrom, .inl (cI, 8, .inl th_toldFrom)), (a_th_wayCount, .inl (cI, 8, .inl th_wayCount))] := hD
  refine lv_iconst (v := (0 : Int32)) hx hb dX3_clear_15 (by decide) ?_
  refine lv_istore_n (lv' := [(2, .int (0 : Int32)), (0, .ref a_th), (1, .int p0)]) hx hb dX3_clear_16 rfl hl (by decide) rfl (fun ls hl => ?_)
  exact zw_X3_clear_17 C0 hE hA  zfuel th_tenths th_toldFrom th_wayCount p0 (2 : Int32) (0 : Int32) (0 : Int32) h _ _ _ hP hD hS (lv_sub hl [1, 0] rfl)
set_option maxHeartbeats 4000000 in
set_option maxRecDepth 100000 in
theorem zc_X3_clear (l : Launch) (dC : Nat → ClassId) (dI : Nat → Nat → Nat) (cI cJ cZ : ClassId) (sz : Nat) (a_th a_th_tenths a_th_toldFrom a_th_wayCount : Nat) (th_tenths : (Nat → Int32)) (th_toldFrom : (Nat → Int32)) (th_wayCount : (Nat → Int32)) (th_seats : Int32) (th_kind : Int32) (th_penny : Int32) (p0 : Int32) {o : (Nat → Int32) × (Nat → Int32) × (Nat → Int32) × Int32 × Int32 × Int32} (h : zf_X3_clear p0 th_tenths th_toldFrom th_wayCount th_seats th_kind th_penny = some o) : Met l yX3_clear wsX3_clear { frames := 0, cells := 0, slots := 0, locals := 0 } (zz_PC (dC, dI) (zz_T cI cJ cZ) [.ref a_th, .int p0] sz [(a_th, .inr (3, [.ref a_th_tenths, .ref a_th_toldFrom, .ref a_th_wayCount, .int th_seats, .int th_kind, .int th_penny])), (a_th_tenths, .inl (cI, 64, .inl th_tenths)), (a_th_toldFrom, .inl (cI, 8, .inl th_toldFrom)), (a_th_wayCount, .inl (cI, 8, .inl th_wayCount))]) (zz_QV (dC, dI) (zz_T cI cJ cZ) (va_A [(a_th, .inr (3, [.ref a_th_tenths, .ref a_th_toldFrom, .ref a_th_wayCount, .int th_seats, .int th_kind, .int th_penny])), (a_th_tenths, .inl (cI, 64, .inl th_tenths)), (a_th_toldFrom, .inl (cI, 8, .inl th_toldFrom)), (a_th_wayCount, .inl (cI, 8, .inl th_wayCount))] sz) (fun _ : Unit => [(a_th, .inr (3, [.ref a_th_tenths, .ref a_th_toldFrom, .ref a_th_wayCount, .int o.2.2.2.1, .int o.2.2.2.2.1, .int o.2.2.2.2.2])), (a_th_tenths, .inl (cI, 64, .inl o.1)), (a_th_toldFrom, .inl (cI, 8, .inl o.2.1)), (a_th_wayCount, .inl (cI, 8, .inl o.2.2.1))])) 0 0 (va_A [(a_th, .inr (3, [.ref a_th_tenths, .ref a_th_toldFrom, .ref a_th_wayCount, .int th_seats, .int th_kind, .int th_penny])), (a_th_tenths, .inl (cI, 64, .inl th_tenths)), (a_th_toldFrom, .inl (cI, 8, .inl th_toldFrom)), (a_th_wayCount, .inl (cI, 8, .inl th_wayCount))] sz) := by
  refine zz_met (own := RX3) (cc := cX3_clear) (maxL := 3) (ret := none) (by decide) rfl rfl (Nat.le_of_ble_eq_true rfl) ?_
  intro p e s m below meth c ls hsz C0 hE hin hl hP hD
  subst hsz
  exact zw_X3_clear C0 hE (fun q hq => Or.inr hq) h _ _ _ hP hD va_S.rf hl
/-! X3_copyFrom : PlateLast$Net.copyFrom(LPlateLast$Net;)V -/
theorem zi_X3_copyFrom_3 : ∀ w ∈ u_ws RX3 TX3 6, w ∈ wsX3_copyFrom := by decide +kernel
theorem zl_X3_copyFrom_1 : Cond.fieldLink RX3 9 "PlateLast$Net" "tenths" "[I" ∈ wsX3_copyFrom := by decide +kernel
theorem zl_X3_copyFrom_2 : Cond.fieldLink RX3 21 "PlateLast$Net" "seats" "I" ∈ wsX3_copyFrom := by decide +kernel
theorem zl_X3_copyFrom_3 : Cond.fieldLink RX3 25 "PlateLast$Net" "kind" "I" ∈ wsX3_copyFrom := by decide +kernel
theorem zl_X3_copyFrom_4 : Cond.fieldLink RX3 28 "PlateLast$Net" "penny" "I" ∈ wsX3_copyFrom := by decide +kernel
set_option maxHeartbeats 4000000 in
set_option maxRecDepth 100000 in
theorem zw_X3_copyFrom_26_b {p : Program} {l : Launch} {e : Env} {s : State} {m : MethodId} {args : Array Value} {below : List Frame} {meth : Method} {c : Code} {dC : Nat → ClassId} {dI : Nat → Nat → Nat} {cI cJ cZ : ClassId} {A : Nat → Prop} {a_th a_th_tenths a_th_toldFrom a_th_wayCount a_oth a_oth_tenths a_oth_toldFrom a_oth_wayCount : Nat} {oth_tenths : (Nat → Int32)} {oth_seats : Int32} {oth_kind : Int32} {oth_penny : Int32} {o : (Nat → Int32) × (Nat → Int32) × (Nat → Int32) × Int32 × Int32 × Int32} (C0 : zz_C p s m args meth c cX3_copyFrom 3 RX3 wsX3_copyFrom (none)) (hE : zz_EV (dC, dI) (zz_T cI cJ cZ) s) (hA : ∀ q : Nat, s.heap.size ≤ q → A q) (k26 : (Nat → Int32) → (Nat → Int32) → (Nat → Int32) → Int32 → Int32 → Int32 → Int32 → Option ((Nat → Int32) × (Nat → Int32) × (Nat → Int32) × Int32 × Int32 × Int32)) (hk26 : ∀ (th_tenths : (Nat → Int32)) (th_toldFrom : (Nat → Int32)) (th_wayCount : (Nat → Int32)) (th_seats : Int32) (th_kind : Int32) (th_penny : Int32) (v2 : Int32), k26 th_tenths th_toldFrom th_wayCount th_seats th_kind th_penny v2 = some o → ∀ (H : Heap) (locs : List Loc) (ls : Array Slot), va_P (dC, dI) vwCl [(a_th, .inr (3, [.ref a_th_tenths, .ref a_th_toldFrom, .ref a_th_wayCount, .int th_seats, .int th_kind, .int th_penny])), (a_th_tenths, .inl (cI, 64, .inl th_tenths)), (a_th_toldFrom, .inl (cI, 8, .inl th_toldFrom)), (a_th_wayCount, .inl (cI, 8, .inl th_wayCount)), (a_oth, .inr (3, [.ref a_oth_tenths, .ref a_oth_toldFrom, .ref a_oth_wayCount, .int oth_seats, .int oth_kind, .int oth_penny])), (a_oth_tenths, .inl (cI, 64, .inl oth_tenths))] H → va_D A [(a_th, .inr (3, [.ref a_th_tenths, .ref a_th_toldFrom, .ref a_th_wayCount, .int th_seats, .int th_kind, .int th_penny])), (a_th_tenths, .inl (cI, 64, .inl th_tenths)), (a_th_toldFrom, .inl (cI, 8, .inl th_toldFrom)), (a_th_wayCount, .inl (cI, 8, .inl th_wayCount)), (a_oth, .inr (3, [.ref a_oth_tenths, .ref a_oth_toldFrom, .ref a_oth_wayCount, .int oth_seats, .int oth_kind, .int oth_penny])), (a_oth_tenths, .inl (cI, 64, .inl oth_tenths))] → va_S A s.heap H locs → lv_has ls 3 [(0, .ref a_th), (1, .ref a_oth), (2, .int v2)] → W p l e { frames := 1, cells := 0, slots := 0, locals := 22 } s m args below meth c H locs 0 0 (MQ below (zz_QV (dC, dI) (zz_T cI cJ cZ) A (fun _ : Unit => [(a_th, .inr (3, [.ref a_th_tenths, .ref a_th_toldFrom, .ref a_th_wayCount, .int o.2.2.2.1, .int o.2.2.2.2.1, .int o.2.2.2.2.2])), (a_th_tenths, .inl (cI, 64, .inl o.1)), (a_th_toldFrom, .inl (cI, 8, .inl o.2.1)), (a_th_wayCount, .inl (cI, 8, .inl o.2.2.1)), (a_oth, .inr (3, [.ref a_oth_tenths, .ref a_oth_toldFrom, .ref a_oth_wayCount, .int oth_seats, .int oth_kind, .int oth_penny])), (a_oth_tenths, .inl (cI, 64, .inl oth_tenths))])) args s 0 0 A) (F0 m 26 ls [])) {th_tenths : (Nat → Int32)} {th_toldFrom : (Nat → Int32)} {th_wayCount : (Nat → Int32)} {th_seats : Int32} {th_kind : Int32} {th_penny : Int32} {v2 : Int32} (h : zf_X3_copyFrom_26_b oth_tenths oth_seats oth_kind oth_penny k26 th_tenths th_toldFrom th_wayCount th_seats th_kind th_penny v2 = some o) : ∀ (H : Heap) (locs : List Loc) (ls : Array Slot), va_P (dC, dI) vwCl [(a_th, .inr (3, [.ref a_th_tenths, .ref a_th_toldFrom, .ref a_th_wayCount, .int th_seats, .int th_kind, .int th_penny])), (a_th_tenths, .inl (cI, 64, .inl th_tenths)), (a_th_toldFrom, .inl (cI, 8, .inl th_toldFrom)), (a_th_wayCount, .inl (cI, 8, .inl th_wayCount)), (a_oth, .inr (3, [.ref a_oth_tenths, .ref a_oth_toldFrom, .ref a_oth_wayCount, .int oth_seats, .int oth_kind, .int oth_penny])), (a_oth_tenths, .inl (cI, 64, .inl oth_tenths))] H → va_D A [(a_th, .inr (3, [.ref a_th_tenths, .ref a_th_toldFrom, .ref a_th_wayCount, .int th_seats, .int th_kind, .int th_penny])), (a_th_tenths, .inl (cI, 64, .inl th_tenths)), (a_th_toldFrom, .inl (cI, 8, .inl th_toldFrom)), (a_th_wayCount, .inl (cI, 8, .inl th_wayCount)), (a_oth, .inr (3, [.ref a_oth_tenths, .ref a_oth_toldFrom, .ref a_oth_wayCount, .int oth_seats, .int oth_kind, .int oth_penny])), (a_oth_tenths, .inl (cI, 64, .inl oth_tenths))] → va_S A s.heap H locs → lv_has ls 3 [(0, .ref a_th), (1, .ref a_oth), (2, .int v2)] → W p l e { frames := 1, cells := 0, slots := 0, locals := 22 } s m args below meth c H locs 0 0 (MQ below (zz_QV (dC, dI) (zz_T cI cJ cZ) A (fun _ : Unit => [(a_th, .inr (3, [.ref a_th_tenths, .ref a_th_toldFrom, .ref a_th_wayCount, .int o.2.2.2.1, .int o.2.2.2.2.1, .int o.2.2.2.2.2])), (a_th_tenths, .inl (cI, 64, .inl o.1)), (a_th_toldFrom, .inl (cI, 8, .inl o.2.1)), (a_th_wayCount, .inl (cI, 8, .inl o.2.2.1)), (a_oth, .inr (3, [.ref a_oth_tenths, .ref a_oth_toldFrom, .ref a_oth_wayCount, .int oth_seats, .int oth_kind, .int oth_penny])), (a_oth_tenths, .inl (cI, 64, .inl oth_tenths))])) args s 0 0 A) (F0 m 26 ls []) := by
  obtain ⟨⟨hx, hb, hml, hown, hts⟩, hr, hlocks⟩ := id C0
  unfold zf_X3_copyFrom_26_b at h
  intro H locs ls hP hD hS hl
  refine lv_iload_n hx hb dX3_copyFrom_26 rfl (lv_at hl 2 rfl) ?_
  refine lv_bipush (v := (64 : Int32)) hx hb dX3_copyFrom_27 (by decide) ?_
  refine lv_icmp_ge (tgt := 50) hx hb dX3_copyFrom_29 (by decide) (fun hc_1 => ?_) (fun hc_1 => ?_)
  · have h := zz_t hc_1 h
    obtain rfl := Option.some.inj h
    exact zk_vret hx hb hr hlocks hE () hP hD hS dX3_copyFrom_50
  have h := zz_f hc_1 h
  refine lv_aload_n hx hb dX3_copyFrom_32 rfl (lv_at hl 0 rfl) ?_
  refine va_get (D := (dC, dI)) (ci := 3) (v := .ref a_th_tenths) (C := RX3) (T := TX3) (N := 6) hx hb hts zi_X3_copyFrom_3 hown hE.1 hP 0 rfl rfl 0 (by decide) (hts _ zl_X3_copyFrom_1) (fun _ h9 => h9) rfl dX3_copyFrom_33 ?_
  refine lv_iload_n hx hb dX3_copyFrom_36 rfl (lv_at hl 2 rfl) ?_
  refine lv_aload_n hx hb dX3_copyFrom_37 rfl (lv_at hl 1 rfl) ?_
  refine va_get (D := (dC, dI)) (ci := 3) (v := .ref a_oth_tenths) (C := RX3) (T := TX3) (N := 6) hx hb hts zi_X3_copyFrom_3 hown hE.1 hP 4 rfl rfl 0 (by decide) (hts _ zl_X3_copyFrom_1) (fun _ h9 => h9) rfl dX3_copyFrom_38 ?_
  refine lv_iload_n hx hb dX3_copyFrom_41 rfl (lv_at hl 2 rfl) ?_
  obtain ⟨hin_2, h⟩ := zz_nn h
  refine va_iald hx hb hE.1 hP 5 0 rfl rfl hin_2 dX3_copyFrom_42 ?_
  refine va_iast hx hb hE.1 hP hD hS 1 0 rfl rfl hin_2 dX3_copyFrom_43 (fun H locs hP hD hS => ?_)
  have hP : va_P (dC, dI) vwCl [(a_th, .inr (3, [.ref a_th_tenths, .ref a_th_toldFrom, .ref a_th_wayCount, .int th_seats, .int th_kind, .int th_penny])), (a_th_tenths, .inl (cI, 64, .inl (upd th_tenths (v2).toNatClampNeg (oth_tenths (v2).toNatClampNeg)))), (a_th_toldFrom, .inl (cI, 8, .inl th_toldFrom)), (a_th_wayCount, .inl (cI, 8, .inl th_wayCount)), (a_oth, .inr (3, [.ref a_oth_tenths, .ref a_oth_toldFrom, .ref a_oth_wayCount, .int oth_seats, .int oth_kind, .int oth_penny])), (a_oth_tenths, .inl (cI, 64, .inl oth_tenths))] H := hP
  have hD : va_D A [(a_th, .inr (3, [.ref a_th_tenths, .ref a_th_toldFrom, .ref a_th_wayCount, .int th_seats, .int th_kind, .int th_penny])), (a_th_tenths, .inl (cI, 64, .inl (upd th_tenths (v2).toNatClampNeg (oth_tenths (v2).toNatClampNeg)))), (a_th_toldFrom, .inl (cI, 8, .inl th_toldFrom)), (a_th_wayCount, .inl (cI, 8, .inl th_wayCount)), (a_oth, .inr (3, [.ref a_oth_tenths, .ref a_oth_toldFrom, .ref a_oth_wayCount, .int oth_seats, .int oth_kind, .int oth_penny])), (a_oth_tenths, .inl (cI, 64, .inl oth_tenths))] := hD
  refine lv_iinc (v := (v2 + (1 : Int32))) (lv' := [(2, .int (v2 + (1 : Int32))), (0, .ref a_th), (1, .ref a_oth)]) hx hb dX3_copyFrom_44 hl (k := 2) rfl rfl (by decide) rfl (fun ls hl => ?_)
  refine lv_goto (tgt := 26) hx hb dX3_copyFrom_47 (by decide) ?_
  exact hk26 (upd th_tenths (v2).toNatClampNeg (oth_tenths (v2).toNatClampNeg)) th_toldFrom th_wayCount th_seats th_kind th_penny (v2 + (1 : Int32)) h _ _ _ hP hD hS (lv_sub hl [1, 2, 0] rfl)
set_option maxHeartbeats 4000000 in
set_option maxRecDepth 100000 in
theorem zw_X3_copyFrom_26 {p : Program} {l : Launch} {e : Env} {s : State} {m : MethodId} {args : Array Value} {below : List Frame} {meth : Method} {c : Code} {dC : Nat → ClassId} {dI : Nat → Nat → Nat} {cI cJ cZ : ClassId} {A : Nat → Prop} {a_th a_th_tenths a_th_toldFrom a_th_wayCount a_oth a_oth_tenths a_oth_toldFrom a_oth_wayCount : Nat} {oth_tenths : (Nat → Int32)} {oth_seats : Int32} {oth_kind : Int32} {oth_penny : Int32} {o : (Nat → Int32) × (Nat → Int32) × (Nat → Int32) × Int32 × Int32 × Int32} (C0 : zz_C p s m args meth c cX3_copyFrom 3 RX3 wsX3_copyFrom (none)) (hE : zz_EV (dC, dI) (zz_T cI cJ cZ) s) (hA : ∀ q : Nat, s.heap.size ≤ q → A q) : ∀ (n : Nat) (th_tenths : (Nat → Int32)) (th_toldFrom : (Nat → Int32)) (th_wayCount : (Nat → Int32)) (th_seats : Int32) (th_kind : Int32) (th_penny : Int32) (v2 : Int32), zf_X3_copyFrom_26 oth_tenths oth_seats oth_kind oth_penny n th_tenths th_toldFrom th_wayCount th_seats th_kind th_penny v2 = some o → ∀ (H : Heap) (locs : List Loc) (ls : Array Slot), va_P (dC, dI) vwCl [(a_th, .inr (3, [.ref a_th_tenths, .ref a_th_toldFrom, .ref a_th_wayCount, .int th_seats, .int th_kind, .int th_penny])), (a_th_tenths, .inl (cI, 64, .inl th_tenths)), (a_th_toldFrom, .inl (cI, 8, .inl th_toldFrom)), (a_th_wayCount, .inl (cI, 8, .inl th_wayCount)), (a_oth, .inr (3, [.ref a_oth_tenths, .ref a_oth_toldFrom, .ref a_oth_wayCount, .int oth_seats, .int oth_kind, .int oth_penny])), (a_oth_tenths, .inl (cI, 64, .inl oth_tenths))] H → va_D A [(a_th, .inr (3, [.ref a_th_tenths, .ref a_th_toldFrom, .ref a_th_wayCount, .int th_seats, .int th_kind, .int th_penny])), (a_th_tenths, .inl (cI, 64, .inl th_tenths)), (a_th_toldFrom, .inl (cI, 8, .inl th_toldFrom)), (a_th_wayCount, .inl (cI, 8, .inl th_wayCount)), (a_oth, .inr (3, [.ref a_oth_tenths, .ref a_oth_toldFrom, .ref a_oth_wayCount, .int oth_seats, .int oth_kind, .int oth_penny])), (a_oth_tenths, .inl (cI, 64, .inl oth_tenths))] → va_S A s.heap H locs → lv_has ls 3 [(0, .ref a_th), (1, .ref a_oth), (2, .int v2)] → W p l e { frames := 1, cells := 0, slots := 0, locals := 22 } s m args below meth c H locs 0 0 (MQ below (zz_QV (dC, dI) (zz_T cI cJ cZ) A (fun _ : Unit => [(a_th, .inr (3, [.ref a_th_tenths, .ref a_th_toldFrom, .ref a_th_wayCount, .int o.2.2.2.1, .int o.2.2.2.2.1, .int o.2.2.2.2.2])), (a_th_tenths, .inl (cI, 64, .inl o.1)), (a_th_toldFrom, .inl (cI, 8, .inl o.2.1)), (a_th_wayCount, .inl (cI, 8, .inl o.2.2.1)), (a_oth, .inr (3, [.ref a_oth_tenths, .ref a_oth_toldFrom, .ref a_oth_wayCount, .int oth_seats, .int oth_kind, .int oth_penny])), (a_oth_tenths, .inl (cI, 64, .inl oth_tenths))])) args s 0 0 A) (F0 m 26 ls []) := by
  intro n
  induction n with
  | zero =>
    intro th_tenths th_toldFrom th_wayCount th_seats th_kind th_penny v2 h
    cases h
  | succ n ih =>
    intro th_tenths th_toldFrom th_wayCount th_seats th_kind th_penny v2 h
    exact zw_X3_copyFrom_26_b C0 hE hA  (zf_X3_copyFrom_26 oth_tenths oth_seats oth_kind oth_penny n) ih h
set_option maxHeartbeats 4000000 in
set_option maxRecDepth 100000 in
theorem zw_X3_copyFrom {p : Program} {l : Launch} {e : Env} {s : State} {m : MethodId} {args : Array Value} {below : List Frame} {meth : Method} {c : Code} {dC : Nat → ClassId} {dI : Nat → Nat → Nat} {cI cJ cZ : ClassId} {A : Nat → Prop} {a_th a_th_tenths a_th_toldFrom a_th_wayCount a_oth a_oth_tenths a_oth_toldFrom a_oth_wayCount : Nat} {oth_tenths : (Nat → Int32)} {oth_seats : Int32} {oth_kind : Int32} {oth_penny : Int32} {o : (Nat → Int32) × (Nat → Int32) × (Nat → Int32) × Int32 × Int32 × Int32} (C0 : zz_C p s m args meth c cX3_copyFrom 3 RX3 wsX3_copyFrom (none)) (hE : zz_EV (dC, dI) (zz_T cI cJ cZ) s) (hA : ∀ q : Nat, s.heap.size ≤ q → A q) {th_tenths : (Nat → Int32)} {th_toldFrom : (Nat → Int32)} {th_wayCount : (Nat → Int32)} {th_seats : Int32} {th_kind : Int32} {th_penny : Int32} (h : zf_X3_copyFrom oth_tenths oth_seats oth_kind oth_penny th_tenths th_toldFrom th_wayCount th_seats th_kind th_penny = some o) : ∀ (H : Heap) (locs : List Loc) (ls : Array Slot), va_P (dC, dI) vwCl [(a_th, .inr (3, [.ref a_th_tenths, .ref a_th_toldFrom, .ref a_th_wayCount, .int th_seats, .int th_kind, .int th_penny])), (a_th_tenths, .inl (cI, 64, .inl th_tenths)), (a_th_toldFrom, .inl (cI, 8, .inl th_toldFrom)), (a_th_wayCount, .inl (cI, 8, .inl th_wayCount)), (a_oth, .inr (3, [.ref a_oth_tenths, .ref a_oth_toldFrom, .ref a_oth_wayCount, .int oth_seats, .int oth_kind, .int oth_penny])), (a_oth_tenths, .inl (cI, 64, .inl oth_tenths))] H → va_D A [(a_th, .inr (3, [.ref a_th_tenths, .ref a_th_toldFrom, .ref a_th_wayCount, .int th_seats, .int th_kind, .int th_penny])), (a_th_tenths, .inl (cI, 64, .inl th_tenths)), (a_th_toldFrom, .inl (cI, 8, .inl th_toldFrom)), (a_th_wayCount, .inl (cI, 8, .inl th_wayCount)), (a_oth, .inr (3, [.ref a_oth_tenths, .ref a_oth_toldFrom, .ref a_oth_wayCount, .int oth_seats, .int oth_kind, .int oth_penny])), (a_oth_tenths, .inl (cI, 64, .inl oth_tenths))] → va_S A s.heap H locs → lv_has ls 3 [(0, .ref a_th), (1, .ref a_oth)] → W p l e { frames := 1, cells := 0, slots := 0, locals := 22 } s m args below meth c H locs 0 0 (MQ below (zz_QV (dC, dI) (zz_T cI cJ cZ) A (fun _ : Unit => [(a_th, .inr (3, [.ref a_th_tenths, .ref a_th_toldFrom, .ref a_th_wayCount, .int o.2.2.2.1, .int o.2.2.2.2.1, .int o.2.2.2.2.2])), (a_th_tenths, .inl (cI, 64, .inl o.1)), (a_th_toldFrom, .inl (cI, 8, .inl o.2.1)), (a_th_wayCount, .inl (cI, 8, .inl o.2.2.1)), (a_oth, .inr (3, [.ref a_oth_tenths, .ref a_oth_toldFrom, .ref a_oth_wayCount, .int oth_seats, .int oth_kind, .int oth_penny])), (a_oth_tenths, .inl (cI, 64, .inl oth_tenths))])) args s 0 0 A) (F0 m 0 ls []) := by
  obtain ⟨⟨hx, hb, hml, hown, hts⟩, hr, hlocks⟩ := id C0
  unfold zf_X3_copyFrom at h
  intro H locs ls hP hD hS hl
  refine lv_aload_n hx hb dX3_copyFrom_0 rfl (lv_at hl 0 rfl) ?_
  refine lv_aload_n hx hb dX3_copyFrom_1 rfl (lv_at hl 1 rfl) ?_
  refine va_get (D := (dC, dI)) (ci := 3) (v := .int oth_seats) (C := RX3) (T := TX3) (N := 6) hx hb hts zi_X3_copyFrom_3 hown hE.1 hP 4 rfl rfl 3 (by decide) (hts _ zl_X3_copyFrom_2) (fun _ h9 => h9) rfl dX3_copyFrom_2 ?_
  obtain ⟨x_1, hcl_2, h⟩ := zz_bd h
  refine zk_cv (wr := [(a_oth, .inr (3, [.ref a_oth_tenths, .ref a_oth_toldFrom, .ref a_oth_wayCount, .int oth_seats, .int oth_kind, .int oth_penny])), (a_oth_tenths, .inl (cI, 64, .inl oth_tenths))]) (va_runV (As := [.int oth_seats]) (rest := []) C0.1 (zc_X3_clear l dC dI cI cJ cZ _ a_th a_th_tenths a_th_toldFrom a_th_wayCount th_tenths th_toldFrom th_wayCount th_seats th_kind th_penny oth_seats hcl_2) (cwV 1 hts gX3_copyFrom_X3_clear rfl rfl rfl (by decide +kernel) ⟨Nat.le_of_ble_eq_true rfl, Nat.le_of_ble_eq_true rfl⟩) (zz_preV (wc := [(a_th, .inr (3, [.ref a_th_tenths, .ref a_th_toldFrom, .ref a_th_wayCount, .int th_seats, .int th_kind, .int th_penny])), (a_th_tenths, .inl (cI, 64, .inl th_tenths)), (a_th_toldFrom, .inl (cI, 8, .inl th_toldFrom)), (a_th_wayCount, .inl (cI, 8, .inl th_wayCount))]) hE hP hD [0, 1, 2, 3] rfl rfl (by decide) (ci := 3) rfl rfl) rfl rfl hl.1 rfl (lv_room (Nat.le_of_ble_eq_true rfl)) dX3_copyFrom_5 ⟨Nat.zero_le _, Nat.zero_le _⟩) hP hD hS hA [0, 1, 2, 3] [4, 5] rfl rfl (by decide) (by decide) (fun u H locs hP hD hS => ?_)
  have hP : va_P (dC, dI) vwCl [(a_oth, .inr (3, [.ref a_oth_tenths, .ref a_oth_toldFrom, .ref a_oth_wayCount, .int oth_seats, .int oth_kind, .int oth_penny])), (a_oth_tenths, .inl (cI, 64, .inl oth_tenths)), (a_th, .inr (3, [.ref a_th_tenths, .ref a_th_toldFrom, .ref a_th_wayCount, .int x_1.2.2.2.1, .int x_1.2.2.2.2.1, .int x_1.2.2.2.2.2])), (a_th_tenths, .inl (cI, 64, .inl x_1.1)), (a_th_toldFrom, .inl (cI, 8, .inl x_1.2.1)), (a_th_wayCount, .inl (cI, 8, .inl x_1.2.2.1))] H := hP
  have hD : va_D A [(a_oth, .inr (3, [.ref a_oth_tenths, .ref a_oth_toldFrom, .ref a_oth_wayCount, .int oth_seats, .int oth_kind, .int oth_penny])), (a_oth_tenths, .inl (cI, 64, .inl oth_tenths)), (a_th, .inr (3, [.ref a_th_tenths, .ref a_th_toldFrom, .ref a_th_wayCount, .int x_1.2.2.2.1, .int x_1.2.2.2.2.1, .int x_1.2.2.2.2.2])), (a_th_tenths, .inl (cI, 64, .inl x_1.1)), (a_th_toldFrom, .inl (cI, 8, .inl x_1.2.1)), (a_th_wayCount, .inl (cI, 8, .inl x_1.2.2.1))] := hD
  refine lv_aload_n hx hb dX3_copyFrom_8 rfl (lv_at hl 0 rfl) ?_
  refine lv_aload_n hx hb dX3_copyFrom_9 rfl (lv_at hl 1 rfl) ?_
  refine va_get (D := (dC, dI)) (ci := 3) (v := .int oth_kind) (C := RX3) (T := TX3) (N := 6) hx hb hts zi_X3_copyFrom_3 hown hE.1 hP 0 rfl rfl 4 (by decide) (hts _ zl_X3_copyFrom_3) (fun _ h9 => h9) rfl dX3_copyFrom_10 ?_
  refine va_put (D := (dC, dI)) (ci := 3) (v := .int oth_kind) (ty := .int) (C := RX3) (T := TX3) (N := 6) hx hb hts zi_X3_copyFrom_3 tyX3 tyX3_ok nmX3 hown hE.1 hP hD hS 2 rfl rfl 4 (by decide) (hts _ zl_X3_copyFrom_3) (fun _ h9 => h9) rfl (by decide +kernel) rfl rfl (Nat.le_of_ble_eq_true rfl) dX3_copyFrom_13 (fun H locs hP hD hS => ?_)
  have hP : va_P (dC, dI) vwCl [(a_oth, .inr (3, [.ref a_oth_tenths, .ref a_oth_toldFrom, .ref a_oth_wayCount, .int oth_seats, .int oth_kind, .int oth_penny])), (a_oth_tenths, .inl (cI, 64, .inl oth_tenths)), (a_th, .inr (3, [.ref a_th_tenths, .ref a_th_toldFrom, .ref a_th_wayCount, .int x_1.2.2.2.1, .int oth_kind, .int x_1.2.2.2.2.2])), (a_th_tenths, .inl (cI, 64, .inl x_1.1)), (a_th_toldFrom, .inl (cI, 8, .inl x_1.2.1)), (a_th_wayCount, .inl (cI, 8, .inl x_1.2.2.1))] H := hP
  have hD : va_D A [(a_oth, .inr (3, [.ref a_oth_tenths, .ref a_oth_toldFrom, .ref a_oth_wayCount, .int oth_seats, .int oth_kind, .int oth_penny])), (a_oth_tenths, .inl (cI, 64, .inl oth_tenths)), (a_th, .inr (3, [.ref a_th_tenths, .ref a_th_toldFrom, .ref a_th_wayCount, .int x_1.2.2.2.1, .int oth_kind, .int x_1.2.2.2.2.2])), (a_th_tenths, .inl (cI, 64, .inl x_1.1)), (a_th_toldFrom, .inl (cI, 8, .inl x_1.2.1)), (a_th_wayCount, .inl (cI, 8, .inl x_1.2.2.1))] := hD
  refine lv_aload_n hx hb dX3_copyFrom_16 rfl (lv_at hl 0 rfl) ?_
  refine lv_aload_n hx hb dX3_copyFrom_17 rfl (lv_at hl 1 rfl) ?_
  refine va_get (D := (dC, dI)) (ci := 3) (v := .int oth_penny) (C := RX3) (T := TX3) (N := 6) hx hb hts zi_X3_copyFrom_3 hown hE.1 hP 0 rfl rfl 5 (by decide) (hts _ zl_X3_copyFrom_4) (fun _ h9 => h9) rfl dX3_copyFrom_18 ?_
  refine va_put (D := (dC, dI)) (ci := 3) (v := .int oth_penny) (ty := .int) (C := RX3) (T := TX3) (N := 6) hx hb hts zi_X3_copyFrom_3 tyX3 tyX3_ok nmX3 hown hE.1 hP hD hS 2 rfl rfl 5 (by decide) (hts _ zl_X3_copyFrom_4) (fun _ h9 => h9) rfl (by decide +kernel) rfl rfl (Nat.le_of_ble_eq_true rfl) dX3_copyFrom_21 (fun H locs hP hD hS => ?_)
  have hP : va_P (dC, dI) vwCl [(a_oth, .inr (3, [.ref a_oth_tenths, .ref a_oth_toldFrom, .ref a_oth_wayCount, .int oth_seats, .int oth_kind, .int oth_penny])), (a_oth_tenths, .inl (cI, 64, .inl oth_tenths)), (a_th, .inr (3, [.ref a_th_tenths, .ref a_th_toldFrom, .ref a_th_wayCount, .int x_1.2.2.2.1, .int oth_kind, .int oth_penny])), (a_th_tenths, .inl (cI, 64, .inl x_1.1)), (a_th_toldFrom, .inl (cI, 8, .inl x_1.2.1)), (a_th_wayCount, .inl (cI, 8, .inl x_1.2.2.1))] H := hP
  have hD : va_D A [(a_oth, .inr (3, [.ref a_oth_tenths, .ref a_oth_toldFrom, .ref a_oth_wayCount, .int oth_seats, .int oth_kind, .int oth_penny])), (a_oth_tenths, .inl (cI, 64, .inl oth_tenths)), (a_th, .inr (3, [.ref a_th_tenths, .ref a_th_toldFrom, .ref a_th_wayCount, .int x_1.2.2.2.1, .int oth_kind, .int oth_penny])), (a_th_tenths, .inl (cI, 64, .inl x_1.1)), (a_th_toldFrom, .inl (cI, 8, .inl x_1.2.1)), (a_th_wayCount, .inl (cI, 8, .inl x_1.2.2.1))] := hD
  refine lv_iconst (v := (0 : Int32)) hx hb dX3_copyFrom_24 (by decide) ?_
  refine lv_istore_n (lv' := [(2, .int (0 : Int32)), (0, .ref a_th), (1, .ref a_oth)]) hx hb dX3_copyFrom_25 rfl hl (by decide) rfl (fun ls hl => ?_)
  exact zw_X3_copyFrom_26 C0 hE hA  zfuel x_1.1 x_1.2.1 x_1.2.2.1 x_1.2.2.2.1 oth_kind oth_penny (0 : Int32) h _ _ _ (hP.sub [2, 3, 4, 5, 0, 1] rfl) (hD.sub [2, 3, 4, 5, 0, 1] (by decide) rfl) hS (lv_sub hl [1, 2, 0] rfl)
set_option maxHeartbeats 4000000 in
set_option maxRecDepth 100000 in
theorem zc_X3_copyFrom (l : Launch) (dC : Nat → ClassId) (dI : Nat → Nat → Nat) (cI cJ cZ : ClassId) (sz : Nat) (a_th a_th_tenths a_th_toldFrom a_th_wayCount a_oth a_oth_tenths a_oth_toldFrom a_oth_wayCount : Nat) (oth_tenths : (Nat → Int32)) (oth_seats : Int32) (oth_kind : Int32) (oth_penny : Int32) (th_tenths : (Nat → Int32)) (th_toldFrom : (Nat → Int32)) (th_wayCount : (Nat → Int32)) (th_seats : Int32) (th_kind : Int32) (th_penny : Int32) {o : (Nat → Int32) × (Nat → Int32) × (Nat → Int32) × Int32 × Int32 × Int32} (h : zf_X3_copyFrom oth_tenths oth_seats oth_kind oth_penny th_tenths th_toldFrom th_wayCount th_seats th_kind th_penny = some o) : Met l yX3_copyFrom wsX3_copyFrom { frames := 1, cells := 0, slots := 0, locals := 22 } (zz_PC (dC, dI) (zz_T cI cJ cZ) [.ref a_th, .ref a_oth] sz [(a_th, .inr (3, [.ref a_th_tenths, .ref a_th_toldFrom, .ref a_th_wayCount, .int th_seats, .int th_kind, .int th_penny])), (a_th_tenths, .inl (cI, 64, .inl th_tenths)), (a_th_toldFrom, .inl (cI, 8, .inl th_toldFrom)), (a_th_wayCount, .inl (cI, 8, .inl th_wayCount)), (a_oth, .inr (3, [.ref a_oth_tenths, .ref a_oth_toldFrom, .ref a_oth_wayCount, .int oth_seats, .int oth_kind, .int oth_penny])), (a_oth_tenths, .inl (cI, 64, .inl oth_tenths))]) (zz_QV (dC, dI) (zz_T cI cJ cZ) (va_A [(a_th, .inr (3, [.ref a_th_tenths, .ref a_th_toldFrom, .ref a_th_wayCount, .int th_seats, .int th_kind, .int th_penny])), (a_th_tenths, .inl (cI, 64, .inl th_tenths)), (a_th_toldFrom, .inl (cI, 8, .inl th_toldFrom)), (a_th_wayCount, .inl (cI, 8, .inl th_wayCount)), (a_oth, .inr (3, [.ref a_oth_tenths, .ref a_oth_toldFrom, .ref a_oth_wayCount, .int oth_seats, .int oth_kind, .int oth_penny])), (a_oth_tenths, .inl (cI, 64, .inl oth_tenths))] sz) (fun _ : Unit => [(a_th, .inr (3, [.ref a_th_tenths, .ref a_th_toldFrom, .ref a_th_wayCount, .int o.2.2.2.1, .int o.2.2.2.2.1, .int o.2.2.2.2.2])), (a_th_tenths, .inl (cI, 64, .inl o.1)), (a_th_toldFrom, .inl (cI, 8, .inl o.2.1)), (a_th_wayCount, .inl (cI, 8, .inl o.2.2.1)), (a_oth, .inr (3, [.ref a_oth_tenths, .ref a_oth_toldFrom, .ref a_oth_wayCount, .int oth_seats, .int oth_kind, .int oth_penny])), (a_oth_tenths, .inl (cI, 64, .inl oth_tenths))])) 0 0 (va_A [(a_th, .inr (3, [.ref a_th_tenths, .ref a_th_toldFrom, .ref a_th_wayCount, .int th_seats, .int th_kind, .int th_penny])), (a_th_tenths, .inl (cI, 64, .inl th_tenths)), (a_th_toldFrom, .inl (cI, 8, .inl th_toldFrom)), (a_th_wayCount, .inl (cI, 8, .inl th_wayCount)), (a_oth, .inr (3, [.ref a_oth_tenths, .ref a_oth_toldFrom, .ref a_oth_wayCount, .int oth_seats, .int oth_kind, .int oth_penny])), (a_oth_tenths, .inl (cI, 64, .inl oth_tenths))] sz) := by
  refine zz_met (own := RX3) (cc := cX3_copyFrom) (maxL := 3) (ret := none) (by decide) rfl rfl (Nat.le_of_ble_eq_true rfl) ?_
  intro p e s m below meth c ls hsz C0 hE hin hl hP hD
  subst hsz
  exact zw_X3_copyFrom C0 hE (fun q hq => Or.inr hq) h _ _ _ hP hD va_S.rf hl
/-! X3_has : PlateLast$Net.has(I)Z -/
theorem zi_X3_has_3 : ∀ w ∈ u_ws RX3 TX3 6, w ∈ wsX3_has := by decide +kernel
theorem zl_X3_has_1 : Cond.fieldLink RX3 21 "PlateLast$Net" "seats" "I" ∈ wsX3_has := by decide +kernel
set_option maxHeartbeats 4000000 in
set_option maxRecDepth 100000 in
theorem zw_X3_has {p : Program} {l : Launch} {e : Env} {s : State} {m : MethodId} {args : Array Value} {below : List Frame} {meth : Method} {c : Code} {dC : Nat → ClassId} {dI : Nat → Nat → Nat} {cI cJ cZ : ClassId} {A : Nat → Prop} {a_th a_th_tenths a_th_toldFrom a_th_wayCount : Nat} {th_kind : Int32} {th_penny : Int32} {th_seats : Int32} {o : Int32} (C0 : zz_C p s m args meth c cX3_has 2 RX3 wsX3_has (some .boolean)) (hE : zz_EV (dC, dI) (zz_T cI cJ cZ) s) (hA : ∀ q : Nat, s.heap.size ≤ q → A q) {p0 : Int32} (h : zf_X3_has p0 th_seats = some o) : ∀ (H : Heap) (locs : List Loc) (ls : Array Slot), va_P (dC, dI) vwCl [(a_th, .inr (3, [.ref a_th_tenths, .ref a_th_toldFrom, .ref a_th_wayCount, .int th_seats, .int th_kind, .int th_penny]))] H → va_D A [(a_th, .inr (3, [.ref a_th_tenths, .ref a_th_toldFrom, .ref a_th_wayCount, .int th_seats, .int th_kind, .int th_penny]))] → va_S A s.heap H locs → lv_has ls 2 [(0, .ref a_th), (1, .int p0)] → W p l e { frames := 0, cells := 0, slots := 0, locals := 0 } s m args below meth c H locs 0 0 (MQ below (zz_QI (dC, dI) (zz_T cI cJ cZ) A (fun _ : Unit => [(a_th, .inr (3, [.ref a_th_tenths, .ref a_th_toldFrom, .ref a_th_wayCount, .int th_seats, .int th_kind, .int th_penny]))]) o) args s 0 0 A) (F0 m 0 ls []) := by
  obtain ⟨⟨hx, hb, hml, hown, hts⟩, hr, hlocks⟩ := id C0
  unfold zf_X3_has at h
  intro H locs ls hP hD hS hl
  refine lv_iload_n hx hb dX3_has_0 rfl (lv_at hl 1 rfl) ?_
  refine lv_if_lt (tgt := 22) hx hb dX3_has_1 (by decide) (fun hc_1 => ?_) (fun hc_1 => ?_)
  · have h := zz_t hc_1 h
    refine lv_iconst (v := (0 : Int32)) hx hb dX3_has_22 (by decide) ?_
    obtain rfl := Option.some.inj h
    exact zk_zret hx hb hr hlocks rfl hE () hP hD hS rfl dX3_has_23
  have h := zz_f hc_1 h
  refine lv_iload_n hx hb dX3_has_4 rfl (lv_at hl 1 rfl) ?_
  refine lv_aload_n hx hb dX3_has_5 rfl (lv_at hl 0 rfl) ?_
  refine va_get (D := (dC, dI)) (ci := 3) (v := .int th_seats) (C := RX3) (T := TX3) (N := 6) hx hb hts zi_X3_has_3 hown hE.1 hP 0 rfl rfl 3 (by decide) (hts _ zl_X3_has_1) (fun _ h9 => h9) rfl dX3_has_6 ?_
  refine lv_icmp_ge (tgt := 22) hx hb dX3_has_9 (by decide) (fun hc_2 => ?_) (fun hc_2 => ?_)
  · have h := zz_t hc_2 h
    refine lv_iconst (v := (0 : Int32)) hx hb dX3_has_22 (by decide) ?_
    obtain rfl := Option.some.inj h
    exact zk_zret hx hb hr hlocks rfl hE () hP hD hS rfl dX3_has_23
  have h := zz_f hc_2 h
  refine lv_iload_n hx hb dX3_has_12 rfl (lv_at hl 1 rfl) ?_
  refine lv_bipush (v := (8 : Int32)) hx hb dX3_has_13 (by decide) ?_
  refine lv_icmp_ge (tgt := 22) hx hb dX3_has_15 (by decide) (fun hc_3 => ?_) (fun hc_3 => ?_)
  · have h := zz_t hc_3 h
    refine lv_iconst (v := (0 : Int32)) hx hb dX3_has_22 (by decide) ?_
    obtain rfl := Option.some.inj h
    exact zk_zret hx hb hr hlocks rfl hE () hP hD hS rfl dX3_has_23
  have h := zz_f hc_3 h
  refine lv_iconst (v := (1 : Int32)) hx hb dX3_has_18 (by decide) ?_
  refine lv_goto (tgt := 23) hx hb dX3_has_19 (by decide) ?_
  obtain rfl := Option.some.inj h
  exact zk_zret hx hb hr hlocks rfl hE () hP hD hS rfl dX3_has_23
set_option maxHeartbeats 4000000 in
set_option maxRecDepth 100000 in
theorem zc_X3_has (l : Launch) (dC : Nat → ClassId) (dI : Nat → Nat → Nat) (cI cJ cZ : ClassId) (sz : Nat) (a_th a_th_tenths a_th_toldFrom a_th_wayCount : Nat) (th_kind : Int32) (th_penny : Int32) (th_seats : Int32) (p0 : Int32) {o : Int32} (h : zf_X3_has p0 th_seats = some o) : Met l yX3_has wsX3_has { frames := 0, cells := 0, slots := 0, locals := 0 } (zz_PC (dC, dI) (zz_T cI cJ cZ) [.ref a_th, .int p0] sz [(a_th, .inr (3, [.ref a_th_tenths, .ref a_th_toldFrom, .ref a_th_wayCount, .int th_seats, .int th_kind, .int th_penny]))]) (zz_QI (dC, dI) (zz_T cI cJ cZ) (va_A [(a_th, .inr (3, [.ref a_th_tenths, .ref a_th_toldFrom, .ref a_th_wayCount, .int th_seats, .int th_kind, .int th_penny]))] sz) (fun _ : Unit => [(a_th, .inr (3, [.ref a_th_tenths, .ref a_th_toldFrom, .ref a_th_wayCount, .int th_seats, .int th_kind, .int th_penny]))]) o) 0 0 (va_A [(a_th, .inr (3, [.ref a_th_tenths, .ref a_th_toldFrom, .ref a_th_wayCount, .int th_seats, .int th_kind, .int th_penny]))] sz) := by
  refine zz_met (own := RX3) (cc := cX3_has) (maxL := 2) (ret := some .boolean) (by decide) rfl rfl (Nat.le_of_ble_eq_true rfl) ?_
  intro p e s m below meth c ls hsz C0 hE hin hl hP hD
  subst hsz
  exact zw_X3_has C0 hE (fun q hq => Or.inr hq) h _ _ _ hP hD va_S.rf hl
/-! X3_allBits : PlateLast$Net.allBits()I -/
theorem zi_X3_allBits_3 : ∀ w ∈ u_ws RX3 TX3 6, w ∈ wsX3_allBits := by decide +kernel
theorem zl_X3_allBits_1 : Cond.fieldLink RX3 21 "PlateLast$Net" "seats" "I" ∈ wsX3_allBits := by decide +kernel
set_option maxHeartbeats 4000000 in
set_option maxRecDepth 100000 in
theorem zw_X3_allBits {p : Program} {l : Launch} {e : Env} {s : State} {m : MethodId} {args : Array Value} {below : List Frame} {meth : Method} {c : Code} {dC : Nat → ClassId} {dI : Nat → Nat → Nat} {cI cJ cZ : ClassId} {A : Nat → Prop} {a_th a_th_tenths a_th_toldFrom a_th_wayCount : Nat} {th_kind : Int32} {th_penny : Int32} {th_seats : Int32} {o : Int32} (C0 : zz_C p s m args meth c cX3_allBits 1 RX3 wsX3_allBits (some .int)) (hE : zz_EV (dC, dI) (zz_T cI cJ cZ) s) (hA : ∀ q : Nat, s.heap.size ≤ q → A q) (h : zf_X3_allBits th_seats = some o) : ∀ (H : Heap) (locs : List Loc) (ls : Array Slot), va_P (dC, dI) vwCl [(a_th, .inr (3, [.ref a_th_tenths, .ref a_th_toldFrom, .ref a_th_wayCount, .int th_seats, .int th_kind, .int th_penny]))] H → va_D A [(a_th, .inr (3, [.ref a_th_tenths, .ref a_th_toldFrom, .ref a_th_wayCount, .int th_seats, .int th_kind, .int th_penny]))] → va_S A s.heap H locs → lv_has ls 1 [(0, .ref a_th)] → W p l e { frames := 0, cells := 0, slots := 0, locals := 0 } s m args below meth c H locs 0 0 (MQ below (zz_QI (dC, dI) (zz_T cI cJ cZ) A (fun _ : Unit => [(a_th, .inr (3, [.ref a_th_tenths, .ref a_th_toldFrom, .ref a_th_wayCount, .int th_seats, .int th_kind, .int th_penny]))]) o) args s 0 0 A) (F0 m 0 ls []) := by
  obtain ⟨⟨hx, hb, hml, hown, hts⟩, hr, hlocks⟩ := id C0
  unfold zf_X3_allBits at h
  intro H locs ls hP hD hS hl
  refine lv_iconst (v := (1 : Int32)) hx hb dX3_allBits_0 (by decide) ?_
  refine lv_aload_n hx hb dX3_allBits_1 rfl (lv_at hl 0 rfl) ?_
  refine va_get (D := (dC, dI)) (ci := 3) (v := .int th_seats) (C := RX3) (T := TX3) (N := 6) hx hb hts zi_X3_allBits_3 hown hE.1 hP 0 rfl rfl 3 (by decide) (hts _ zl_X3_allBits_1) (fun _ h9 => h9) rfl dX3_allBits_2 ?_
  refine lv_ishl hx hb dX3_allBits_5 ?_
  refine lv_iconst (v := (1 : Int32)) hx hb dX3_allBits_6 (by decide) ?_
  refine lv_isub hx hb dX3_allBits_7 ?_
  obtain rfl := Option.some.inj h
  exact zk_iret hx hb hr hlocks hE () hP hD hS rfl dX3_allBits_8
set_option maxHeartbeats 4000000 in
set_option maxRecDepth 100000 in
theorem zc_X3_allBits (l : Launch) (dC : Nat → ClassId) (dI : Nat → Nat → Nat) (cI cJ cZ : ClassId) (sz : Nat) (a_th a_th_tenths a_th_toldFrom a_th_wayCount : Nat) (th_kind : Int32) (th_penny : Int32) (th_seats : Int32) {o : Int32} (h : zf_X3_allBits th_seats = some o) : Met l yX3_allBits wsX3_allBits { frames := 0, cells := 0, slots := 0, locals := 0 } (zz_PC (dC, dI) (zz_T cI cJ cZ) [.ref a_th] sz [(a_th, .inr (3, [.ref a_th_tenths, .ref a_th_toldFrom, .ref a_th_wayCount, .int th_seats, .int th_kind, .int th_penny]))]) (zz_QI (dC, dI) (zz_T cI cJ cZ) (va_A [(a_th, .inr (3, [.ref a_th_tenths, .ref a_th_toldFrom, .ref a_th_wayCount, .int th_seats, .int th_kind, .int th_penny]))] sz) (fun _ : Unit => [(a_th, .inr (3, [.ref a_th_tenths, .ref a_th_toldFrom, .ref a_th_wayCount, .int th_seats, .int th_kind, .int th_penny]))]) o) 0 0 (va_A [(a_th, .inr (3, [.ref a_th_tenths, .ref a_th_toldFrom, .ref a_th_wayCount, .int th_seats, .int th_kind, .int th_penny]))] sz) := by
  refine zz_met (own := RX3) (cc := cX3_allBits) (maxL := 1) (ret := some .int) (by decide) rfl rfl (Nat.le_of_ble_eq_true rfl) ?_
  intro p e s m below meth c ls hsz C0 hE hin hl hP hD
  subst hsz
  exact zw_X3_allBits C0 hE (fun q hq => Or.inr hq) h _ _ _ hP hD va_S.rf hl
/-! X3_tenthsOf : PlateLast$Net.tenthsOf(II)I -/
theorem zi_X3_tenthsOf_3 : ∀ w ∈ u_ws RX3 TX3 6, w ∈ wsX3_tenthsOf := by decide +kernel
theorem zl_X3_tenthsOf_1 : Cond.fieldLink RX3 9 "PlateLast$Net" "tenths" "[I" ∈ wsX3_tenthsOf := by decide +kernel
set_option maxHeartbeats 4000000 in
set_option maxRecDepth 100000 in
theorem zw_X3_tenthsOf {p : Program} {l : Launch} {e : Env} {s : State} {m : MethodId} {args : Array Value} {below : List Frame} {meth : Method} {c : Code} {dC : Nat → ClassId} {dI : Nat → Nat → Nat} {cI cJ cZ : ClassId} {A : Nat → Prop} {a_th a_th_tenths a_th_toldFrom a_th_wayCount : Nat} {th_kind : Int32} {th_penny : Int32} {th_tenths : (Nat → Int32)} {th_seats : Int32} {o : Int32} (C0 : zz_C p s m args meth c cX3_tenthsOf 3 RX3 wsX3_tenthsOf (some .int)) (hE : zz_EV (dC, dI) (zz_T cI cJ cZ) s) (hA : ∀ q : Nat, s.heap.size ≤ q → A q) {p0 : Int32} {p1 : Int32} (h : zf_X3_tenthsOf p0 p1 th_tenths th_seats = some o) : ∀ (H : Heap) (locs : List Loc) (ls : Array Slot), va_P (dC, dI) vwCl [(a_th, .inr (3, [.ref a_th_tenths, .ref a_th_toldFrom, .ref a_th_wayCount, .int th_seats, .int th_kind, .int th_penny])), (a_th_tenths, .inl (cI, 64, .inl th_tenths))] H → va_D A [(a_th, .inr (3, [.ref a_th_tenths, .ref a_th_toldFrom, .ref a_th_wayCount, .int th_seats, .int th_kind, .int th_penny])), (a_th_tenths, .inl (cI, 64, .inl th_tenths))] → va_S A s.heap H locs → lv_has ls 3 [(0, .ref a_th), (1, .int p0), (2, .int p1)] → W p l e { frames := 1, cells := 0, slots := 0, locals := 21 } s m args below meth c H locs 0 0 (MQ below (zz_QI (dC, dI) (zz_T cI cJ cZ) A (fun _ : Unit => [(a_th, .inr (3, [.ref a_th_tenths, .ref a_th_toldFrom, .ref a_th_wayCount, .int th_seats, .int th_kind, .int th_penny])), (a_th_tenths, .inl (cI, 64, .inl th_tenths))]) o) args s 0 0 A) (F0 m 0 ls []) := by
  obtain ⟨⟨hx, hb, hml, hown, hts⟩, hr, hlocks⟩ := id C0
  unfold zf_X3_tenthsOf at h
  intro H locs ls hP hD hS hl
  refine lv_aload_n hx hb dX3_tenthsOf_0 rfl (lv_at hl 0 rfl) ?_
  refine lv_iload_n hx hb dX3_tenthsOf_1 rfl (lv_at hl 1 rfl) ?_
  obtain ⟨x_1, hcl_2, h⟩ := zz_bd h
  refine zk_ci (wr := [(a_th_tenths, .inl (cI, 64, .inl th_tenths))]) (va_runV (As := [.int p0]) (rest := []) C0.1 (zc_X3_has l dC dI cI cJ cZ _ a_th a_th_tenths a_th_toldFrom a_th_wayCount th_kind th_penny th_seats p0 hcl_2) (cwV 1 hts gX3_tenthsOf_X3_has rfl rfl rfl (by decide +kernel) ⟨Nat.le_of_ble_eq_true rfl, Nat.le_of_ble_eq_true rfl⟩) (zz_preV (wc := [(a_th, .inr (3, [.ref a_th_tenths, .ref a_th_toldFrom, .ref a_th_wayCount, .int th_seats, .int th_kind, .int th_penny]))]) hE hP hD [0] rfl rfl (by decide) (ci := 3) rfl rfl) rfl rfl hl.1 rfl (lv_room (Nat.le_of_ble_eq_true rfl)) dX3_tenthsOf_2 ⟨Nat.zero_le _, Nat.zero_le _⟩) hP hD hS hA [0] [1] rfl rfl (by decide) (by decide) (fun u H locs hP hD hS => ?_)
  have hP : va_P (dC, dI) vwCl [(a_th_tenths, .inl (cI, 64, .inl th_tenths)), (a_th, .inr (3, [.ref a_th_tenths, .ref a_th_toldFrom, .ref a_th_wayCount, .int th_seats, .int th_kind, .int th_penny]))] H := hP
  have hD : va_D A [(a_th_tenths, .inl (cI, 64, .inl th_tenths)), (a_th, .inr (3, [.ref a_th_tenths, .ref a_th_toldFrom, .ref a_th_wayCount, .int th_seats, .int th_kind, .int th_penny]))] := hD
  refine lv_if_eq (tgt := 30) hx hb dX3_tenthsOf_5 (by decide) (fun hc_3 => ?_) (fun hc_3 => ?_)
  · have h := zz_t hc_3 h
    refine lv_iconst (v := (0 : Int32)) hx hb dX3_tenthsOf_30 (by decide) ?_
    obtain rfl := Option.some.inj h
    exact zk_iret hx hb hr hlocks hE () (hP.sub [1, 0] rfl) (hD.sub [1, 0] (by decide) rfl) hS rfl dX3_tenthsOf_31
  have h := zz_f hc_3 h
  refine lv_aload_n hx hb dX3_tenthsOf_8 rfl (lv_at hl 0 rfl) ?_
  refine lv_iload_n hx hb dX3_tenthsOf_9 rfl (lv_at hl 2 rfl) ?_
  obtain ⟨x_4, hcl_5, h⟩ := zz_bd h
  refine zk_ci (wr := [(a_th_tenths, .inl (cI, 64, .inl th_tenths))]) (va_runV (As := [.int p1]) (rest := []) C0.1 (zc_X3_has l dC dI cI cJ cZ _ a_th a_th_tenths a_th_toldFrom a_th_wayCount th_kind th_penny th_seats p1 hcl_5) (cwV 1 hts gX3_tenthsOf_X3_has rfl rfl rfl (by decide +kernel) ⟨Nat.le_of_ble_eq_true rfl, Nat.le_of_ble_eq_true rfl⟩) (zz_preV (wc := [(a_th, .inr (3, [.ref a_th_tenths, .ref a_th_toldFrom, .ref a_th_wayCount, .int th_seats, .int th_kind, .int th_penny]))]) hE hP hD [1] rfl rfl (by decide) (ci := 3) rfl rfl) rfl rfl hl.1 rfl (lv_room (Nat.le_of_ble_eq_true rfl)) dX3_tenthsOf_10 ⟨Nat.zero_le _, Nat.zero_le _⟩) hP hD hS hA [1] [0] rfl rfl (by decide) (by decide) (fun u H locs hP hD hS => ?_)
  have hP : va_P (dC, dI) vwCl [(a_th_tenths, .inl (cI, 64, .inl th_tenths)), (a_th, .inr (3, [.ref a_th_tenths, .ref a_th_toldFrom, .ref a_th_wayCount, .int th_seats, .int th_kind, .int th_penny]))] H := hP
  have hD : va_D A [(a_th_tenths, .inl (cI, 64, .inl th_tenths)), (a_th, .inr (3, [.ref a_th_tenths, .ref a_th_toldFrom, .ref a_th_wayCount, .int th_seats, .int th_kind, .int th_penny]))] := hD
  refine lv_if_eq (tgt := 30) hx hb dX3_tenthsOf_13 (by decide) (fun hc_6 => ?_) (fun hc_6 => ?_)
  · have h := zz_t hc_6 h
    refine lv_iconst (v := (0 : Int32)) hx hb dX3_tenthsOf_30 (by decide) ?_
    obtain rfl := Option.some.inj h
    exact zk_iret hx hb hr hlocks hE () (hP.sub [1, 0] rfl) (hD.sub [1, 0] (by decide) rfl) hS rfl dX3_tenthsOf_31
  have h := zz_f hc_6 h
  refine lv_aload_n hx hb dX3_tenthsOf_16 rfl (lv_at hl 0 rfl) ?_
  refine va_get (D := (dC, dI)) (ci := 3) (v := .ref a_th_tenths) (C := RX3) (T := TX3) (N := 6) hx hb hts zi_X3_tenthsOf_3 hown hE.1 hP 1 rfl rfl 0 (by decide) (hts _ zl_X3_tenthsOf_1) (fun _ h9 => h9) rfl dX3_tenthsOf_17 ?_
  refine lv_iload_n hx hb dX3_tenthsOf_20 rfl (lv_at hl 1 rfl) ?_
  refine lv_bipush (v := (8 : Int32)) hx hb dX3_tenthsOf_21 (by decide) ?_
  refine lv_imul hx hb dX3_tenthsOf_23 ?_
  refine lv_iload_n hx hb dX3_tenthsOf_24 rfl (lv_at hl 2 rfl) ?_
  refine lv_iadd hx hb dX3_tenthsOf_25 ?_
  obtain ⟨hin_7, h⟩ := zz_nn h
  refine va_iald hx hb hE.1 hP 0 0 rfl rfl hin_7 dX3_tenthsOf_26 ?_
  refine lv_goto (tgt := 31) hx hb dX3_tenthsOf_27 (by decide) ?_
  obtain rfl := Option.some.inj h
  exact zk_iret hx hb hr hlocks hE () (hP.sub [1, 0] rfl) (hD.sub [1, 0] (by decide) rfl) hS rfl dX3_tenthsOf_31
set_option maxHeartbeats 4000000 in
set_option maxRecDepth 100000 in
theorem zc_X3_tenthsOf (l : Launch) (dC : Nat → ClassId) (dI : Nat → Nat → Nat) (cI cJ cZ : ClassId) (sz : Nat) (a_th a_th_tenths a_th_toldFrom a_th_wayCount : Nat) (th_kind : Int32) (th_penny : Int32) (th_tenths : (Nat → Int32)) (th_seats : Int32) (p0 : Int32) (p1 : Int32) {o : Int32} (h : zf_X3_tenthsOf p0 p1 th_tenths th_seats = some o) : Met l yX3_tenthsOf wsX3_tenthsOf { frames := 1, cells := 0, slots := 0, locals := 21 } (zz_PC (dC, dI) (zz_T cI cJ cZ) [.ref a_th, .int p0, .int p1] sz [(a_th, .inr (3, [.ref a_th_tenths, .ref a_th_toldFrom, .ref a_th_wayCount, .int th_seats, .int th_kind, .int th_penny])), (a_th_tenths, .inl (cI, 64, .inl th_tenths))]) (zz_QI (dC, dI) (zz_T cI cJ cZ) (va_A [(a_th, .inr (3, [.ref a_th_tenths, .ref a_th_toldFrom, .ref a_th_wayCount, .int th_seats, .int th_kind, .int th_penny])), (a_th_tenths, .inl (cI, 64, .inl th_tenths))] sz) (fun _ : Unit => [(a_th, .inr (3, [.ref a_th_tenths, .ref a_th_toldFrom, .ref a_th_wayCount, .int th_seats, .int th_kind, .int th_penny])), (a_th_tenths, .inl (cI, 64, .inl th_tenths))]) o) 0 0 (va_A [(a_th, .inr (3, [.ref a_th_tenths, .ref a_th_toldFrom, .ref a_th_wayCount, .int th_seats, .int th_kind, .int th_penny])), (a_th_tenths, .inl (cI, 64, .inl th_tenths))] sz) := by
  refine zz_met (own := RX3) (cc := cX3_tenthsOf) (maxL := 3) (ret := some .int) (by decide) rfl rfl (Nat.le_of_ble_eq_true rfl) ?_
  intro p e s m below meth c ls hsz C0 hE hin hl hP hD
  subst hsz
  exact zw_X3_tenthsOf C0 hE (fun q hq => Or.inr hq) h _ _ _ hP hD va_S.rf hl
/-! X3_tell : PlateLast$Net.tell(III)V -/
theorem zi_X3_tell_3 : ∀ w ∈ u_ws RX3 TX3 6, w ∈ wsX3_tell := by decide +kernel
theorem zl_X3_tell_1 : Cond.fieldLink RX3 9 "PlateLast$Net" "tenths" "[I" ∈ wsX3_tell := by decide +kernel
theorem zl_X3_tell_2 : Cond.fieldLink RX3 15 "PlateLast$Net" "toldFrom" "[I" ∈ wsX3_tell := by decide +kernel
theorem zl_X3_tell_3 : Cond.fieldLink RX3 18 "PlateLast$Net" "wayCount" "[I" ∈ wsX3_tell := by decide +kernel
set_option maxHeartbeats 4000000 in
set_option maxRecDepth 100000 in
theorem zw_X3_tell {p : Program} {l : Launch} {e : Env} {s : State} {m : MethodId} {args : Array Value} {below : List Frame} {meth : Method} {c : Code} {dC : Nat → ClassId} {dI : Nat → Nat → Nat} {cI cJ cZ : ClassId} {A : Nat → Prop} {a_th a_th_tenths a_th_toldFrom a_th_wayCount : Nat} {th_kind : Int32} {th_penny : Int32} {th_seats : Int32} {o : (Nat → Int32) × (Nat → Int32) × (Nat → Int32)} (C0 : zz_C p s m args meth c cX3_tell 4 RX3 wsX3_tell (none)) (hE : zz_EV (dC, dI) (zz_T cI cJ cZ) s) (hA : ∀ q : Nat, s.heap.size ≤ q → A q) {th_tenths : (Nat → Int32)} {th_toldFrom : (Nat → Int32)} {th_wayCount : (Nat → Int32)} {p0 : Int32} {p1 : Int32} {p2 : Int32} (h : zf_X3_tell p0 p1 p2 th_seats th_tenths th_toldFrom th_wayCount = some o) : ∀ (H : Heap) (locs : List Loc) (ls : Array Slot), va_P (dC, dI) vwCl [(a_th, .inr (3, [.ref a_th_tenths, .ref a_th_toldFrom, .ref a_th_wayCount, .int th_seats, .int th_kind, .int th_penny])), (a_th_tenths, .inl (cI, 64, .inl th_tenths)), (a_th_toldFrom, .inl (cI, 8, .inl th_toldFrom)), (a_th_wayCount, .inl (cI, 8, .inl th_wayCount))] H → va_D A [(a_th, .inr (3, [.ref a_th_tenths, .ref a_th_toldFrom, .ref a_th_wayCount, .int th_seats, .int th_kind, .int th_penny])), (a_th_tenths, .inl (cI, 64, .inl th_tenths)), (a_th_toldFrom, .inl (cI, 8, .inl th_toldFrom)), (a_th_wayCount, .inl (cI, 8, .inl th_wayCount))] → va_S A s.heap H locs → lv_has ls 4 [(0, .ref a_th), (1, .int p0), (2, .int p1), (3, .int p2)] → W p l e { frames := 1, cells := 0, slots := 0, locals := 21 } s m args below meth c H locs 0 0 (MQ below (zz_QV (dC, dI) (zz_T cI cJ cZ) A (fun _ : Unit => [(a_th, .inr (3, [.ref a_th_tenths, .ref a_th_toldFrom, .ref a_th_wayCount, .int th_seats, .int th_kind, .int th_penny])), (a_th_tenths, .inl (cI, 64, .inl o.1)), (a_th_toldFrom, .inl (cI, 8, .inl o.2.1)), (a_th_wayCount, .inl (cI, 8, .inl o.2.2))])) args s 0 0 A) (F0 m 0 ls []) := by
  obtain ⟨⟨hx, hb, hml, hown, hts⟩, hr, hlocks⟩ := id C0
  unfold zf_X3_tell at h
  intro H locs ls hP hD hS hl
  refine lv_aload_n hx hb dX3_tell_0 rfl (lv_at hl 0 rfl) ?_
  refine lv_iload_n hx hb dX3_tell_1 rfl (lv_at hl 1 rfl) ?_
  obtain ⟨x_1, hcl_2, h⟩ := zz_bd h
  refine zk_ci (wr := [(a_th_tenths, .inl (cI, 64, .inl th_tenths)), (a_th_toldFrom, .inl (cI, 8, .inl th_toldFrom)), (a_th_wayCount, .inl (cI, 8, .inl th_wayCount))]) (va_runV (As := [.int p0]) (rest := []) C0.1 (zc_X3_has l dC dI cI cJ cZ _ a_th a_th_tenths a_th_toldFrom a_th_wayCount th_kind th_penny th_seats p0 hcl_2) (cwV 1 hts gX3_tell_X3_has rfl rfl rfl (by decide +kernel) ⟨Nat.le_of_ble_eq_true rfl, Nat.le_of_ble_eq_true rfl⟩) (zz_preV (wc := [(a_th, .inr (3, [.ref a_th_tenths, .ref a_th_toldFrom, .ref a_th_wayCount, .int th_seats, .int th_kind, .int th_penny]))]) hE hP hD [0] rfl rfl (by decide) (ci := 3) rfl rfl) rfl rfl hl.1 rfl (lv_room (Nat.le_of_ble_eq_true rfl)) dX3_tell_2 ⟨Nat.zero_le _, Nat.zero_le _⟩) hP hD hS hA [0] [1, 2, 3] rfl rfl (by decide) (by decide) (fun u H locs hP hD hS => ?_)
  have hP : va_P (dC, dI) vwCl [(a_th_tenths, .inl (cI, 64, .inl th_tenths)), (a_th_toldFrom, .inl (cI, 8, .inl th_toldFrom)), (a_th_wayCount, .inl (cI, 8, .inl th_wayCount)), (a_th, .inr (3, [.ref a_th_tenths, .ref a_th_toldFrom, .ref a_th_wayCount, .int th_seats, .int th_kind, .int th_penny]))] H := hP
  have hD : va_D A [(a_th_tenths, .inl (cI, 64, .inl th_tenths)), (a_th_toldFrom, .inl (cI, 8, .inl th_toldFrom)), (a_th_wayCount, .inl (cI, 8, .inl th_wayCount)), (a_th, .inr (3, [.ref a_th_tenths, .ref a_th_toldFrom, .ref a_th_wayCount, .int th_seats, .int th_kind, .int th_penny]))] := hD
  refine lv_if_eq (tgt := 51) hx hb dX3_tell_5 (by decide) (fun hc_3 => ?_) (fun hc_3 => ?_)
  · have h := zz_t hc_3 h
    obtain rfl := Option.some.inj h
    exact zk_vret hx hb hr hlocks hE () (hP.sub [3, 0, 1, 2] rfl) (hD.sub [3, 0, 1, 2] (by decide) rfl) hS dX3_tell_51
  have h := zz_f hc_3 h
  refine lv_aload_n hx hb dX3_tell_8 rfl (lv_at hl 0 rfl) ?_
  refine lv_iload_n hx hb dX3_tell_9 rfl (lv_at hl 2 rfl) ?_
  obtain ⟨x_4, hcl_5, h⟩ := zz_bd h
  refine zk_ci (wr := [(a_th_tenths, .inl (cI, 64, .inl th_tenths)), (a_th_toldFrom, .inl (cI, 8, .inl th_toldFrom)), (a_th_wayCount, .inl (cI, 8, .inl th_wayCount))]) (va_runV (As := [.int p1]) (rest := []) C0.1 (zc_X3_has l dC dI cI cJ cZ _ a_th a_th_tenths a_th_toldFrom a_th_wayCount th_kind th_penny th_seats p1 hcl_5) (cwV 1 hts gX3_tell_X3_has rfl rfl rfl (by decide +kernel) ⟨Nat.le_of_ble_eq_true rfl, Nat.le_of_ble_eq_true rfl⟩) (zz_preV (wc := [(a_th, .inr (3, [.ref a_th_tenths, .ref a_th_toldFrom, .ref a_th_wayCount, .int th_seats, .int th_kind, .int th_penny]))]) hE hP hD [3] rfl rfl (by decide) (ci := 3) rfl rfl) rfl rfl hl.1 rfl (lv_room (Nat.le_of_ble_eq_true rfl)) dX3_tell_10 ⟨Nat.zero_le _, Nat.zero_le _⟩) hP hD hS hA [3] [0, 1, 2] rfl rfl (by decide) (by decide) (fun u H locs hP hD hS => ?_)
  have hP : va_P (dC, dI) vwCl [(a_th_tenths, .inl (cI, 64, .inl th_tenths)), (a_th_toldFrom, .inl (cI, 8, .inl th_toldFrom)), (a_th_wayCount, .inl (cI, 8, .inl th_wayCount)), (a_th, .inr (3, [.ref a_th_tenths, .ref a_th_toldFrom, .ref a_th_wayCount, .int th_seats, .int th_kind, .int th_penny]))] H := hP
  have hD : va_D A [(a_th_tenths, .inl (cI, 64, .inl th_tenths)), (a_th_toldFrom, .inl (cI, 8, .inl th_toldFrom)), (a_th_wayCount, .inl (cI, 8, .inl th_wayCount)), (a_th, .inr (3, [.ref a_th_tenths, .ref a_th_toldFrom, .ref a_th_wayCount, .int th_seats, .int th_kind, .int th_penny]))] := hD
  refine lv_if_eq (tgt := 51) hx hb dX3_tell_13 (by decide) (fun hc_6 => ?_) (fun hc_6 => ?_)
  · have h := zz_t hc_6 h
    obtain rfl := Option.some.inj h
    exact zk_vret hx hb hr hlocks hE () (hP.sub [3, 0, 1, 2] rfl) (hD.sub [3, 0, 1, 2] (by decide) rfl) hS dX3_tell_51
  have h := zz_f hc_6 h
  refine lv_aload_n hx hb dX3_tell_16 rfl (lv_at hl 0 rfl) ?_
  refine va_get (D := (dC, dI)) (ci := 3) (v := .ref a_th_tenths) (C := RX3) (T := TX3) (N := 6) hx hb hts zi_X3_tell_3 hown hE.1 hP 3 rfl rfl 0 (by decide) (hts _ zl_X3_tell_1) (fun _ h9 => h9) rfl dX3_tell_17 ?_
  refine lv_iload_n hx hb dX3_tell_20 rfl (lv_at hl 1 rfl) ?_
  refine lv_bipush (v := (8 : Int32)) hx hb dX3_tell_21 (by decide) ?_
  refine lv_imul hx hb dX3_tell_23 ?_
  refine lv_iload_n hx hb dX3_tell_24 rfl (lv_at hl 2 rfl) ?_
  refine lv_iadd hx hb dX3_tell_25 ?_
  refine lv_dup2_11 hx hb dX3_tell_26 rfl rfl ?_
  obtain ⟨hin_7, h⟩ := zz_nn h
  refine va_iald hx hb hE.1 hP 0 0 rfl rfl hin_7 dX3_tell_27 ?_
  refine lv_iload_n hx hb dX3_tell_28 rfl (lv_at hl 3 rfl) ?_
  refine lv_iadd hx hb dX3_tell_29 ?_
  refine va_iast hx hb hE.1 hP hD hS 0 0 rfl rfl hin_7 dX3_tell_30 (fun H locs hP hD hS => ?_)
  have hP : va_P (dC, dI) vwCl [(a_th_tenths, .inl (cI, 64, .inl (upd th_tenths (((p0 * (8 : Int32)) + p1)).toNatClampNeg ((th_tenths (((p0 * (8 : Int32)) + p1)).toNatClampNeg) + p2)))), (a_th_toldFrom, .inl (cI, 8, .inl th_toldFrom)), (a_th_wayCount, .inl (cI, 8, .inl th_wayCount)), (a_th, .inr (3, [.ref a_th_tenths, .ref a_th_toldFrom, .ref a_th_wayCount, .int th_seats, .int th_kind, .int th_penny]))] H := hP
  have hD : va_D A [(a_th_tenths, .inl (cI, 64, .inl (upd th_tenths (((p0 * (8 : Int32)) + p1)).toNatClampNeg ((th_tenths (((p0 * (8 : Int32)) + p1)).toNatClampNeg) + p2)))), (a_th_toldFrom, .inl (cI, 8, .inl th_toldFrom)), (a_th_wayCount, .inl (cI, 8, .inl th_wayCount)), (a_th, .inr (3, [.ref a_th_tenths, .ref a_th_toldFrom, .ref a_th_wayCount, .int th_seats, .int th_kind, .int th_penny]))] := hD
  refine lv_aload_n hx hb dX3_tell_31 rfl (lv_at hl 0 rfl) ?_
  refine va_get (D := (dC, dI)) (ci := 3) (v := .ref a_th_toldFrom) (C := RX3) (T := TX3) (N := 6) hx hb hts zi_X3_tell_3 hown hE.1 hP 3 rfl rfl 1 (by decide) (hts _ zl_X3_tell_2) (fun _ h9 => h9) rfl dX3_tell_32 ?_
  refine lv_iload_n hx hb dX3_tell_35 rfl (lv_at hl 1 rfl) ?_
  refine lv_dup2_11 hx hb dX3_tell_36 rfl rfl ?_
  obtain ⟨hin_8, h⟩ := zz_nn h
  refine va_iald hx hb hE.1 hP 1 0 rfl rfl hin_8 dX3_tell_37 ?_
  refine lv_iload_n hx hb dX3_tell_38 rfl (lv_at hl 3 rfl) ?_
  refine lv_iadd hx hb dX3_tell_39 ?_
  refine va_iast hx hb hE.1 hP hD hS 1 0 rfl rfl hin_8 dX3_tell_40 (fun H locs hP hD hS => ?_)
  have hP : va_P (dC, dI) vwCl [(a_th_tenths, .inl (cI, 64, .inl (upd th_tenths (((p0 * (8 : Int32)) + p1)).toNatClampNeg ((th_tenths (((p0 * (8 : Int32)) + p1)).toNatClampNeg) + p2)))), (a_th_toldFrom, .inl (cI, 8, .inl (upd th_toldFrom (p0).toNatClampNeg ((th_toldFrom (p0).toNatClampNeg) + p2)))), (a_th_wayCount, .inl (cI, 8, .inl th_wayCount)), (a_th, .inr (3, [.ref a_th_tenths, .ref a_th_toldFrom, .ref a_th_wayCount, .int th_seats, .int th_kind, .int th_penny]))] H := hP
  have hD : va_D A [(a_th_tenths, .inl (cI, 64, .inl (upd th_tenths (((p0 * (8 : Int32)) + p1)).toNatClampNeg ((th_tenths (((p0 * (8 : Int32)) + p1)).toNatClampNeg) + p2)))), (a_th_toldFrom, .inl (cI, 8, .inl (upd th_toldFrom (p0).toNatClampNeg ((th_toldFrom (p0).toNatClampNeg) + p2)))), (a_th_wayCount, .inl (cI, 8, .inl th_wayCount)), (a_th, .inr (3, [.ref a_th_tenths, .ref a_th_toldFrom, .ref a_th_wayCount, .int th_seats, .int th_kind, .int th_penny]))] := hD
  refine lv_aload_n hx hb dX3_tell_41 rfl (lv_at hl 0 rfl) ?_
  refine va_get (D := (dC, dI)) (ci := 3) (v := .ref a_th_wayCount) (C := RX3) (T := TX3) (N := 6) hx hb hts zi_X3_tell_3 hown hE.1 hP 3 rfl rfl 2 (by decide) (hts _ zl_X3_tell_3) (fun _ h9 => h9) rfl dX3_tell_42 ?_
  refine lv_iload_n hx hb dX3_tell_45 rfl (lv_at hl 1 rfl) ?_
  refine lv_dup2_11 hx hb dX3_tell_46 rfl rfl ?_
  refine va_iald hx hb hE.1 hP 2 0 rfl rfl hin_8 dX3_tell_47 ?_
  refine lv_iconst (v := (1 : Int32)) hx hb dX3_tell_48 (by decide) ?_
  refine lv_iadd hx hb dX3_tell_49 ?_
  refine va_iast hx hb hE.1 hP hD hS 2 0 rfl rfl hin_8 dX3_tell_50 (fun H locs hP hD hS => ?_)
  have hP : va_P (dC, dI) vwCl [(a_th_tenths, .inl (cI, 64, .inl (upd th_tenths (((p0 * (8 : Int32)) + p1)).toNatClampNeg ((th_tenths (((p0 * (8 : Int32)) + p1)).toNatClampNeg) + p2)))), (a_th_toldFrom, .inl (cI, 8, .inl (upd th_toldFrom (p0).toNatClampNeg ((th_toldFrom (p0).toNatClampNeg) + p2)))), (a_th_wayCount, .inl (cI, 8, .inl (upd th_wayCount (p0).toNatClampNeg ((th_wayCount (p0).toNatClampNeg) + (1 : Int32))))), (a_th, .inr (3, [.ref a_th_tenths, .ref a_th_toldFrom, .ref a_th_wayCount, .int th_seats, .int th_kind, .int th_penny]))] H := hP
  have hD : va_D A [(a_th_tenths, .inl (cI, 64, .inl (upd th_tenths (((p0 * (8 : Int32)) + p1)).toNatClampNeg ((th_tenths (((p0 * (8 : Int32)) + p1)).toNatClampNeg) + p2)))), (a_th_toldFrom, .inl (cI, 8, .inl (upd th_toldFrom (p0).toNatClampNeg ((th_toldFrom (p0).toNatClampNeg) + p2)))), (a_th_wayCount, .inl (cI, 8, .inl (upd th_wayCount (p0).toNatClampNeg ((th_wayCount (p0).toNatClampNeg) + (1 : Int32))))), (a_th, .inr (3, [.ref a_th_tenths, .ref a_th_toldFrom, .ref a_th_wayCount, .int th_seats, .int th_kind, .int th_penny]))] := hD
  obtain rfl := Option.some.inj h
  exact zk_vret hx hb hr hlocks hE () (hP.sub [3, 0, 1, 2] rfl) (hD.sub [3, 0, 1, 2] (by decide) rfl) hS dX3_tell_51
set_option maxHeartbeats 4000000 in
set_option maxRecDepth 100000 in
theorem zc_X3_tell (l : Launch) (dC : Nat → ClassId) (dI : Nat → Nat → Nat) (cI cJ cZ : ClassId) (sz : Nat) (a_th a_th_tenths a_th_toldFrom a_th_wayCount : Nat) (th_kind : Int32) (th_penny : Int32) (th_seats : Int32) (th_tenths : (Nat → Int32)) (th_toldFrom : (Nat → Int32)) (th_wayCount : (Nat → Int32)) (p0 : Int32) (p1 : Int32) (p2 : Int32) {o : (Nat → Int32) × (Nat → Int32) × (Nat → Int32)} (h : zf_X3_tell p0 p1 p2 th_seats th_tenths th_toldFrom th_wayCount = some o) : Met l yX3_tell wsX3_tell { frames := 1, cells := 0, slots := 0, locals := 21 } (zz_PC (dC, dI) (zz_T cI cJ cZ) [.ref a_th, .int p0, .int p1, .int p2] sz [(a_th, .inr (3, [.ref a_th_tenths, .ref a_th_toldFrom, .ref a_th_wayCount, .int th_seats, .int th_kind, .int th_penny])), (a_th_tenths, .inl (cI, 64, .inl th_tenths)), (a_th_toldFrom, .inl (cI, 8, .inl th_toldFrom)), (a_th_wayCount, .inl (cI, 8, .inl th_wayCount))]) (zz_QV (dC, dI) (zz_T cI cJ cZ) (va_A [(a_th, .inr (3, [.ref a_th_tenths, .ref a_th_toldFrom, .ref a_th_wayCount, .int th_seats, .int th_kind, .int th_penny])), (a_th_tenths, .inl (cI, 64, .inl th_tenths)), (a_th_toldFrom, .inl (cI, 8, .inl th_toldFrom)), (a_th_wayCount, .inl (cI, 8, .inl th_wayCount))] sz) (fun _ : Unit => [(a_th, .inr (3, [.ref a_th_tenths, .ref a_th_toldFrom, .ref a_th_wayCount, .int th_seats, .int th_kind, .int th_penny])), (a_th_tenths, .inl (cI, 64, .inl o.1)), (a_th_toldFrom, .inl (cI, 8, .inl o.2.1)), (a_th_wayCount, .inl (cI, 8, .inl o.2.2))])) 0 0 (va_A [(a_th, .inr (3, [.ref a_th_tenths, .ref a_th_toldFrom, .ref a_th_wayCount, .int th_seats, .int th_kind, .int th_penny])), (a_th_tenths, .inl (cI, 64, .inl th_tenths)), (a_th_toldFrom, .inl (cI, 8, .inl th_toldFrom)), (a_th_wayCount, .inl (cI, 8, .inl th_wayCount))] sz) := by
  refine zz_met (own := RX3) (cc := cX3_tell) (maxL := 4) (ret := none) (by decide) rfl rfl (Nat.le_of_ble_eq_true rfl) ?_
  intro p e s m below meth c ls hsz C0 hE hin hl hP hD
  subst hsz
  exact zw_X3_tell C0 hE (fun q hq => Or.inr hq) h _ _ _ hP hD va_S.rf hl
/-! X3_lay : PlateLast$Net.lay(II)V -/
theorem zi_X3_lay_3 : ∀ w ∈ u_ws RX3 TX3 6, w ∈ wsX3_lay := by decide +kernel
theorem zl_X3_lay_1 : Cond.fieldLink RX3 25 "PlateLast$Net" "kind" "I" ∈ wsX3_lay := by decide +kernel
theorem zl_X3_lay_2 : Cond.fieldLink RX3 28 "PlateLast$Net" "penny" "I" ∈ wsX3_lay := by decide +kernel
theorem zl_X3_lay_3 : Cond.fieldLink RX3 21 "PlateLast$Net" "seats" "I" ∈ wsX3_lay := by decide +kernel
set_option maxHeartbeats 4000000 in
set_option maxRecDepth 100000 in
theorem zw_X3_lay_125 {p : Program} {l : Launch} {e : Env} {s : State} {m : MethodId} {args : Array Value} {below : List Frame} {meth : Method} {c : Code} {dC : Nat → ClassId} {dI : Nat → Nat → Nat} {cI cJ cZ : ClassId} {A : Nat → Prop} {a_th a_th_tenths a_th_toldFrom a_th_wayCount : Nat} {th_seats : Int32} {o : (Nat → Int32) × (Nat → Int32) × (Nat → Int32) × Int32 × Int32} (C0 : zz_C p s m args meth c cX3_lay 7 RX3 wsX3_lay (none)) (hE : zz_EV (dC, dI) (zz_T cI cJ cZ) s) (hA : ∀ q : Nat, s.heap.size ≤ q → A q) (k20 : (Nat → Int32) → (Nat → Int32) → (Nat → Int32) → Int32 → Int32 → Int32 → Int32 → Int32 → Int32 → Option ((Nat → Int32) × (Nat → Int32) × (Nat → Int32) × Int32 × Int32)) (hk20 : ∀ (th_tenths : (Nat → Int32)) (th_toldFrom : (Nat → Int32)) (th_wayCount : (Nat → Int32)) (th_kind : Int32) (th_penny : Int32) (v1 : Int32) (v2 : Int32) (v3 : Int32) (v4 : Int32), k20 th_tenths th_toldFrom th_wayCount th_kind th_penny v1 v2 v3 v4 = some o → ∀ (H : Heap) (locs : List Loc) (ls : Array Slot), va_P (dC, dI) vwCl [(a_th, .inr (3, [.ref a_th_tenths, .ref a_th_toldFrom, .ref a_th_wayCount, .int th_seats, .int th_kind, .int th_penny])), (a_th_tenths, .inl (cI, 64, .inl th_tenths)), (a_th_toldFrom, .inl (cI, 8, .inl th_toldFrom)), (a_th_wayCount, .inl (cI, 8, .inl th_wayCount))] H → va_D A [(a_th, .inr (3, [.ref a_th_tenths, .ref a_th_toldFrom, .ref a_th_wayCount, .int th_seats, .int th_kind, .int th_penny])), (a_th_tenths, .inl (cI, 64, .inl th_tenths)), (a_th_toldFrom, .inl (cI, 8, .inl th_toldFrom)), (a_th_wayCount, .inl (cI, 8, .inl th_wayCount))] → va_S A s.heap H locs → lv_has ls 7 [(0, .ref a_th), (1, .int v1), (2, .int v2), (3, .int v3), (4, .int v4)] → W p l e { frames := 2, cells := 0, slots := 0, locals := 44 } s m args below meth c H locs 0 0 (MQ below (zz_QV (dC, dI) (zz_T cI cJ cZ) A (fun _ : Unit => [(a_th, .inr (3, [.ref a_th_tenths, .ref a_th_toldFrom, .ref a_th_wayCount, .int th_seats, .int o.2.2.2.1, .int o.2.2.2.2])), (a_th_tenths, .inl (cI, 64, .inl o.1)), (a_th_toldFrom, .inl (cI, 8, .inl o.2.1)), (a_th_wayCount, .inl (cI, 8, .inl o.2.2.1))])) args s 0 0 A) (F0 m 20 ls [])) {th_tenths : (Nat → Int32)} {th_toldFrom : (Nat → Int32)} {th_wayCount : (Nat → Int32)} {th_kind : Int32} {th_penny : Int32} {v1 : Int32} {v2 : Int32} {v3 : Int32} {v4 : Int32} (h : zf_X3_lay_125 th_seats k20 th_tenths th_toldFrom th_wayCount th_kind th_penny v1 v2 v3 v4 = some o) : ∀ (H : Heap) (locs : List Loc) (ls : Array Slot), va_P (dC, dI) vwCl [(a_th, .inr (3, [.ref a_th_tenths, .ref a_th_toldFrom, .ref a_th_wayCount, .int th_seats, .int th_kind, .int th_penny])), (a_th_tenths, .inl (cI, 64, .inl th_tenths)), (a_th_toldFrom, .inl (cI, 8, .inl th_toldFrom)), (a_th_wayCount, .inl (cI, 8, .inl th_wayCount))] H → va_D A [(a_th, .inr (3, [.ref a_th_tenths, .ref a_th_toldFrom, .ref a_th_wayCount, .int th_seats, .int th_kind, .int th_penny])), (a_th_tenths, .inl (cI, 64, .inl th_tenths)), (a_th_toldFrom, .inl (cI, 8, .inl th_toldFrom)), (a_th_wayCount, .inl (cI, 8, .inl th_wayCount))] → va_S A s.heap H locs → lv_has ls 7 [(0, .ref a_th), (1, .int v1), (2, .int v2), (3, .int v3), (4, .int v4)] → W p l e { frames := 2, cells := 0, slots := 0, locals := 44 } s m args below meth c H locs 0 0 (MQ below (zz_QV (dC, dI) (zz_T cI cJ cZ) A (fun _ : Unit => [(a_th, .inr (3, [.ref a_th_tenths, .ref a_th_toldFrom, .ref a_th_wayCount, .int th_seats, .int o.2.2.2.1, .int o.2.2.2.2])), (a_th_tenths, .inl (cI, 64, .inl o.1)), (a_th_toldFrom, .inl (cI, 8, .inl o.2.1)), (a_th_wayCount, .inl (cI, 8, .inl o.2.2.1))])) args s 0 0 A) (F0 m 125 ls []) := by
  obtain ⟨⟨hx, hb, hml, hown, hts⟩, hr, hlocks⟩ := id C0
  unfold zf_X3_lay_125 at h
  intro H locs ls hP hD hS hl
  refine lv_iinc (v := (v4 + (1 : Int32))) (lv' := [(4, .int (v4 + (1 : Int32))), (0, .ref a_th), (1, .int v1), (2, .int v2), (3, .int v3)]) hx hb dX3_lay_125 hl (k := 4) rfl rfl (by decide) rfl (fun ls hl => ?_)
  refine lv_goto (tgt := 20) hx hb dX3_lay_128 (by decide) ?_
  exact hk20 th_tenths th_toldFrom th_wayCount th_kind th_penny v1 v2 v3 (v4 + (1 : Int32)) h _ _ _ hP hD hS (lv_sub hl [1, 2, 3, 4, 0] rfl)
set_option maxHeartbeats 4000000 in
set_option maxRecDepth 100000 in
theorem zw_X3_lay_104 {p : Program} {l : Launch} {e : Env} {s : State} {m : MethodId} {args : Array Value} {below : List Frame} {meth : Method} {c : Code} {dC : Nat → ClassId} {dI : Nat → Nat → Nat} {cI cJ cZ : ClassId} {A : Nat → Prop} {a_th a_th_tenths a_th_toldFrom a_th_wayCount : Nat} {th_seats : Int32} {o : (Nat → Int32) × (Nat → Int32) × (Nat → Int32) × Int32 × Int32} (C0 : zz_C p s m args meth c cX3_lay 7 RX3 wsX3_lay (none)) (hE : zz_EV (dC, dI) (zz_T cI cJ cZ) s) (hA : ∀ q : Nat, s.heap.size ≤ q → A q) (k20 : (Nat → Int32) → (Nat → Int32) → (Nat → Int32) → Int32 → Int32 → Int32 → Int32 → Int32 → Int32 → Option ((Nat → Int32) × (Nat → Int32) × (Nat → Int32) × Int32 × Int32)) (hk20 : ∀ (th_tenths : (Nat → Int32)) (th_toldFrom : (Nat → Int32)) (th_wayCount : (Nat → Int32)) (th_kind : Int32) (th_penny : Int32) (v1 : Int32) (v2 : Int32) (v3 : Int32) (v4 : Int32), k20 th_tenths th_toldFrom th_wayCount th_kind th_penny v1 v2 v3 v4 = some o → ∀ (H : Heap) (locs : List Loc) (ls : Array Slot), va_P (dC, dI) vwCl [(a_th, .inr (3, [.ref a_th_tenths, .ref a_th_toldFrom, .ref a_th_wayCount, .int th_seats, .int th_kind, .int th_penny])), (a_th_tenths, .inl (cI, 64, .inl th_tenths)), (a_th_toldFrom, .inl (cI, 8, .inl th_toldFrom)), (a_th_wayCount, .inl (cI, 8, .inl th_wayCount))] H → va_D A [(a_th, .inr (3, [.ref a_th_tenths, .ref a_th_toldFrom, .ref a_th_wayCount, .int th_seats, .int th_kind, .int th_penny])), (a_th_tenths, .inl (cI, 64, .inl th_tenths)), (a_th_toldFrom, .inl (cI, 8, .inl th_toldFrom)), (a_th_wayCount, .inl (cI, 8, .inl th_wayCount))] → va_S A s.heap H locs → lv_has ls 7 [(0, .ref a_th), (1, .int v1), (2, .int v2), (3, .int v3), (4, .int v4)] → W p l e { frames := 2, cells := 0, slots := 0, locals := 44 } s m args below meth c H locs 0 0 (MQ below (zz_QV (dC, dI) (zz_T cI cJ cZ) A (fun _ : Unit => [(a_th, .inr (3, [.ref a_th_tenths, .ref a_th_toldFrom, .ref a_th_wayCount, .int th_seats, .int o.2.2.2.1, .int o.2.2.2.2])), (a_th_tenths, .inl (cI, 64, .inl o.1)), (a_th_toldFrom, .inl (cI, 8, .inl o.2.1)), (a_th_wayCount, .inl (cI, 8, .inl o.2.2.1))])) args s 0 0 A) (F0 m 20 ls [])) {th_tenths : (Nat → Int32)} {th_toldFrom : (Nat → Int32)} {th_wayCount : (Nat → Int32)} {th_kind : Int32} {th_penny : Int32} {v1 : Int32} {v2 : Int32} {v3 : Int32} {v4 : Int32} {v5 : Int32} {v6 : Int32} (h : zf_X3_lay_104 th_seats k20 th_tenths th_toldFrom th_wayCount th_kind th_penny v1 v2 v3 v4 v5 v6 = some o) : ∀ (H : Heap) (locs : List Loc) (ls : Array Slot), va_P (dC, dI) vwCl [(a_th, .inr (3, [.ref a_th_tenths, .ref a_th_toldFrom, .ref a_th_wayCount, .int th_seats, .int th_kind, .int th_penny])), (a_th_tenths, .inl (cI, 64, .inl th_tenths)), (a_th_toldFrom, .inl (cI, 8, .inl th_toldFrom)), (a_th_wayCount, .inl (cI, 8, .inl th_wayCount))] H → va_D A [(a_th, .inr (3, [.ref a_th_tenths, .ref a_th_toldFrom, .ref a_th_wayCount, .int th_seats, .int th_kind, .int th_penny])), (a_th_tenths, .inl (cI, 64, .inl th_tenths)), (a_th_toldFrom, .inl (cI, 8, .inl th_toldFrom)), (a_th_wayCount, .inl (cI, 8, .inl th_wayCount))] → va_S A s.heap H locs → lv_has ls 7 [(0, .ref a_th), (1, .int v1), (2, .int v2), (3, .int v3), (4, .int v4), (5, .int v5), (6, .int v6)] → W p l e { frames := 2, cells := 0, slots := 0, locals := 44 } s m args below meth c H locs 0 0 (MQ below (zz_QV (dC, dI) (zz_T cI cJ cZ) A (fun _ : Unit => [(a_th, .inr (3, [.ref a_th_tenths, .ref a_th_toldFrom, .ref a_th_wayCount, .int th_seats, .int o.2.2.2.1, .int o.2.2.2.2])), (a_th_tenths, .inl (cI, 64, .inl o.1)), (a_th_toldFrom, .inl (cI, 8, .inl o.2.1)), (a_th_wayCount, .inl (cI, 8, .inl o.2.2.1))])) args s 0 0 A) (F0 m 104 ls []) := by
  obtain ⟨⟨hx, hb, hml, hown, hts⟩, hr, hlocks⟩ := id C0
  unfold zf_X3_lay_104 at h
  intro H locs ls hP hD hS hl
  refine lv_aload_n hx hb dX3_lay_104 rfl (lv_at hl 0 rfl) ?_
  refine lv_iload hx hb dX3_lay_105 (lv_at hl 4 rfl) ?_
  refine lv_iload hx hb dX3_lay_107 (lv_at hl 5 rfl) ?_
  refine lv_iload_n hx hb dX3_lay_109 rfl (lv_at hl 2 rfl) ?_
  obtain ⟨x_1, hcl_2, h⟩ := zz_bd h
  refine zk_cv (wr := []) (va_runV (As := [.int v4, .int v5, .int v2]) (rest := []) C0.1 (zc_X3_tell l dC dI cI cJ cZ _ a_th a_th_tenths a_th_toldFrom a_th_wayCount th_kind th_penny th_seats th_tenths th_toldFrom th_wayCount v4 v5 v2 hcl_2) (cwV 3 hts gX3_lay_X3_tell rfl rfl rfl (by decide +kernel) ⟨Nat.le_of_ble_eq_true rfl, Nat.le_of_ble_eq_true rfl⟩) (zz_preV (wc := [(a_th, .inr (3, [.ref a_th_tenths, .ref a_th_toldFrom, .ref a_th_wayCount, .int th_seats, .int th_kind, .int th_penny])), (a_th_tenths, .inl (cI, 64, .inl th_tenths)), (a_th_toldFrom, .inl (cI, 8, .inl th_toldFrom)), (a_th_wayCount, .inl (cI, 8, .inl th_wayCount))]) hE hP hD [0, 1, 2, 3] rfl rfl (by decide) (ci := 3) rfl rfl) rfl rfl hl.1 rfl (lv_room (Nat.le_of_ble_eq_true rfl)) dX3_lay_110 ⟨Nat.zero_le _, Nat.zero_le _⟩) hP hD hS hA [0, 1, 2, 3] [] rfl rfl (by decide) (by decide) (fun u H locs hP hD hS => ?_)
  have hP : va_P (dC, dI) vwCl [(a_th, .inr (3, [.ref a_th_tenths, .ref a_th_toldFrom, .ref a_th_wayCount, .int th_seats, .int th_kind, .int th_penny])), (a_th_tenths, .inl (cI, 64, .inl x_1.1)), (a_th_toldFrom, .inl (cI, 8, .inl x_1.2.1)), (a_th_wayCount, .inl (cI, 8, .inl x_1.2.2))] H := hP
  have hD : va_D A [(a_th, .inr (3, [.ref a_th_tenths, .ref a_th_toldFrom, .ref a_th_wayCount, .int th_seats, .int th_kind, .int th_penny])), (a_th_tenths, .inl (cI, 64, .inl x_1.1)), (a_th_toldFrom, .inl (cI, 8, .inl x_1.2.1)), (a_th_wayCount, .inl (cI, 8, .inl x_1.2.2))] := hD
  refine lv_aload_n hx hb dX3_lay_113 rfl (lv_at hl 0 rfl) ?_
  refine lv_iload hx hb dX3_lay_114 (lv_at hl 4 rfl) ?_
  refine lv_iload hx hb dX3_lay_116 (lv_at hl 6 rfl) ?_
  refine lv_bipush (v := (10 : Int32)) hx hb dX3_lay_118 (by decide) ?_
  refine lv_iload_n hx hb dX3_lay_120 rfl (lv_at hl 2 rfl) ?_
  refine lv_isub hx hb dX3_lay_121 ?_
  obtain ⟨x_3, hcl_4, h⟩ := zz_bd h
  refine zk_cv (wr := []) (va_runV (As := [.int v4, .int v6, .int ((10 : Int32) - v2)]) (rest := []) C0.1 (zc_X3_tell l dC dI cI cJ cZ _ a_th a_th_tenths a_th_toldFrom a_th_wayCount th_kind th_penny th_seats x_1.1 x_1.2.1 x_1.2.2 v4 v6 ((10 : Int32) - v2) hcl_4) (cwV 3 hts gX3_lay_X3_tell rfl rfl rfl (by decide +kernel) ⟨Nat.le_of_ble_eq_true rfl, Nat.le_of_ble_eq_true rfl⟩) (zz_preV (wc := [(a_th, .inr (3, [.ref a_th_tenths, .ref a_th_toldFrom, .ref a_th_wayCount, .int th_seats, .int th_kind, .int th_penny])), (a_th_tenths, .inl (cI, 64, .inl x_1.1)), (a_th_toldFrom, .inl (cI, 8, .inl x_1.2.1)), (a_th_wayCount, .inl (cI, 8, .inl x_1.2.2))]) hE hP hD [0, 1, 2, 3] rfl rfl (by decide) (ci := 3) rfl rfl) rfl rfl hl.1 rfl (lv_room (Nat.le_of_ble_eq_true rfl)) dX3_lay_122 ⟨Nat.zero_le _, Nat.zero_le _⟩) hP hD hS hA [0, 1, 2, 3] [] rfl rfl (by decide) (by decide) (fun u H locs hP hD hS => ?_)
  have hP : va_P (dC, dI) vwCl [(a_th, .inr (3, [.ref a_th_tenths, .ref a_th_toldFrom, .ref a_th_wayCount, .int th_seats, .int th_kind, .int th_penny])), (a_th_tenths, .inl (cI, 64, .inl x_3.1)), (a_th_toldFrom, .inl (cI, 8, .inl x_3.2.1)), (a_th_wayCount, .inl (cI, 8, .inl x_3.2.2))] H := hP
  have hD : va_D A [(a_th, .inr (3, [.ref a_th_tenths, .ref a_th_toldFrom, .ref a_th_wayCount, .int th_seats, .int th_kind, .int th_penny])), (a_th_tenths, .inl (cI, 64, .inl x_3.1)), (a_th_toldFrom, .inl (cI, 8, .inl x_3.2.1)), (a_th_wayCount, .inl (cI, 8, .inl x_3.2.2))] := hD
  exact zw_X3_lay_125 C0 hE hA k20 hk20 h _ _ _ hP hD hS (lv_sub hl [0, 1, 2, 3, 4] rfl)
set_option maxHeartbeats 4000000 in
set_option maxRecDepth 100000 in
theorem zw_X3_lay_80 {p : Program} {l : Launch} {e : Env} {s : State} {m : MethodId} {args : Array Value} {below : List Frame} {meth : Method} {c : Code} {dC : Nat → ClassId} {dI : Nat → Nat → Nat} {cI cJ cZ : ClassId} {A : Nat → Prop} {a_th a_th_tenths a_th_toldFrom a_th_wayCount : Nat} {th_seats : Int32} {o : (Nat → Int32) × (Nat → Int32) × (Nat → Int32) × Int32 × Int32} (C0 : zz_C p s m args meth c cX3_lay 7 RX3 wsX3_lay (none)) (hE : zz_EV (dC, dI) (zz_T cI cJ cZ) s) (hA : ∀ q : Nat, s.heap.size ≤ q → A q) (k20 : (Nat → Int32) → (Nat → Int32) → (Nat → Int32) → Int32 → Int32 → Int32 → Int32 → Int32 → Int32 → Option ((Nat → Int32) × (Nat → Int32) × (Nat → Int32) × Int32 × Int32)) (hk20 : ∀ (th_tenths : (Nat → Int32)) (th_toldFrom : (Nat → Int32)) (th_wayCount : (Nat → Int32)) (th_kind : Int32) (th_penny : Int32) (v1 : Int32) (v2 : Int32) (v3 : Int32) (v4 : Int32), k20 th_tenths th_toldFrom th_wayCount th_kind th_penny v1 v2 v3 v4 = some o → ∀ (H : Heap) (locs : List Loc) (ls : Array Slot), va_P (dC, dI) vwCl [(a_th, .inr (3, [.ref a_th_tenths, .ref a_th_toldFrom, .ref a_th_wayCount, .int th_seats, .int th_kind, .int th_penny])), (a_th_tenths, .inl (cI, 64, .inl th_tenths)), (a_th_toldFrom, .inl (cI, 8, .inl th_toldFrom)), (a_th_wayCount, .inl (cI, 8, .inl th_wayCount))] H → va_D A [(a_th, .inr (3, [.ref a_th_tenths, .ref a_th_toldFrom, .ref a_th_wayCount, .int th_seats, .int th_kind, .int th_penny])), (a_th_tenths, .inl (cI, 64, .inl th_tenths)), (a_th_toldFrom, .inl (cI, 8, .inl th_toldFrom)), (a_th_wayCount, .inl (cI, 8, .inl th_wayCount))] → va_S A s.heap H locs → lv_has ls 7 [(0, .ref a_th), (1, .int v1), (2, .int v2), (3, .int v3), (4, .int v4)] → W p l e { frames := 2, cells := 0, slots := 0, locals := 44 } s m args below meth c H locs 0 0 (MQ below (zz_QV (dC, dI) (zz_T cI cJ cZ) A (fun _ : Unit => [(a_th, .inr (3, [.ref a_th_tenths, .ref a_th_toldFrom, .ref a_th_wayCount, .int th_seats, .int o.2.2.2.1, .int o.2.2.2.2])), (a_th_tenths, .inl (cI, 64, .inl o.1)), (a_th_toldFrom, .inl (cI, 8, .inl o.2.1)), (a_th_wayCount, .inl (cI, 8, .inl o.2.2.1))])) args s 0 0 A) (F0 m 20 ls [])) {th_tenths : (Nat → Int32)} {th_toldFrom : (Nat → Int32)} {th_wayCount : (Nat → Int32)} {th_kind : Int32} {th_penny : Int32} {v1 : Int32} {v2 : Int32} {v3 : Int32} {v4 : Int32} {v5 : Int32} {v6 : Int32} (h : zf_X3_lay_80 th_seats k20 th_tenths th_toldFrom th_wayCount th_kind th_penny v1 v2 v3 v4 v5 v6 = some o) : ∀ (H : Heap) (locs : List Loc) (ls : Array Slot), va_P (dC, dI) vwCl [(a_th, .inr (3, [.ref a_th_tenths, .ref a_th_toldFrom, .ref a_th_wayCount, .int th_seats, .int th_kind, .int th_penny])), (a_th_tenths, .inl (cI, 64, .inl th_tenths)), (a_th_toldFrom, .inl (cI, 8, .inl th_toldFrom)), (a_th_wayCount, .inl (cI, 8, .inl th_wayCount))] H → va_D A [(a_th, .inr (3, [.ref a_th_tenths, .ref a_th_toldFrom, .ref a_th_wayCount, .int th_seats, .int th_kind, .int th_penny])), (a_th_tenths, .inl (cI, 64, .inl th_tenths)), (a_th_toldFrom, .inl (cI, 8, .inl th_toldFrom)), (a_th_wayCount, .inl (cI, 8, .inl th_wayCount))] → va_S A s.heap H locs → lv_has ls 7 [(0, .ref a_th), (1, .int v1), (2, .int v2), (3, .int v3), (4, .int v4), (5, .int v5), (6, .int v6)] → W p l e { frames := 2, cells := 0, slots := 0, locals := 44 } s m args below meth c H locs 0 0 (MQ below (zz_QV (dC, dI) (zz_T cI cJ cZ) A (fun _ : Unit => [(a_th, .inr (3, [.ref a_th_tenths, .ref a_th_toldFrom, .ref a_th_wayCount, .int th_seats, .int o.2.2.2.1, .int o.2.2.2.2])), (a_th_tenths, .inl (cI, 64, .inl o.1)), (a_th_toldFrom, .inl (cI, 8, .inl o.2.1)), (a_th_wayCount, .inl (cI, 8, .inl o.2.2.1))])) args s 0 0 A) (F0 m 80 ls []) := by
  obtain ⟨⟨hx, hb, hml, hown, hts⟩, hr, hlocks⟩ := id C0
  unfold zf_X3_lay_80 at h
  intro H locs ls hP hD hS hl
  refine lv_iload_n hx hb dX3_lay_80 rfl (lv_at hl 1 rfl) ?_
  refine lv_iconst (v := (1 : Int32)) hx hb dX3_lay_81 (by decide) ?_
  refine lv_icmp_ne (tgt := 104) hx hb dX3_lay_82 (by decide) (fun hc_1 => ?_) (fun hc_1 => ?_)
  · have h := zz_f hc_1 h
    exact zw_X3_lay_104 C0 hE hA k20 hk20 h _ _ _ hP hD hS hl
  have h := zz_t hc_1 h
  refine lv_iload hx hb dX3_lay_85 (lv_at hl 4 rfl) ?_
  refine lv_iload_n hx hb dX3_lay_87 rfl (lv_at hl 3 rfl) ?_
  refine lv_icmp_ne (tgt := 104) hx hb dX3_lay_88 (by decide) (fun hc_2 => ?_) (fun hc_2 => ?_)
  · have h := zz_f hc_2 h
    exact zw_X3_lay_104 C0 hE hA k20 hk20 h _ _ _ hP hD hS hl
  have h := zz_t hc_2 h
  refine lv_aload_n hx hb dX3_lay_91 rfl (lv_at hl 0 rfl) ?_
  refine lv_iload hx hb dX3_lay_92 (lv_at hl 4 rfl) ?_
  refine lv_iload hx hb dX3_lay_94 (lv_at hl 6 rfl) ?_
  refine lv_bipush (v := (10 : Int32)) hx hb dX3_lay_96 (by decide) ?_
  obtain ⟨x_3, hcl_4, h⟩ := zz_bd h
  refine zk_cv (wr := []) (va_runV (As := [.int v4, .int v6, .int (10 : Int32)]) (rest := []) C0.1 (zc_X3_tell l dC dI cI cJ cZ _ a_th a_th_tenths a_th_toldFrom a_th_wayCount th_kind th_penny th_seats th_tenths th_toldFrom th_wayCount v4 v6 (10 : Int32) hcl_4) (cwV 3 hts gX3_lay_X3_tell rfl rfl rfl (by decide +kernel) ⟨Nat.le_of_ble_eq_true rfl, Nat.le_of_ble_eq_true rfl⟩) (zz_preV (wc := [(a_th, .inr (3, [.ref a_th_tenths, .ref a_th_toldFrom, .ref a_th_wayCount, .int th_seats, .int th_kind, .int th_penny])), (a_th_tenths, .inl (cI, 64, .inl th_tenths)), (a_th_toldFrom, .inl (cI, 8, .inl th_toldFrom)), (a_th_wayCount, .inl (cI, 8, .inl th_wayCount))]) hE hP hD [0, 1, 2, 3] rfl rfl (by decide) (ci := 3) rfl rfl) rfl rfl hl.1 rfl (lv_room (Nat.le_of_ble_eq_true rfl)) dX3_lay_98 ⟨Nat.zero_le _, Nat.zero_le _⟩) hP hD hS hA [0, 1, 2, 3] [] rfl rfl (by decide) (by decide) (fun u H locs hP hD hS => ?_)
  have hP : va_P (dC, dI) vwCl [(a_th, .inr (3, [.ref a_th_tenths, .ref a_th_toldFrom, .ref a_th_wayCount, .int th_seats, .int th_kind, .int th_penny])), (a_th_tenths, .inl (cI, 64, .inl x_3.1)), (a_th_toldFrom, .inl (cI, 8, .inl x_3.2.1)), (a_th_wayCount, .inl (cI, 8, .inl x_3.2.2))] H := hP
  have hD : va_D A [(a_th, .inr (3, [.ref a_th_tenths, .ref a_th_toldFrom, .ref a_th_wayCount, .int th_seats, .int th_kind, .int th_penny])), (a_th_tenths, .inl (cI, 64, .inl x_3.1)), (a_th_toldFrom, .inl (cI, 8, .inl x_3.2.1)), (a_th_wayCount, .inl (cI, 8, .inl x_3.2.2))] := hD
  refine lv_goto (tgt := 125) hx hb dX3_lay_101 (by decide) ?_
  exact zw_X3_lay_125 C0 hE hA k20 hk20 h _ _ _ hP hD hS (lv_sub hl [0, 1, 2, 3, 4] rfl)
set_option maxHeartbeats 4000000 in
set_option maxRecDepth 100000 in
theorem zw_X3_lay_55 {p : Program} {l : Launch} {e : Env} {s : State} {m : MethodId} {args : Array Value} {below : List Frame} {meth : Method} {c : Code} {dC : Nat → ClassId} {dI : Nat → Nat → Nat} {cI cJ cZ : ClassId} {A : Nat → Prop} {a_th a_th_tenths a_th_toldFrom a_th_wayCount : Nat} {th_seats : Int32} {o : (Nat → Int32) × (Nat → Int32) × (Nat → Int32) × Int32 × Int32} (C0 : zz_C p s m args meth c cX3_lay 7 RX3 wsX3_lay (none)) (hE : zz_EV (dC, dI) (zz_T cI cJ cZ) s) (hA : ∀ q : Nat, s.heap.size ≤ q → A q) (k20 : (Nat → Int32) → (Nat → Int32) → (Nat → Int32) → Int32 → Int32 → Int32 → Int32 → Int32 → Int32 → Option ((Nat → Int32) × (Nat → Int32) × (Nat → Int32) × Int32 × Int32)) (hk20 : ∀ (th_tenths : (Nat → Int32)) (th_toldFrom : (Nat → Int32)) (th_wayCount : (Nat → Int32)) (th_kind : Int32) (th_penny : Int32) (v1 : Int32) (v2 : Int32) (v3 : Int32) (v4 : Int32), k20 th_tenths th_toldFrom th_wayCount th_kind th_penny v1 v2 v3 v4 = some o → ∀ (H : Heap) (locs : List Loc) (ls : Array Slot), va_P (dC, dI) vwCl [(a_th, .inr (3, [.ref a_th_tenths, .ref a_th_toldFrom, .ref a_th_wayCount, .int th_seats, .int th_kind, .int th_penny])), (a_th_tenths, .inl (cI, 64, .inl th_tenths)), (a_th_toldFrom, .inl (cI, 8, .inl th_toldFrom)), (a_th_wayCount, .inl (cI, 8, .inl th_wayCount))] H → va_D A [(a_th, .inr (3, [.ref a_th_tenths, .ref a_th_toldFrom, .ref a_th_wayCount, .int th_seats, .int th_kind, .int th_penny])), (a_th_tenths, .inl (cI, 64, .inl th_tenths)), (a_th_toldFrom, .inl (cI, 8, .inl th_toldFrom)), (a_th_wayCount, .inl (cI, 8, .inl th_wayCount))] → va_S A s.heap H locs → lv_has ls 7 [(0, .ref a_th), (1, .int v1), (2, .int v2), (3, .int v3), (4, .int v4)] → W p l e { frames := 2, cells := 0, slots := 0, locals := 44 } s m args below meth c H locs 0 0 (MQ below (zz_QV (dC, dI) (zz_T cI cJ cZ) A (fun _ : Unit => [(a_th, .inr (3, [.ref a_th_tenths, .ref a_th_toldFrom, .ref a_th_wayCount, .int th_seats, .int o.2.2.2.1, .int o.2.2.2.2])), (a_th_tenths, .inl (cI, 64, .inl o.1)), (a_th_toldFrom, .inl (cI, 8, .inl o.2.1)), (a_th_wayCount, .inl (cI, 8, .inl o.2.2.1))])) args s 0 0 A) (F0 m 20 ls [])) {th_tenths : (Nat → Int32)} {th_toldFrom : (Nat → Int32)} {th_wayCount : (Nat → Int32)} {th_kind : Int32} {th_penny : Int32} {v1 : Int32} {v2 : Int32} {v3 : Int32} {v4 : Int32} {v5 : Int32} {s0 : Int32} (h : zf_X3_lay_55 th_seats k20 th_tenths th_toldFrom th_wayCount th_kind th_penny v1 v2 v3 v4 v5 s0 = some o) : ∀ (H : Heap) (locs : List Loc) (ls : Array Slot), va_P (dC, dI) vwCl [(a_th, .inr (3, [.ref a_th_tenths, .ref a_th_toldFrom, .ref a_th_wayCount, .int th_seats, .int th_kind, .int th_penny])), (a_th_tenths, .inl (cI, 64, .inl th_tenths)), (a_th_toldFrom, .inl (cI, 8, .inl th_toldFrom)), (a_th_wayCount, .inl (cI, 8, .inl th_wayCount))] H → va_D A [(a_th, .inr (3, [.ref a_th_tenths, .ref a_th_toldFrom, .ref a_th_wayCount, .int th_seats, .int th_kind, .int th_penny])), (a_th_tenths, .inl (cI, 64, .inl th_tenths)), (a_th_toldFrom, .inl (cI, 8, .inl th_toldFrom)), (a_th_wayCount, .inl (cI, 8, .inl th_wayCount))] → va_S A s.heap H locs → lv_has ls 7 [(0, .ref a_th), (1, .int v1), (2, .int v2), (3, .int v3), (4, .int v4), (5, .int v5)] → W p l e { frames := 2, cells := 0, slots := 0, locals := 44 } s m args below meth c H locs 0 0 (MQ below (zz_QV (dC, dI) (zz_T cI cJ cZ) A (fun _ : Unit => [(a_th, .inr (3, [.ref a_th_tenths, .ref a_th_toldFrom, .ref a_th_wayCount, .int th_seats, .int o.2.2.2.1, .int o.2.2.2.2])), (a_th_tenths, .inl (cI, 64, .inl o.1)), (a_th_toldFrom, .inl (cI, 8, .inl o.2.1)), (a_th_wayCount, .inl (cI, 8, .inl o.2.2.1))])) args s 0 0 A) (F0 m 55 ls [.int s0]) := by
  obtain ⟨⟨hx, hb, hml, hown, hts⟩, hr, hlocks⟩ := id C0
  unfold zf_X3_lay_55 at h
  intro H locs ls hP hD hS hl
  refine lv_istore (lv' := [(6, .int s0), (0, .ref a_th), (1, .int v1), (2, .int v2), (3, .int v3), (4, .int v4), (5, .int v5)]) hx hb dX3_lay_55 hl (by decide) rfl (fun ls hl => ?_)
  refine lv_iload_n hx hb dX3_lay_57 rfl (lv_at hl 2 rfl) ?_
  refine lv_iconst (v := (1 : Int32)) hx hb dX3_lay_58 (by decide) ?_
  refine lv_icmp_ne (tgt := 80) hx hb dX3_lay_59 (by decide) (fun hc_1 => ?_) (fun hc_1 => ?_)
  · have h := zz_f hc_1 h
    exact zw_X3_lay_80 C0 hE hA k20 hk20 h _ _ _ hP hD hS (lv_sub hl [1, 2, 3, 4, 5, 6, 0] rfl)
  have h := zz_t hc_1 h
  refine lv_iload hx hb dX3_lay_62 (lv_at hl 5 rfl) ?_
  refine lv_if_ne (tgt := 80) hx hb dX3_lay_64 (by decide) (fun hc_2 => ?_) (fun hc_2 => ?_)
  · have h := zz_f hc_2 h
    exact zw_X3_lay_80 C0 hE hA k20 hk20 h _ _ _ hP hD hS (lv_sub hl [1, 2, 3, 4, 5, 6, 0] rfl)
  have h := zz_t hc_2 h
  refine lv_aload_n hx hb dX3_lay_67 rfl (lv_at hl 1 rfl) ?_
  refine lv_iload hx hb dX3_lay_68 (lv_at hl 5 rfl) ?_
  refine lv_iload hx hb dX3_lay_70 (lv_at hl 6 rfl) ?_
  refine lv_bipush (v := (10 : Int32)) hx hb dX3_lay_72 (by decide) ?_
  obtain ⟨x_3, hcl_4, h⟩ := zz_bd h
  refine zk_cv (wr := []) (va_runV (As := [.int v4, .int v5, .int (10 : Int32)]) (rest := []) C0.1 (zc_X3_tell l dC dI cI cJ cZ _ a_th a_th_tenths a_th_toldFrom a_th_wayCount th_kind th_penny th_seats th_tenths th_toldFrom th_wayCount v4 v5 (10 : Int32) hcl_4) (cwV 3 hts gX3_lay_X3_tell rfl rfl rfl (by decide +kernel) ⟨Nat.le_of_ble_eq_true rfl, Nat.le_of_ble_eq_true rfl⟩) (zz_preV (wc := [(a_th, .inr (3, [.ref a_th_tenths, .ref a_th_toldFrom, .ref a_th_wayCount, .int th_seats, .int th_kind, .int th_penny])), (a_th_tenths, .inl (cI, 64, .inl th_tenths)), (a_th_toldFrom, .inl (cI, 8, .inl th_toldFrom)), (a_th_wayCount, .inl (cI, 8, .inl th_wayCount))]) hE hP hD [0, 1, 2, 3] rfl rfl (by decide) (ci := 3) rfl rfl) rfl rfl hl.1 rfl (lv_room (Nat.le_of_ble_eq_true rfl)) dX3_lay_74 ⟨Nat.zero_le _, Nat.zero_le _⟩) hP hD hS hA [0, 1, 2, 3] [] rfl rfl (by decide) (by decide) (fun u H locs hP hD hS => ?_)
  have hP : va_P (dC, dI) vwCl [(a_th, .inr (3, [.ref a_th_tenths, .ref a_th_toldFrom, .ref a_th_wayCount, .int th_seats, .int th_kind, .int th_penny])), (a_th_tenths, .inl (cI, 64, .inl x_3.1)), (a_th_toldFrom, .inl (cI, 8, .inl x_3.2.1)), (a_th_wayCount, .inl (cI, 8, .inl x_3.2.2))] H := hP
  have hD : va_D A [(a_th, .inr (3, [.ref a_th_tenths, .ref a_th_toldFrom, .ref a_th_wayCount, .int th_seats, .int th_kind, .int th_penny])), (a_th_tenths, .inl (cI, 64, .inl x_3.1)), (a_th_toldFrom, .inl (cI, 8, .inl x_3.2.1)), (a_th_wayCount, .inl (cI, 8, .inl x_3.2.2))] := hD
  refine lv_goto (tgt := 125) hx hb dX3_lay_77 (by decide) ?_
  exact zw_X3_lay_125 C0 hE hA k20 hk20 h _ _ _ hP hD hS (lv_sub hl [1, 2, 3, 4, 5] rfl)
set_option maxHeartbeats 4000000 in
set_option maxRecDepth 100000 in
theorem zw_X3_lay_40 {p : Program} {l : Launch} {e : Env} {s : State} {m : MethodId} {args : Array Value} {below : List Frame} {meth : Method} {c : Code} {dC : Nat → ClassId} {dI : Nat → Nat → Nat} {cI cJ cZ : ClassId} {A : Nat → Prop} {a_th a_th_tenths a_th_toldFrom a_th_wayCount : Nat} {th_seats : Int32} {o : (Nat → Int32) × (Nat → Int32) × (Nat → Int32) × Int32 × Int32} (C0 : zz_C p s m args meth c cX3_lay 7 RX3 wsX3_lay (none)) (hE : zz_EV (dC, dI) (zz_T cI cJ cZ) s) (hA : ∀ q : Nat, s.heap.size ≤ q → A q) (k20 : (Nat → Int32) → (Nat → Int32) → (Nat → Int32) → Int32 → Int32 → Int32 → Int32 → Int32 → Int32 → Option ((Nat → Int32) × (Nat → Int32) × (Nat → Int32) × Int32 × Int32)) (hk20 : ∀ (th_tenths : (Nat → Int32)) (th_toldFrom : (Nat → Int32)) (th_wayCount : (Nat → Int32)) (th_kind : Int32) (th_penny : Int32) (v1 : Int32) (v2 : Int32) (v3 : Int32) (v4 : Int32), k20 th_tenths th_toldFrom th_wayCount th_kind th_penny v1 v2 v3 v4 = some o → ∀ (H : Heap) (locs : List Loc) (ls : Array Slot), va_P (dC, dI) vwCl [(a_th, .inr (3, [.ref a_th_tenths, .ref a_th_toldFrom, .ref a_th_wayCount, .int th_seats, .int th_kind, .int th_penny])), (a_th_tenths, .inl (cI, 64, .inl th_tenths)), (a_th_toldFrom, .inl (cI, 8, .inl th_toldFrom)), (a_th_wayCount, .inl (cI, 8, .inl th_wayCount))] H → va_D A [(a_th, .inr (3, [.ref a_th_tenths, .ref a_th_toldFrom, .ref a_th_wayCount, .int th_seats, .int th_kind, .int th_penny])), (a_th_tenths, .inl (cI, 64, .inl th_tenths)), (a_th_toldFrom, .inl (cI, 8, .inl th_toldFrom)), (a_th_wayCount, .inl (cI, 8, .inl th_wayCount))] → va_S A s.heap H locs → lv_has ls 7 [(0, .ref a_th), (1, .int v1), (2, .int v2), (3, .int v3), (4, .int v4)] → W p l e { frames := 2, cells := 0, slots := 0, locals := 44 } s m args below meth c H locs 0 0 (MQ below (zz_QV (dC, dI) (zz_T cI cJ cZ) A (fun _ : Unit => [(a_th, .inr (3, [.ref a_th_tenths, .ref a_th_toldFrom, .ref a_th_wayCount, .int th_seats, .int o.2.2.2.1, .int o.2.2.2.2])), (a_th_tenths, .inl (cI, 64, .inl o.1)), (a_th_toldFrom, .inl (cI, 8, .inl o.2.1)), (a_th_wayCount, .inl (cI, 8, .inl o.2.2.1))])) args s 0 0 A) (F0 m 20 ls [])) {th_tenths : (Nat → Int32)} {th_toldFrom : (Nat → Int32)} {th_wayCount : (Nat → Int32)} {th_kind : Int32} {th_penny : Int32} {v1 : Int32} {v2 : Int32} {v3 : Int32} {v4 : Int32} {s0 : Int32} (h : zf_X3_lay_40 th_seats k20 th_tenths th_toldFrom th_wayCount th_kind th_penny v1 v2 v3 v4 s0 = some o) : ∀ (H : Heap) (locs : List Loc) (ls : Array Slot), va_P (dC, dI) vwCl [(a_th, .inr (3, [.ref a_th_tenths, .ref a_th_toldFrom, .ref a_th_wayCount, .int th_seats, .int th_kind, .int th_penny])), (a_th_tenths, .inl (cI, 64, .inl th_tenths)), (a_th_toldFrom, .inl (cI, 8, .inl th_toldFrom)), (a_th_wayCount, .inl (cI, 8, .inl th_wayCount))] H → va_D A [(a_th, .inr (3, [.ref a_th_tenths, .ref a_th_toldFrom, .ref a_th_wayCount, .int th_seats, .int th_kind, .int th_penny])), (a_th_tenths, .inl (cI, 64, .inl th_tenths)), (a_th_toldFrom, .inl (cI, 8, .inl th_toldFrom)), (a_th_wayCount, .inl (cI, 8, .inl th_wayCount))] → va_S A s.heap H locs → lv_has ls 7 [(0, .ref a_th), (1, .int v1), (2, .int v2), (3, .int v3), (4, .int v4)] → W p l e { frames := 2, cells := 0, slots := 0, locals := 44 } s m args below meth c H locs 0 0 (MQ below (zz_QV (dC, dI) (zz_T cI cJ cZ) A (fun _ : Unit => [(a_th, .inr (3, [.ref a_th_tenths, .ref a_th_toldFrom, .ref a_th_wayCount, .int th_seats, .int o.2.2.2.1, .int o.2.2.2.2])), (a_th_tenths, .inl (cI, 64, .inl o.1)), (a_th_toldFrom, .inl (cI, 8, .inl o.2.1)), (a_th_wayCount, .inl (cI, 8, .inl o.2.2.1))])) args s 0 0 A) (F0 m 40 ls [.int s0]) := by
  obtain ⟨⟨hx, hb, hml, hown, hts⟩, hr, hlocks⟩ := id C0
  unfold zf_X3_lay_40 at h
  intro H locs ls hP hD hS hl
  refine lv_istore (lv' := [(5, .int s0), (0, .ref a_th), (1, .int v1), (2, .int v2), (3, .int v3), (4, .int v4)]) hx hb dX3_lay_40 hl (by decide) rfl (fun ls hl => ?_)
  refine lv_iload hx hb dX3_lay_42 (lv_at hl 5 rfl) ?_
  refine lv_if_le (tgt := 54) hx hb dX3_lay_44 (by decide) (fun hc_1 => ?_) (fun hc_1 => ?_)
  · have h := zz_t hc_1 h
    refine lv_iload_n hx hb dX3_lay_54 rfl (lv_at hl 4 rfl) ?_
    exact zw_X3_lay_55 C0 hE hA k20 hk20 h _ _ _ hP hD hS (lv_sub hl [1, 2, 3, 4, 5, 0] rfl)
  have h := zz_f hc_1 h
  refine lv_iload hx hb dX3_lay_47 (lv_at hl 5 rfl) ?_
  refine lv_iconst (v := (1 : Int32)) hx hb dX3_lay_49 (by decide) ?_
  refine lv_isub hx hb dX3_lay_50 ?_
  refine lv_goto (tgt := 55) hx hb dX3_lay_51 (by decide) ?_
  exact zw_X3_lay_55 C0 hE hA k20 hk20 h _ _ _ hP hD hS (lv_sub hl [1, 2, 3, 4, 5, 0] rfl)
set_option maxHeartbeats 4000000 in
set_option maxRecDepth 100000 in
theorem zw_X3_lay_20_b {p : Program} {l : Launch} {e : Env} {s : State} {m : MethodId} {args : Array Value} {below : List Frame} {meth : Method} {c : Code} {dC : Nat → ClassId} {dI : Nat → Nat → Nat} {cI cJ cZ : ClassId} {A : Nat → Prop} {a_th a_th_tenths a_th_toldFrom a_th_wayCount : Nat} {th_seats : Int32} {o : (Nat → Int32) × (Nat → Int32) × (Nat → Int32) × Int32 × Int32} (C0 : zz_C p s m args meth c cX3_lay 7 RX3 wsX3_lay (none)) (hE : zz_EV (dC, dI) (zz_T cI cJ cZ) s) (hA : ∀ q : Nat, s.heap.size ≤ q → A q) (k20 : (Nat → Int32) → (Nat → Int32) → (Nat → Int32) → Int32 → Int32 → Int32 → Int32 → Int32 → Int32 → Option ((Nat → Int32) × (Nat → Int32) × (Nat → Int32) × Int32 × Int32)) (hk20 : ∀ (th_tenths : (Nat → Int32)) (th_toldFrom : (Nat → Int32)) (th_wayCount : (Nat → Int32)) (th_kind : Int32) (th_penny : Int32) (v1 : Int32) (v2 : Int32) (v3 : Int32) (v4 : Int32), k20 th_tenths th_toldFrom th_wayCount th_kind th_penny v1 v2 v3 v4 = some o → ∀ (H : Heap) (locs : List Loc) (ls : Array Slot), va_P (dC, dI) vwCl [(a_th, .inr (3, [.ref a_th_tenths, .ref a_th_toldFrom, .ref a_th_wayCount, .int th_seats, .int th_kind, .int th_penny])), (a_th_tenths, .inl (cI, 64, .inl th_tenths)), (a_th_toldFrom, .inl (cI, 8, .inl th_toldFrom)), (a_th_wayCount, .inl (cI, 8, .inl th_wayCount))] H → va_D A [(a_th, .inr (3, [.ref a_th_tenths, .ref a_th_toldFrom, .ref a_th_wayCount, .int th_seats, .int th_kind, .int th_penny])), (a_th_tenths, .inl (cI, 64, .inl th_tenths)), (a_th_toldFrom, .inl (cI, 8, .inl th_toldFrom)), (a_th_wayCount, .inl (cI, 8, .inl th_wayCount))] → va_S A s.heap H locs → lv_has ls 7 [(0, .ref a_th), (1, .int v1), (2, .int v2), (3, .int v3), (4, .int v4)] → W p l e { frames := 2, cells := 0, slots := 0, locals := 44 } s m args below meth c H locs 0 0 (MQ below (zz_QV (dC, dI) (zz_T cI cJ cZ) A (fun _ : Unit => [(a_th, .inr (3, [.ref a_th_tenths, .ref a_th_toldFrom, .ref a_th_wayCount, .int th_seats, .int o.2.2.2.1, .int o.2.2.2.2])), (a_th_tenths, .inl (cI, 64, .inl o.1)), (a_th_toldFrom, .inl (cI, 8, .inl o.2.1)), (a_th_wayCount, .inl (cI, 8, .inl o.2.2.1))])) args s 0 0 A) (F0 m 20 ls [])) {th_tenths : (Nat → Int32)} {th_toldFrom : (Nat → Int32)} {th_wayCount : (Nat → Int32)} {th_kind : Int32} {th_penny : Int32} {v1 : Int32} {v2 : Int32} {v3 : Int32} {v4 : Int32} (h : zf_X3_lay_20_b th_seats k20 th_tenths th_toldFrom th_wayCount th_kind th_penny v1 v2 v3 v4 = some o) : ∀ (H : Heap) (locs : List Loc) (ls : Array Slot), va_P (dC, dI) vwCl [(a_th, .inr (3, [.ref a_th_tenths, .ref a_th_toldFrom, .ref a_th_wayCount, .int th_seats, .int th_kind, .int th_penny])), (a_th_tenths, .inl (cI, 64, .inl th_tenths)), (a_th_toldFrom, .inl (cI, 8, .inl th_toldFrom)), (a_th_wayCount, .inl (cI, 8, .inl th_wayCount))] H → va_D A [(a_th, .inr (3, [.ref a_th_tenths, .ref a_th_toldFrom, .ref a_th_wayCount, .int th_seats, .int th_kind, .int th_penny])), (a_th_tenths, .inl (cI, 64, .inl th_tenths)), (a_th_toldFrom, .inl (cI, 8, .inl th_toldFrom)), (a_th_wayCount, .inl (cI, 8, .inl th_wayCount))] → va_S A s.heap H locs → lv_has ls 7 [(0, .ref a_th), (1, .int v1), (2, .int v2), (3, .int v3), (4, .int v4)] → W p l e { frames := 2, cells := 0, slots := 0, locals := 44 } s m args below meth c H locs 0 0 (MQ below (zz_QV (dC, dI) (zz_T cI cJ cZ) A (fun _ : Unit => [(a_th, .inr (3, [.ref a_th_tenths, .ref a_th_toldFrom, .ref a_th_wayCount, .int th_seats, .int o.2.2.2.1, .int o.2.2.2.2])), (a_th_tenths, .inl (cI, 64, .inl o.1)), (a_th_toldFrom, .inl (cI, 8, .inl o.2.1)), (a_th_wayCount, .inl (cI, 8, .inl o.2.2.1))])) args s 0 0 A) (F0 m 20 ls []) := by
  obtain ⟨⟨hx, hb, hml, hown, hts⟩, hr, hlocks⟩ := id C0
  unfold zf_X3_lay_20_b at h
  intro H locs ls hP hD hS hl
  refine lv_iload hx hb dX3_lay_20 (lv_at hl 4 rfl) ?_
  refine lv_iload_n hx hb dX3_lay_22 rfl (lv_at hl 3 rfl) ?_
  refine lv_icmp_gt (tgt := 131) hx hb dX3_lay_23 (by decide) (fun hc_1 => ?_) (fun hc_1 => ?_)
  · have h := zz_t hc_1 h
    obtain rfl := Option.some.inj h
    exact zk_vret hx hb hr hlocks hE () hP hD hS dX3_lay_131
  have h := zz_f hc_1 h
  refine lv_iload hx hb dX3_lay_26 (lv_at hl 4 rfl) ?_
  refine lv_iload_n hx hb dX3_lay_28 rfl (lv_at hl 3 rfl) ?_
  refine lv_icmp_ge (tgt := 39) hx hb dX3_lay_29 (by decide) (fun hc_2 => ?_) (fun hc_2 => ?_)
  · have h := zz_t hc_2 h
    refine lv_iconst (v := (0 : Int32)) hx hb dX3_lay_39 (by decide) ?_
    exact zw_X3_lay_40 C0 hE hA k20 hk20 h _ _ _ hP hD hS hl
  have h := zz_f hc_2 h
  refine lv_iload hx hb dX3_lay_32 (lv_at hl 4 rfl) ?_
  refine lv_iconst (v := (1 : Int32)) hx hb dX3_lay_34 (by decide) ?_
  refine lv_iadd hx hb dX3_lay_35 ?_
  refine lv_goto (tgt := 40) hx hb dX3_lay_36 (by decide) ?_
  exact zw_X3_lay_40 C0 hE hA k20 hk20 h _ _ _ hP hD hS hl
set_option maxHeartbeats 4000000 in
set_option maxRecDepth 100000 in
theorem zw_X3_lay_20 {p : Program} {l : Launch} {e : Env} {s : State} {m : MethodId} {args : Array Value} {below : List Frame} {meth : Method} {c : Code} {dC : Nat → ClassId} {dI : Nat → Nat → Nat} {cI cJ cZ : ClassId} {A : Nat → Prop} {a_th a_th_tenths a_th_toldFrom a_th_wayCount : Nat} {th_seats : Int32} {o : (Nat → Int32) × (Nat → Int32) × (Nat → Int32) × Int32 × Int32} (C0 : zz_C p s m args meth c cX3_lay 7 RX3 wsX3_lay (none)) (hE : zz_EV (dC, dI) (zz_T cI cJ cZ) s) (hA : ∀ q : Nat, s.heap.size ≤ q → A q) : ∀ (n : Nat) (th_tenths : (Nat → Int32)) (th_toldFrom : (Nat → Int32)) (th_wayCount : (Nat → Int32)) (th_kind : Int32) (th_penny : Int32) (v1 : Int32) (v2 : Int32) (v3 : Int32) (v4 : Int32), zf_X3_lay_20 th_seats n th_tenths th_toldFrom th_wayCount th_kind th_penny v1 v2 v3 v4 = some o → ∀ (H : Heap) (locs : List Loc) (ls : Array Slot), va_P (dC, dI) vwCl [(a_th, .inr (3, [.ref a_th_tenths, .ref a_th_toldFrom, .ref a_th_wayCount, .int th_seats, .int th_kind, .int th_penny])), (a_th_tenths, .inl (cI, 64, .inl th_tenths)), (a_th_toldFrom, .inl (cI, 8, .inl th_toldFrom)), (a_th_wayCount, .inl (cI, 8, .inl th_wayCount))] H → va_D A [(a_th, .inr (3, [.ref a_th_tenths, .ref a_th_toldFrom, .ref a_th_wayCount, .int th_seats, .int th_kind, .int th_penny])), (a_th_tenths, .inl (cI, 64, .inl th_tenths)), (a_th_toldFrom, .inl (cI, 8, .inl th_toldFrom)), (a_th_wayCount, .inl (cI, 8, .inl th_wayCount))] → va_S A s.heap H locs → lv_has ls 7 [(0, .ref a_th), (1, .int v1), (2, .int v2), (3, .int v3), (4, .int v4)] → W p l e { frames := 2, cells := 0, slots := 0, locals := 44 } s m args below meth c H locs 0 0 (MQ below (zz_QV (dC, dI) (zz_T cI cJ cZ) A (fun _ : Unit => [(a_th, .inr (3, [.ref a_th_tenths, .ref a_th_toldFrom, .ref a_th_wayCount, .int th_seats, .int o.2.2.2.1, .int o.2.2.2.2])), (a_th_tenths, .inl (cI, 64, .inl o.1)), (a_th_toldFrom, .inl (cI, 8, .inl o.2.1)), (a_th_wayCount, .inl (cI, 8, .inl o.2.2.1))])) args s 0 0 A) (F0 m 20 ls []) := by
  intro n
  induction n with
  | zero =>
    intro th_tenths th_toldFrom th_wayCount th_kind th_penny v1 v2 v3 v4 h
    cases h
  | succ n ih =>
    intro th_tenths th_toldFrom th_wayCount th_kind th_penny v1 v2 v3 v4 h
    exact zw_X3_lay_20_b C0 hE hA  (zf_X3_lay_20 th_seats n) ih h
set_option maxHeartbeats 4000000 in
set_option maxRecDepth 100000 in
theorem zw_X3_lay {p : Program} {l : Launch} {e : Env} {s : State} {m : MethodId} {args : Array Value} {below : List Frame} {meth : Method} {c : Code} {dC : Nat → ClassId} {dI : Nat → Nat → Nat} {cI cJ cZ : ClassId} {A : Nat → Prop} {a_th a_th_tenths a_th_toldFrom a_th_wayCount : Nat} {th_seats : Int32} {o : (Nat → Int32) × (Nat → Int32) × (Nat → Int32) × Int32 × Int32} (C0 : zz_C p s m args meth c cX3_lay 7 RX3 wsX3_lay (none)) (hE : zz_EV (dC, dI) (zz_T cI cJ cZ) s) (hA : ∀ q : Nat, s.heap.size ≤ q → A q) {th_tenths : (Nat → Int32)} {th_toldFrom : (Nat → Int32)} {th_wayCount : (Nat → Int32)} {th_kind : Int32} {th_penny : Int32} {p0 : Int32} {p1 : Int32} (h : zf_X3_lay p0 p1 th_seats th_tenths th_toldFrom th_wayCount th_kind th_penny = some o) : ∀ (H : Heap) (locs : List Loc) (ls : Array Slot), va_P (dC, dI) vwCl [(a_th, .inr (3, [.ref a_th_tenths, .ref a_th_toldFrom, .ref a_th_wayCount, .int th_seats, .int th_kind, .int th_penny])), (a_th_tenths, .inl (cI, 64, .inl th_tenths)), (a_th_toldFrom, .inl (cI, 8, .inl th_toldFrom)), (a_th_wayCount, .inl (cI, 8, .inl th_wayCount))] H → va_D A [(a_th, .inr (3, [.ref a_th_tenths, .ref a_th_toldFrom, .ref a_th_wayCount, .int th_seats, .int th_kind, .int th_penny])), (a_th_tenths, .inl (cI, 64, .inl th_tenths)), (a_th_toldFrom, .inl (cI, 8, .inl th_toldFrom)), (a_th_wayCount, .inl (cI, 8, .inl th_wayCount))] → va_S A s.heap H locs → lv_has ls 7 [(0, .ref a_th), (1, .int p0), (2, .int p1)] → W p l e { frames := 2, cells := 0, slots := 0, locals := 44 } s m args below meth c H locs 0 0 (MQ below (zz_QV (dC, dI) (zz_T cI cJ cZ) A (fun _ : Unit => [(a_th, .inr (3, [.ref a_th_tenths, .ref a_th_toldFrom, .ref a_th_wayCount, .int th_seats, .int o.2.2.2.1, .int o.2.2.2.2])), (a_th_tenths, .inl (cI, 64, .inl o.1)), (a_th_toldFrom, .inl (cI, 8, .inl o.2.1)), (a_th_wayCount, .inl (cI, 8, .inl o.2.2.1))])) args s 0 0 A) (F0 m 0 ls []) := by
  obtain ⟨⟨hx, hb, hml, hown, hts⟩, hr, hlocks⟩ := id C0
  unfold zf_X3_lay at h
  intro H locs ls hP hD hS hl
  refine lv_aload_n hx hb dX3_lay_0 rfl (lv_at hl 0 rfl) ?_
  refine lv_iload_n hx hb dX3_lay_1 rfl (lv_at hl 1 rfl) ?_
  refine va_put (D := (dC, dI)) (ci := 3) (v := .int p0) (ty := .int) (C := RX3) (T := TX3) (N := 6) hx hb hts zi_X3_lay_3 tyX3 tyX3_ok nmX3 hown hE.1 hP hD hS 0 rfl rfl 4 (by decide) (hts _ zl_X3_lay_1) (fun _ h9 => h9) rfl (by decide +kernel) rfl rfl (Nat.le_of_ble_eq_true rfl) dX3_lay_2 (fun H locs hP hD hS => ?_)
  have hP : va_P (dC, dI) vwCl [(a_th, .inr (3, [.ref a_th_tenths, .ref a_th_toldFrom, .ref a_th_wayCount, .int th_seats, .int p0, .int th_penny])), (a_th_tenths, .inl (cI, 64, .inl th_tenths)), (a_th_toldFrom, .inl (cI, 8, .inl th_toldFrom)), (a_th_wayCount, .inl (cI, 8, .inl th_wayCount))] H := hP
  have hD : va_D A [(a_th, .inr (3, [.ref a_th_tenths, .ref a_th_toldFrom, .ref a_th_wayCount, .int th_seats, .int p0, .int th_penny])), (a_th_tenths, .inl (cI, 64, .inl th_tenths)), (a_th_toldFrom, .inl (cI, 8, .inl th_toldFrom)), (a_th_wayCount, .inl (cI, 8, .inl th_wayCount))] := hD
  refine lv_aload_n hx hb dX3_lay_5 rfl (lv_at hl 0 rfl) ?_
  refine lv_iload_n hx hb dX3_lay_6 rfl (lv_at hl 2 rfl) ?_
  refine va_put (D := (dC, dI)) (ci := 3) (v := .int p1) (ty := .int) (C := RX3) (T := TX3) (N := 6) hx hb hts zi_X3_lay_3 tyX3 tyX3_ok nmX3 hown hE.1 hP hD hS 0 rfl rfl 5 (by decide) (hts _ zl_X3_lay_2) (fun _ h9 => h9) rfl (by decide +kernel) rfl rfl (Nat.le_of_ble_eq_true rfl) dX3_lay_7 (fun H locs hP hD hS => ?_)
  have hP : va_P (dC, dI) vwCl [(a_th, .inr (3, [.ref a_th_tenths, .ref a_th_toldFrom, .ref a_th_wayCount, .int th_seats, .int p0, .int p1])), (a_th_tenths, .inl (cI, 64, .inl th_tenths)), (a_th_toldFrom, .inl (cI, 8, .inl th_toldFrom)), (a_th_wayCount, .inl (cI, 8, .inl th_wayCount))] H := hP
  have hD : va_D A [(a_th, .inr (3, [.ref a_th_tenths, .ref a_th_toldFrom, .ref a_th_wayCount, .int th_seats, .int p0, .int p1])), (a_th_tenths, .inl (cI, 64, .inl th_tenths)), (a_th_toldFrom, .inl (cI, 8, .inl th_toldFrom)), (a_th_wayCount, .inl (cI, 8, .inl th_wayCount))] := hD
  refine lv_aload_n hx hb dX3_lay_10 rfl (lv_at hl 0 rfl) ?_
  refine va_get (D := (dC, dI)) (ci := 3) (v := .int th_seats) (C := RX3) (T := TX3) (N := 6) hx hb hts zi_X3_lay_3 hown hE.1 hP 0 rfl rfl 3 (by decide) (hts _ zl_X3_lay_3) (fun _ h9 => h9) rfl dX3_lay_11 ?_
  refine lv_iconst (v := (1 : Int32)) hx hb dX3_lay_14 (by decide) ?_
  refine lv_isub hx hb dX3_lay_15 ?_
  refine lv_istore_n (lv' := [(3, .int (th_seats - (1 : Int32))), (0, .ref a_th), (1, .int p0), (2, .int p1)]) hx hb dX3_lay_16 rfl hl (by decide) rfl (fun ls hl => ?_)
  refine lv_iconst (v := (0 : Int32)) hx hb dX3_lay_17 (by decide) ?_
  refine lv_istore (lv' := [(4, .int (0 : Int32)), (3, .int (th_seats - (1 : Int32))), (0, .ref a_th), (1, .int p0), (2, .int p1)]) hx hb dX3_lay_18 hl (by decide) rfl (fun ls hl => ?_)
  exact zw_X3_lay_20 C0 hE hA  zfuel th_tenths th_toldFrom th_wayCount p0 p1 p0 p1 (th_seats - (1 : Int32)) (0 : Int32) h _ _ _ hP hD hS (lv_sub hl [2, 3, 4, 1, 0] rfl)
set_option maxHeartbeats 4000000 in
set_option maxRecDepth 100000 in
theorem zc_X3_lay (l : Launch) (dC : Nat → ClassId) (dI : Nat → Nat → Nat) (cI cJ cZ : ClassId) (sz : Nat) (a_th a_th_tenths a_th_toldFrom a_th_wayCount : Nat) (th_seats : Int32) (th_tenths : (Nat → Int32)) (th_toldFrom : (Nat → Int32)) (th_wayCount : (Nat → Int32)) (th_kind : Int32) (th_penny : Int32) (p0 : Int32) (p1 : Int32) {o : (Nat → Int32) × (Nat → Int32) × (Nat → Int32) × Int32 × Int32} (h : zf_X3_lay p0 p1 th_seats th_tenths th_toldFrom th_wayCount th_kind th_penny = some o) : Met l yX3_lay wsX3_lay { frames := 2, cells := 0, slots := 0, locals := 44 } (zz_PC (dC, dI) (zz_T cI cJ cZ) [.ref a_th, .int p0, .int p1] sz [(a_th, .inr (3, [.ref a_th_tenths, .ref a_th_toldFrom, .ref a_th_wayCount, .int th_seats, .int th_kind, .int th_penny])), (a_th_tenths, .inl (cI, 64, .inl th_tenths)), (a_th_toldFrom, .inl (cI, 8, .inl th_toldFrom)), (a_th_wayCount, .inl (cI, 8, .inl th_wayCount))]) (zz_QV (dC, dI) (zz_T cI cJ cZ) (va_A [(a_th, .inr (3, [.ref a_th_tenths, .ref a_th_toldFrom, .ref a_th_wayCount, .int th_seats, .int th_kind, .int th_penny])), (a_th_tenths, .inl (cI, 64, .inl th_tenths)), (a_th_toldFrom, .inl (cI, 8, .inl th_toldFrom)), (a_th_wayCount, .inl (cI, 8, .inl th_wayCount))] sz) (fun _ : Unit => [(a_th, .inr (3, [.ref a_th_tenths, .ref a_th_toldFrom, .ref a_th_wayCount, .int th_seats, .int o.2.2.2.1, .int o.2.2.2.2])), (a_th_tenths, .inl (cI, 64, .inl o.1)), (a_th_toldFrom, .inl (cI, 8, .inl o.2.1)), (a_th_wayCount, .inl (cI, 8, .inl o.2.2.1))])) 0 0 (va_A [(a_th, .inr (3, [.ref a_th_tenths, .ref a_th_toldFrom, .ref a_th_wayCount, .int th_seats, .int th_kind, .int th_penny])), (a_th_tenths, .inl (cI, 64, .inl th_tenths)), (a_th_toldFrom, .inl (cI, 8, .inl th_toldFrom)), (a_th_wayCount, .inl (cI, 8, .inl th_wayCount))] sz) := by
  refine zz_met (own := RX3) (cc := cX3_lay) (maxL := 7) (ret := none) (by decide) rfl rfl (Nat.le_of_ble_eq_true rfl) ?_
  intro p e s m below meth c ls hsz C0 hE hin hl hP hD
  subst hsz
  exact zw_X3_lay C0 hE (fun q hq => Or.inr hq) h _ _ _ hP hD va_S.rf hl
/-! X3_layStays : PlateLast$Net.layStays()V -/
theorem zi_X3_layStays_3 : ∀ w ∈ u_ws RX3 TX3 6, w ∈ wsX3_layStays := by decide +kernel
theorem zl_X3_layStays_1 : Cond.fieldLink RX3 21 "PlateLast$Net" "seats" "I" ∈ wsX3_layStays := by decide +kernel
theorem zl_X3_layStays_2 : Cond.fieldLink RX3 15 "PlateLast$Net" "toldFrom" "[I" ∈ wsX3_layStays := by decide +kernel
set_option maxHeartbeats 4000000 in
set_option maxRecDepth 100000 in
theorem zw_X3_layStays_35 {p : Program} {l : Launch} {e : Env} {s : State} {m : MethodId} {args : Array Value} {below : List Frame} {meth : Method} {c : Code} {dC : Nat → ClassId} {dI : Nat → Nat → Nat} {cI cJ cZ : ClassId} {A : Nat → Prop} {a_th a_th_tenths a_th_toldFrom a_th_wayCount : Nat} {th_kind : Int32} {th_penny : Int32} {th_seats : Int32} {o : (Nat → Int32) × (Nat → Int32) × (Nat → Int32)} (C0 : zz_C p s m args meth c cX3_layStays 2 RX3 wsX3_layStays (none)) (hE : zz_EV (dC, dI) (zz_T cI cJ cZ) s) (hA : ∀ q : Nat, s.heap.size ≤ q → A q) (k2 : (Nat → Int32) → (Nat → Int32) → (Nat → Int32) → Int32 → Option ((Nat → Int32) × (Nat → Int32) × (Nat → Int32))) (hk2 : ∀ (th_tenths : (Nat → Int32)) (th_toldFrom : (Nat → Int32)) (th_wayCount : (Nat → Int32)) (v1 : Int32), k2 th_tenths th_toldFrom th_wayCount v1 = some o → ∀ (H : Heap) (locs : List Loc) (ls : Array Slot), va_P (dC, dI) vwCl [(a_th, .inr (3, [.ref a_th_tenths, .ref a_th_toldFrom, .ref a_th_wayCount, .int th_seats, .int th_kind, .int th_penny])), (a_th_tenths, .inl (cI, 64, .inl th_tenths)), (a_th_toldFrom, .inl (cI, 8, .inl th_toldFrom)), (a_th_wayCount, .inl (cI, 8, .inl th_wayCount))] H → va_D A [(a_th, .inr (3, [.ref a_th_tenths, .ref a_th_toldFrom, .ref a_th_wayCount, .int th_seats, .int th_kind, .int th_penny])), (a_th_tenths, .inl (cI, 64, .inl th_tenths)), (a_th_toldFrom, .inl (cI, 8, .inl th_toldFrom)), (a_th_wayCount, .inl (cI, 8, .inl th_wayCount))] → va_S A s.heap H locs → lv_has ls 2 [(0, .ref a_th), (1, .int v1)] → W p l e { frames := 2, cells := 0, slots := 0, locals := 44 } s m args below meth c H locs 0 0 (MQ below (zz_QV (dC, dI) (zz_T cI cJ cZ) A (fun _ : Unit => [(a_th, .inr (3, [.ref a_th_tenths, .ref a_th_toldFrom, .ref a_th_wayCount, .int th_seats, .int th_kind, .int th_penny])), (a_th_tenths, .inl (cI, 64, .inl o.1)), (a_th_toldFrom, .inl (cI, 8, .inl o.2.1)), (a_th_wayCount, .inl (cI, 8, .inl o.2.2))])) args s 0 0 A) (F0 m 2 ls [])) {th_tenths : (Nat → Int32)} {th_toldFrom : (Nat → Int32)} {th_wayCount : (Nat → Int32)} {v1 : Int32} (h : zf_X3_layStays_35 th_seats k2 th_tenths th_toldFrom th_wayCount v1 = some o) : ∀ (H : Heap) (locs : List Loc) (ls : Array Slot), va_P (dC, dI) vwCl [(a_th, .inr (3, [.ref a_th_tenths, .ref a_th_toldFrom, .ref a_th_wayCount, .int th_seats, .int th_kind, .int th_penny])), (a_th_tenths, .inl (cI, 64, .inl th_tenths)), (a_th_toldFrom, .inl (cI, 8, .inl th_toldFrom)), (a_th_wayCount, .inl (cI, 8, .inl th_wayCount))] H → va_D A [(a_th, .inr (3, [.ref a_th_tenths, .ref a_th_toldFrom, .ref a_th_wayCount, .int th_seats, .int th_kind, .int th_penny])), (a_th_tenths, .inl (cI, 64, .inl th_tenths)), (a_th_toldFrom, .inl (cI, 8, .inl th_toldFrom)), (a_th_wayCount, .inl (cI, 8, .inl th_wayCount))] → va_S A s.heap H locs → lv_has ls 2 [(0, .ref a_th), (1, .int v1)] → W p l e { frames := 2, cells := 0, slots := 0, locals := 44 } s m args below meth c H locs 0 0 (MQ below (zz_QV (dC, dI) (zz_T cI cJ cZ) A (fun _ : Unit => [(a_th, .inr (3, [.ref a_th_tenths, .ref a_th_toldFrom, .ref a_th_wayCount, .int th_seats, .int th_kind, .int th_penny])), (a_th_tenths, .inl (cI, 64, .inl o.1)), (a_th_toldFrom, .inl (cI, 8, .inl o.2.1)), (a_th_wayCount, .inl (cI, 8, .inl o.2.2))])) args s 0 0 A) (F0 m 35 ls []) := by
  obtain ⟨⟨hx, hb, hml, hown, hts⟩, hr, hlocks⟩ := id C0
  unfold zf_X3_layStays_35 at h
  intro H locs ls hP hD hS hl
  refine lv_iinc (v := (v1 + (1 : Int32))) (lv' := [(1, .int (v1 + (1 : Int32))), (0, .ref a_th)]) hx hb dX3_layStays_35 hl (k := 1) rfl rfl (by decide) rfl (fun ls hl => ?_)
  refine lv_goto (tgt := 2) hx hb dX3_layStays_38 (by decide) ?_
  exact hk2 th_tenths th_toldFrom th_wayCount (v1 + (1 : Int32)) h _ _ _ hP hD hS (lv_sub hl [1, 0] rfl)
set_option maxHeartbeats 4000000 in
set_option maxRecDepth 100000 in
theorem zw_X3_layStays_2_b {p : Program} {l : Launch} {e : Env} {s : State} {m : MethodId} {args : Array Value} {below : List Frame} {meth : Method} {c : Code} {dC : Nat → ClassId} {dI : Nat → Nat → Nat} {cI cJ cZ : ClassId} {A : Nat → Prop} {a_th a_th_tenths a_th_toldFrom a_th_wayCount : Nat} {th_kind : Int32} {th_penny : Int32} {th_seats : Int32} {o : (Nat → Int32) × (Nat → Int32) × (Nat → Int32)} (C0 : zz_C p s m args meth c cX3_layStays 2 RX3 wsX3_layStays (none)) (hE : zz_EV (dC, dI) (zz_T cI cJ cZ) s) (hA : ∀ q : Nat, s.heap.size ≤ q → A q) (k2 : (Nat → Int32) → (Nat → Int32) → (Nat → Int32) → Int32 → Option ((Nat → Int32) × (Nat → Int32) × (Nat → Int32))) (hk2 : ∀ (th_tenths : (Nat → Int32)) (th_toldFrom : (Nat → Int32)) (th_wayCount : (Nat → Int32)) (v1 : Int32), k2 th_tenths th_toldFrom th_wayCount v1 = some o → ∀ (H : Heap) (locs : List Loc) (ls : Array Slot), va_P (dC, dI) vwCl [(a_th, .inr (3, [.ref a_th_tenths, .ref a_th_toldFrom, .ref a_th_wayCount, .int th_seats, .int th_kind, .int th_penny])), (a_th_tenths, .inl (cI, 64, .inl th_tenths)), (a_th_toldFrom, .inl (cI, 8, .inl th_toldFrom)), (a_th_wayCount, .inl (cI, 8, .inl th_wayCount))] H → va_D A [(a_th, .inr (3, [.ref a_th_tenths, .ref a_th_toldFrom, .ref a_th_wayCount, .int th_seats, .int th_kind, .int th_penny])), (a_th_tenths, .inl (cI, 64, .inl th_tenths)), (a_th_toldFrom, .inl (cI, 8, .inl th_toldFrom)), (a_th_wayCount, .inl (cI, 8, .inl th_wayCount))] → va_S A s.heap H locs → lv_has ls 2 [(0, .ref a_th), (1, .int v1)] → W p l e { frames := 2, cells := 0, slots := 0, locals := 44 } s m args below meth c H locs 0 0 (MQ below (zz_QV (dC, dI) (zz_T cI cJ cZ) A (fun _ : Unit => [(a_th, .inr (3, [.ref a_th_tenths, .ref a_th_toldFrom, .ref a_th_wayCount, .int th_seats, .int th_kind, .int th_penny])), (a_th_tenths, .inl (cI, 64, .inl o.1)), (a_th_toldFrom, .inl (cI, 8, .inl o.2.1)), (a_th_wayCount, .inl (cI, 8, .inl o.2.2))])) args s 0 0 A) (F0 m 2 ls [])) {th_tenths : (Nat → Int32)} {th_toldFrom : (Nat → Int32)} {th_wayCount : (Nat → Int32)} {v1 : Int32} (h : zf_X3_layStays_2_b th_seats k2 th_tenths th_toldFrom th_wayCount v1 = some o) : ∀ (H : Heap) (locs : List Loc) (ls : Array Slot), va_P (dC, dI) vwCl [(a_th, .inr (3, [.ref a_th_tenths, .ref a_th_toldFrom, .ref a_th_wayCount, .int th_seats, .int th_kind, .int th_penny])), (a_th_tenths, .inl (cI, 64, .inl th_tenths)), (a_th_toldFrom, .inl (cI, 8, .inl th_toldFrom)), (a_th_wayCount, .inl (cI, 8, .inl th_wayCount))] H → va_D A [(a_th, .inr (3, [.ref a_th_tenths, .ref a_th_toldFrom, .ref a_th_wayCount, .int th_seats, .int th_kind, .int th_penny])), (a_th_tenths, .inl (cI, 64, .inl th_tenths)), (a_th_toldFrom, .inl (cI, 8, .inl th_toldFrom)), (a_th_wayCount, .inl (cI, 8, .inl th_wayCount))] → va_S A s.heap H locs → lv_has ls 2 [(0, .ref a_th), (1, .int v1)] → W p l e { frames := 2, cells := 0, slots := 0, locals := 44 } s m args below meth c H locs 0 0 (MQ below (zz_QV (dC, dI) (zz_T cI cJ cZ) A (fun _ : Unit => [(a_th, .inr (3, [.ref a_th_tenths, .ref a_th_toldFrom, .ref a_th_wayCount, .int th_seats, .int th_kind, .int th_penny])), (a_th_tenths, .inl (cI, 64, .inl o.1)), (a_th_toldFrom, .inl (cI, 8, .inl o.2.1)), (a_th_wayCount, .inl (cI, 8, .inl o.2.2))])) args s 0 0 A) (F0 m 2 ls []) := by
  obtain ⟨⟨hx, hb, hml, hown, hts⟩, hr, hlocks⟩ := id C0
  unfold zf_X3_layStays_2_b at h
  intro H locs ls hP hD hS hl
  refine lv_iload_n hx hb dX3_layStays_2 rfl (lv_at hl 1 rfl) ?_
  refine lv_aload_n hx hb dX3_layStays_3 rfl (lv_at hl 0 rfl) ?_
  refine va_get (D := (dC, dI)) (ci := 3) (v := .int th_seats) (C := RX3) (T := TX3) (N := 6) hx hb hts zi_X3_layStays_3 hown hE.1 hP 0 rfl rfl 3 (by decide) (hts _ zl_X3_layStays_1) (fun _ h9 => h9) rfl dX3_layStays_4 ?_
  refine lv_icmp_ge (tgt := 41) hx hb dX3_layStays_7 (by decide) (fun hc_1 => ?_) (fun hc_1 => ?_)
  · have h := zz_t hc_1 h
    obtain rfl := Option.some.inj h
    exact zk_vret hx hb hr hlocks hE () hP hD hS dX3_layStays_41
  have h := zz_f hc_1 h
  refine lv_aload_n hx hb dX3_layStays_10 rfl (lv_at hl 0 rfl) ?_
  refine lv_iload_n hx hb dX3_layStays_11 rfl (lv_at hl 1 rfl) ?_
  obtain ⟨x_2, hcl_3, h⟩ := zz_bd h
  refine zk_ci (wr := [(a_th_tenths, .inl (cI, 64, .inl th_tenths)), (a_th_toldFrom, .inl (cI, 8, .inl th_toldFrom)), (a_th_wayCount, .inl (cI, 8, .inl th_wayCount))]) (va_runV (As := [.int v1]) (rest := []) C0.1 (zc_X3_has l dC dI cI cJ cZ _ a_th a_th_tenths a_th_toldFrom a_th_wayCount th_kind th_penny th_seats v1 hcl_3) (cwV 1 hts gX3_layStays_X3_has rfl rfl rfl (by decide +kernel) ⟨Nat.le_of_ble_eq_true rfl, Nat.le_of_ble_eq_true rfl⟩) (zz_preV (wc := [(a_th, .inr (3, [.ref a_th_tenths, .ref a_th_toldFrom, .ref a_th_wayCount, .int th_seats, .int th_kind, .int th_penny]))]) hE hP hD [0] rfl rfl (by decide) (ci := 3) rfl rfl) rfl rfl hl.1 rfl (lv_room (Nat.le_of_ble_eq_true rfl)) dX3_layStays_12 ⟨Nat.zero_le _, Nat.zero_le _⟩) hP hD hS hA [0] [1, 2, 3] rfl rfl (by decide) (by decide) (fun u H locs hP hD hS => ?_)
  have hP : va_P (dC, dI) vwCl [(a_th_tenths, .inl (cI, 64, .inl th_tenths)), (a_th_toldFrom, .inl (cI, 8, .inl th_toldFrom)), (a_th_wayCount, .inl (cI, 8, .inl th_wayCount)), (a_th, .inr (3, [.ref a_th_tenths, .ref a_th_toldFrom, .ref a_th_wayCount, .int th_seats, .int th_kind, .int th_penny]))] H := hP
  have hD : va_D A [(a_th_tenths, .inl (cI, 64, .inl th_tenths)), (a_th_toldFrom, .inl (cI, 8, .inl th_toldFrom)), (a_th_wayCount, .inl (cI, 8, .inl th_wayCount)), (a_th, .inr (3, [.ref a_th_tenths, .ref a_th_toldFrom, .ref a_th_wayCount, .int th_seats, .int th_kind, .int th_penny]))] := hD
  refine lv_if_eq (tgt := 35) hx hb dX3_layStays_15 (by decide) (fun hc_4 => ?_) (fun hc_4 => ?_)
  · have h := zz_t hc_4 h
    exact zw_X3_layStays_35 C0 hE hA k2 hk2 h _ _ _ (hP.sub [3, 0, 1, 2] rfl) (hD.sub [3, 0, 1, 2] (by decide) rfl) hS hl
  have h := zz_f hc_4 h
  refine lv_aload_n hx hb dX3_layStays_18 rfl (lv_at hl 0 rfl) ?_
  refine va_get (D := (dC, dI)) (ci := 3) (v := .ref a_th_toldFrom) (C := RX3) (T := TX3) (N := 6) hx hb hts zi_X3_layStays_3 hown hE.1 hP 3 rfl rfl 1 (by decide) (hts _ zl_X3_layStays_2) (fun _ h9 => h9) rfl dX3_layStays_19 ?_
  refine lv_iload_n hx hb dX3_layStays_22 rfl (lv_at hl 1 rfl) ?_
  obtain ⟨hin_5, h⟩ := zz_nn h
  refine va_iald hx hb hE.1 hP 1 0 rfl rfl hin_5 dX3_layStays_23 ?_
  refine lv_if_ne (tgt := 35) hx hb dX3_layStays_24 (by decide) (fun hc_6 => ?_) (fun hc_6 => ?_)
  · have h := zz_f hc_6 h
    exact zw_X3_layStays_35 C0 hE hA k2 hk2 h _ _ _ (hP.sub [3, 0, 1, 2] rfl) (hD.sub [3, 0, 1, 2] (by decide) rfl) hS hl
  have h := zz_t hc_6 h
  refine lv_aload_n hx hb dX3_layStays_27 rfl (lv_at hl 0 rfl) ?_
  refine lv_iload_n hx hb dX3_layStays_28 rfl (lv_at hl 1 rfl) ?_
  refine lv_iload_n hx hb dX3_layStays_29 rfl (lv_at hl 1 rfl) ?_
  refine lv_bipush (v := (10 : Int32)) hx hb dX3_layStays_30 (by decide) ?_
  obtain ⟨x_7, hcl_8, h⟩ := zz_bd h
  refine zk_cv (wr := []) (va_runV (As := [.int v1, .int v1, .int (10 : Int32)]) (rest := []) C0.1 (zc_X3_tell l dC dI cI cJ cZ _ a_th a_th_tenths a_th_toldFrom a_th_wayCount th_kind th_penny th_seats th_tenths th_toldFrom th_wayCount v1 v1 (10 : Int32) hcl_8) (cwV 3 hts gX3_layStays_X3_tell rfl rfl rfl (by decide +kernel) ⟨Nat.le_of_ble_eq_true rfl, Nat.le_of_ble_eq_true rfl⟩) (zz_preV (wc := [(a_th, .inr (3, [.ref a_th_tenths, .ref a_th_toldFrom, .ref a_th_wayCount, .int th_seats, .int th_kind, .int th_penny])), (a_th_tenths, .inl (cI, 64, .inl th_tenths)), (a_th_toldFrom, .inl (cI, 8, .inl th_toldFrom)), (a_th_wayCount, .inl (cI, 8, .inl th_wayCount))]) hE hP hD [3, 0, 1, 2] rfl rfl (by decide) (ci := 3) rfl rfl) rfl rfl hl.1 rfl (lv_room (Nat.le_of_ble_eq_true rfl)) dX3_layStays_32 ⟨Nat.zero_le _, Nat.zero_le _⟩) hP hD hS hA [3, 0, 1, 2] [] rfl rfl (by decide) (by decide) (fun u H locs hP hD hS => ?_)
  have hP : va_P (dC, dI) vwCl [(a_th, .inr (3, [.ref a_th_tenths, .ref a_th_toldFrom, .ref a_th_wayCount, .int th_seats, .int th_kind, .int th_penny])), (a_th_tenths, .inl (cI, 64, .inl x_7.1)), (a_th_toldFrom, .inl (cI, 8, .inl x_7.2.1)), (a_th_wayCount, .inl (cI, 8, .inl x_7.2.2))] H := hP
  have hD : va_D A [(a_th, .inr (3, [.ref a_th_tenths, .ref a_th_toldFrom, .ref a_th_wayCount, .int th_seats, .int th_kind, .int th_penny])), (a_th_tenths, .inl (cI, 64, .inl x_7.1)), (a_th_toldFrom, .inl (cI, 8, .inl x_7.2.1)), (a_th_wayCount, .inl (cI, 8, .inl x_7.2.2))] := hD
  exact zw_X3_layStays_35 C0 hE hA k2 hk2 h _ _ _ hP hD hS hl
set_option maxHeartbeats 4000000 in
set_option maxRecDepth 100000 in
theorem zw_X3_layStays_2 {p : Program} {l : Launch} {e : Env} {s : State} {m : MethodId} {args : Array Value} {below : List Frame} {meth : Method} {c : Code} {dC : Nat → ClassId} {dI : Nat → Nat → Nat} {cI cJ cZ : ClassId} {A : Nat → Prop} {a_th a_th_tenths a_th_toldFrom a_th_wayCount : Nat} {th_kind : Int32} {th_penny : Int32} {th_seats : Int32} {o : (Nat → Int32) × (Nat → Int32) × (Nat → Int32)} (C0 : zz_C p s m args meth c cX3_layStays 2 RX3 wsX3_layStays (none)) (hE : zz_EV (dC, dI) (zz_T cI cJ cZ) s) (hA : ∀ q : Nat, s.heap.size ≤ q → A q) : ∀ (n : Nat) (th_tenths : (Nat → Int32)) (th_toldFrom : (Nat → Int32)) (th_wayCount : (Nat → Int32)) (v1 : Int32), zf_X3_layStays_2 th_seats n th_tenths th_toldFrom th_wayCount v1 = some o → ∀ (H : Heap) (locs : List Loc) (ls : Array Slot), va_P (dC, dI) vwCl [(a_th, .inr (3, [.ref a_th_tenths, .ref a_th_toldFrom, .ref a_th_wayCount, .int th_seats, .int th_kind, .int th_penny])), (a_th_tenths, .inl (cI, 64, .inl th_tenths)), (a_th_toldFrom, .inl (cI, 8, .inl th_toldFrom)), (a_th_wayCount, .inl (cI, 8, .inl th_wayCount))] H → va_D A [(a_th, .inr (3, [.ref a_th_tenths, .ref a_th_toldFrom, .ref a_th_wayCount, .int th_seats, .int th_kind, .int th_penny])), (a_th_tenths, .inl (cI, 64, .inl th_tenths)), (a_th_toldFrom, .inl (cI, 8, .inl th_toldFrom)), (a_th_wayCount, .inl (cI, 8, .inl th_wayCount))] → va_S A s.heap H locs → lv_has ls 2 [(0, .ref a_th), (1, .int v1)] → W p l e { frames := 2, cells := 0, slots := 0, locals := 44 } s m args below meth c H locs 0 0 (MQ below (zz_QV (dC, dI) (zz_T cI cJ cZ) A (fun _ : Unit => [(a_th, .inr (3, [.ref a_th_tenths, .ref a_th_toldFrom, .ref a_th_wayCount, .int th_seats, .int th_kind, .int th_penny])), (a_th_tenths, .inl (cI, 64, .inl o.1)), (a_th_toldFrom, .inl (cI, 8, .inl o.2.1)), (a_th_wayCount, .inl (cI, 8, .inl o.2.2))])) args s 0 0 A) (F0 m 2 ls []) := by
  intro n
  induction n with
  | zero =>
    intro th_tenths th_toldFrom th_wayCount v1 h
    cases h
  | succ n ih =>
    intro th_tenths th_toldFrom th_wayCount v1 h
    exact zw_X3_layStays_2_b C0 hE hA  (zf_X3_layStays_2 th_seats n) ih h
set_option maxHeartbeats 4000000 in
set_option maxRecDepth 100000 in
theorem zw_X3_layStays {p : Program} {l : Launch} {e : Env} {s : State} {m : MethodId} {args : Array Value} {below : List Frame} {meth : Method} {c : Code} {dC : Nat → ClassId} {dI : Nat → Nat → Nat} {cI cJ cZ : ClassId} {A : Nat → Prop} {a_th a_th_tenths a_th_toldFrom a_th_wayCount : Nat} {th_kind : Int32} {th_penny : Int32} {th_seats : Int32} {o : (Nat → Int32) × (Nat → Int32) × (Nat → Int32)} (C0 : zz_C p s m args meth c cX3_layStays 2 RX3 wsX3_layStays (none)) (hE : zz_EV (dC, dI) (zz_T cI cJ cZ) s) (hA : ∀ q : Nat, s.heap.size ≤ q → A q) {th_tenths : (Nat → Int32)} {th_toldFrom : (Nat → Int32)} {th_wayCount : (Nat → Int32)} (h : zf_X3_layStays th_seats th_tenths th_toldFrom th_wayCount = some o) : ∀ (H : Heap) (locs : List Loc) (ls : Array Slot), va_P (dC, dI) vwCl [(a_th, .inr (3, [.ref a_th_tenths, .ref a_th_toldFrom, .ref a_th_wayCount, .int th_seats, .int th_kind, .int th_penny])), (a_th_tenths, .inl (cI, 64, .inl th_tenths)), (a_th_toldFrom, .inl (cI, 8, .inl th_toldFrom)), (a_th_wayCount, .inl (cI, 8, .inl th_wayCount))] H → va_D A [(a_th, .inr (3, [.ref a_th_tenths, .ref a_th_toldFrom, .ref a_th_wayCount, .int th_seats, .int th_kind, .int th_penny])), (a_th_tenths, .inl (cI, 64, .inl th_tenths)), (a_th_toldFrom, .inl (cI, 8, .inl th_toldFrom)), (a_th_wayCount, .inl (cI, 8, .inl th_wayCount))] → va_S A s.heap H locs → lv_has ls 2 [(0, .ref a_th)] → W p l e { frames := 2, cells := 0, slots := 0, locals := 44 } s m args below meth c H locs 0 0 (MQ below (zz_QV (dC, dI) (zz_T cI cJ cZ) A (fun _ : Unit => [(a_th, .inr (3, [.ref a_th_tenths, .ref a_th_toldFrom, .ref a_th_wayCount, .int th_seats, .int th_kind, .int th_penny])), (a_th_tenths, .inl (cI, 64, .inl o.1)), (a_th_toldFrom, .inl (cI, 8, .inl o.2.1)), (a_th_wayCount, .inl (cI, 8, .inl o.2.2))])) args s 0 0 A) (F0 m 0 ls []) := by
  obtain ⟨⟨hx, hb, hml, hown, hts⟩, hr, hlocks⟩ := id C0
  unfold zf_X3_layStays at h
  intro H locs ls hP hD hS hl
  refine lv_iconst (v := (0 : Int32)) hx hb dX3_layStays_0 (by decide) ?_
  refine lv_istore_n (lv' := [(1, .int (0 : Int32)), (0, .ref a_th)]) hx hb dX3_layStays_1 rfl hl (by decide) rfl (fun ls hl => ?_)
  exact zw_X3_layStays_2 C0 hE hA  zfuel th_tenths th_toldFrom th_wayCount (0 : Int32) h _ _ _ hP hD hS (lv_sub hl [1, 0] rfl)
set_option maxHeartbeats 4000000 in
set_option maxRecDepth 100000 in
theorem zc_X3_layStays (l : Launch) (dC : Nat → ClassId) (dI : Nat → Nat → Nat) (cI cJ cZ : ClassId) (sz : Nat) (a_th a_th_tenths a_th_toldFrom a_th_wayCount : Nat) (th_kind : Int32) (th_penny : Int32) (th_seats : Int32) (th_tenths : (Nat → Int32)) (th_toldFrom : (Nat → Int32)) (th_wayCount : (Nat → Int32)) {o : (Nat → Int32) × (Nat → Int32) × (Nat → Int32)} (h : zf_X3_layStays th_seats th_tenths th_toldFrom th_wayCount = some o) : Met l yX3_layStays wsX3_layStays { frames := 2, cells := 0, slots := 0, locals := 44 } (zz_PC (dC, dI) (zz_T cI cJ cZ) [.ref a_th] sz [(a_th, .inr (3, [.ref a_th_tenths, .ref a_th_toldFrom, .ref a_th_wayCount, .int th_seats, .int th_kind, .int th_penny])), (a_th_tenths, .inl (cI, 64, .inl th_tenths)), (a_th_toldFrom, .inl (cI, 8, .inl th_toldFrom)), (a_th_wayCount, .inl (cI, 8, .inl th_wayCount))]) (zz_QV (dC, dI) (zz_T cI cJ cZ) (va_A [(a_th, .inr (3, [.ref a_th_tenths, .ref a_th_toldFrom, .ref a_th_wayCount, .int th_seats, .int th_kind, .int th_penny])), (a_th_tenths, .inl (cI, 64, .inl th_tenths)), (a_th_toldFrom, .inl (cI, 8, .inl th_toldFrom)), (a_th_wayCount, .inl (cI, 8, .inl th_wayCount))] sz) (fun _ : Unit => [(a_th, .inr (3, [.ref a_th_tenths, .ref a_th_toldFrom, .ref a_th_wayCount, .int th_seats, .int th_kind, .int th_penny])), (a_th_tenths, .inl (cI, 64, .inl o.1)), (a_th_toldFrom, .inl (cI, 8, .inl o.2.1)), (a_th_wayCount, .inl (cI, 8, .inl o.2.2))])) 0 0 (va_A [(a_th, .inr (3, [.ref a_th_tenths, .ref a_th_toldFrom, .ref a_th_wayCount, .int th_seats, .int th_kind, .int th_penny])), (a_th_tenths, .inl (cI, 64, .inl th_tenths)), (a_th_toldFrom, .inl (cI, 8, .inl th_toldFrom)), (a_th_wayCount, .inl (cI, 8, .inl th_wayCount))] sz) := by
  refine zz_met (own := RX3) (cc := cX3_layStays) (maxL := 2) (ret := none) (by decide) rfl rfl (Nat.le_of_ble_eq_true rfl) ?_
  intro p e s m below meth c ls hsz C0 hE hin hl hP hD
  subst hsz
  exact zw_X3_layStays C0 hE (fun q hq => Or.inr hq) h _ _ _ hP hD va_S.rf hl
/-! X3_stays : PlateLast$Net.stays(I)Z -/
set_option maxHeartbeats 4000000 in
set_option maxRecDepth 100000 in
theorem zw_X3_stays {p : Program} {l : Launch} {e : Env} {s : State} {m : MethodId} {args : Array Value} {below : List Frame} {meth : Method} {c : Code} {dC : Nat → ClassId} {dI : Nat → Nat → Nat} {cI cJ cZ : ClassId} {A : Nat → Prop} {a_th a_th_tenths a_th_toldFrom a_th_wayCount : Nat} {th_kind : Int32} {th_penny : Int32} {th_tenths : (Nat → Int32)} {th_seats : Int32} {o : Int32} (C0 : zz_C p s m args meth c cX3_stays 2 RX3 wsX3_stays (some .boolean)) (hE : zz_EV (dC, dI) (zz_T cI cJ cZ) s) (hA : ∀ q : Nat, s.heap.size ≤ q → A q) {p0 : Int32} (h : zf_X3_stays p0 th_tenths th_seats = some o) : ∀ (H : Heap) (locs : List Loc) (ls : Array Slot), va_P (dC, dI) vwCl [(a_th, .inr (3, [.ref a_th_tenths, .ref a_th_toldFrom, .ref a_th_wayCount, .int th_seats, .int th_kind, .int th_penny])), (a_th_tenths, .inl (cI, 64, .inl th_tenths))] H → va_D A [(a_th, .inr (3, [.ref a_th_tenths, .ref a_th_toldFrom, .ref a_th_wayCount, .int th_seats, .int th_kind, .int th_penny])), (a_th_tenths, .inl (cI, 64, .inl th_tenths))] → va_S A s.heap H locs → lv_has ls 2 [(0, .ref a_th), (1, .int p0)] → W p l e { frames := 2, cells := 0, slots := 0, locals := 43 } s m args below meth c H locs 0 0 (MQ below (zz_QI (dC, dI) (zz_T cI cJ cZ) A (fun _ : Unit => [(a_th, .inr (3, [.ref a_th_tenths, .ref a_th_toldFrom, .ref a_th_wayCount, .int th_seats, .int th_kind, .int th_penny])), (a_th_tenths, .inl (cI, 64, .inl th_tenths))]) o) args s 0 0 A) (F0 m 0 ls []) := by
  obtain ⟨⟨hx, hb, hml, hown, hts⟩, hr, hlocks⟩ := id C0
  unfold zf_X3_stays at h
  intro H locs ls hP hD hS hl
  refine lv_aload_n hx hb dX3_stays_0 rfl (lv_at hl 0 rfl) ?_
  refine lv_iload_n hx hb dX3_stays_1 rfl (lv_at hl 1 rfl) ?_
  refine lv_iload_n hx hb dX3_stays_2 rfl (lv_at hl 1 rfl) ?_
  obtain ⟨x_1, hcl_2, h⟩ := zz_bd h
  refine zk_ci (wr := []) (va_runV (As := [.int p0, .int p0]) (rest := []) C0.1 (zc_X3_tenthsOf l dC dI cI cJ cZ _ a_th a_th_tenths a_th_toldFrom a_th_wayCount th_kind th_penny th_tenths th_seats p0 p0 hcl_2) (cwV 2 hts gX3_stays_X3_tenthsOf rfl rfl rfl (by decide +kernel) ⟨Nat.le_of_ble_eq_true rfl, Nat.le_of_ble_eq_true rfl⟩) (zz_preV (wc := [(a_th, .inr (3, [.ref a_th_tenths, .ref a_th_toldFrom, .ref a_th_wayCount, .int th_seats, .int th_kind, .int th_penny])), (a_th_tenths, .inl (cI, 64, .inl th_tenths))]) hE hP hD [0, 1] rfl rfl (by decide) (ci := 3) rfl rfl) rfl rfl hl.1 rfl (lv_room (Nat.le_of_ble_eq_true rfl)) dX3_stays_3 ⟨Nat.zero_le _, Nat.zero_le _⟩) hP hD hS hA [0, 1] [] rfl rfl (by decide) (by decide) (fun u H locs hP hD hS => ?_)
  have hP : va_P (dC, dI) vwCl [(a_th, .inr (3, [.ref a_th_tenths, .ref a_th_toldFrom, .ref a_th_wayCount, .int th_seats, .int th_kind, .int th_penny])), (a_th_tenths, .inl (cI, 64, .inl th_tenths))] H := hP
  have hD : va_D A [(a_th, .inr (3, [.ref a_th_tenths, .ref a_th_toldFrom, .ref a_th_wayCount, .int th_seats, .int th_kind, .int th_penny])), (a_th_tenths, .inl (cI, 64, .inl th_tenths))] := hD
  refine lv_if_le (tgt := 13) hx hb dX3_stays_6 (by decide) (fun hc_3 => ?_) (fun hc_3 => ?_)
  · have h := zz_t hc_3 h
    refine lv_iconst (v := (0 : Int32)) hx hb dX3_stays_13 (by decide) ?_
    obtain rfl := Option.some.inj h
    exact zk_zret hx hb hr hlocks rfl hE () hP hD hS rfl dX3_stays_14
  have h := zz_f hc_3 h
  refine lv_iconst (v := (1 : Int32)) hx hb dX3_stays_9 (by decide) ?_
  refine lv_goto (tgt := 14) hx hb dX3_stays_10 (by decide) ?_
  obtain rfl := Option.some.inj h
  exact zk_zret hx hb hr hlocks rfl hE () hP hD hS rfl dX3_stays_14
set_option maxHeartbeats 4000000 in
set_option maxRecDepth 100000 in
theorem zc_X3_stays (l : Launch) (dC : Nat → ClassId) (dI : Nat → Nat → Nat) (cI cJ cZ : ClassId) (sz : Nat) (a_th a_th_tenths a_th_toldFrom a_th_wayCount : Nat) (th_kind : Int32) (th_penny : Int32) (th_tenths : (Nat → Int32)) (th_seats : Int32) (p0 : Int32) {o : Int32} (h : zf_X3_stays p0 th_tenths th_seats = some o) : Met l yX3_stays wsX3_stays { frames := 2, cells := 0, slots := 0, locals := 43 } (zz_PC (dC, dI) (zz_T cI cJ cZ) [.ref a_th, .int p0] sz [(a_th, .inr (3, [.ref a_th_tenths, .ref a_th_toldFrom, .ref a_th_wayCount, .int th_seats, .int th_kind, .int th_penny])), (a_th_tenths, .inl (cI, 64, .inl th_tenths))]) (zz_QI (dC, dI) (zz_T cI cJ cZ) (va_A [(a_th, .inr (3, [.ref a_th_tenths, .ref a_th_toldFrom, .ref a_th_wayCount, .int th_seats, .int th_kind, .int th_penny])), (a_th_tenths, .inl (cI, 64, .inl th_tenths))] sz) (fun _ : Unit => [(a_th, .inr (3, [.ref a_th_tenths, .ref a_th_toldFrom, .ref a_th_wayCount, .int th_seats, .int th_kind, .int th_penny])), (a_th_tenths, .inl (cI, 64, .inl th_tenths))]) o) 0 0 (va_A [(a_th, .inr (3, [.ref a_th_tenths, .ref a_th_toldFrom, .ref a_th_wayCount, .int th_seats, .int th_kind, .int th_penny])), (a_th_tenths, .inl (cI, 64, .inl th_tenths))] sz) := by
  refine zz_met (own := RX3) (cc := cX3_stays) (maxL := 2) (ret := some .boolean) (by decide) rfl rfl (Nat.le_of_ble_eq_true rfl) ?_
  intro p e s m below meth c ls hsz C0 hE hin hl hP hD
  subst hsz
  exact zw_X3_stays C0 hE (fun q hq => Or.inr hq) h _ _ _ hP hD va_S.rf hl
/-! X3_hasRoomFrom : PlateLast$Net.hasRoomFrom(I)Z -/
theorem zi_X3_hasRoomFrom_3 : ∀ w ∈ u_ws RX3 TX3 6, w ∈ wsX3_hasRoomFrom := by decide +kernel
theorem zl_X3_hasRoomFrom_1 : Cond.fieldLink RX3 15 "PlateLast$Net" "toldFrom" "[I" ∈ wsX3_hasRoomFrom := by decide +kernel
set_option maxHeartbeats 4000000 in
set_option maxRecDepth 100000 in
theorem zw_X3_hasRoomFrom {p : Program} {l : Launch} {e : Env} {s : State} {m : MethodId} {args : Array Value} {below : List Frame} {meth : Method} {c : Code} {dC : Nat → ClassId} {dI : Nat → Nat → Nat} {cI cJ cZ : ClassId} {A : Nat → Prop} {a_th a_th_tenths a_th_toldFrom a_th_wayCount : Nat} {th_kind : Int32} {th_penny : Int32} {th_toldFrom : (Nat → Int32)} {th_seats : Int32} {o : Int32} (C0 : zz_C p s m args meth c cX3_hasRoomFrom 2 RX3 wsX3_hasRoomFrom (some .boolean)) (hE : zz_EV (dC, dI) (zz_T cI cJ cZ) s) (hA : ∀ q : Nat, s.heap.size ≤ q → A q) {p0 : Int32} (h : zf_X3_hasRoomFrom p0 th_toldFrom th_seats = some o) : ∀ (H : Heap) (locs : List Loc) (ls : Array Slot), va_P (dC, dI) vwCl [(a_th, .inr (3, [.ref a_th_tenths, .ref a_th_toldFrom, .ref a_th_wayCount, .int th_seats, .int th_kind, .int th_penny])), (a_th_toldFrom, .inl (cI, 8, .inl th_toldFrom))] H → va_D A [(a_th, .inr (3, [.ref a_th_tenths, .ref a_th_toldFrom, .ref a_th_wayCount, .int th_seats, .int th_kind, .int th_penny])), (a_th_toldFrom, .inl (cI, 8, .inl th_toldFrom))] → va_S A s.heap H locs → lv_has ls 2 [(0, .ref a_th), (1, .int p0)] → W p l e { frames := 1, cells := 0, slots := 0, locals := 21 } s m args below meth c H locs 0 0 (MQ below (zz_QI (dC, dI) (zz_T cI cJ cZ) A (fun _ : Unit => [(a_th, .inr (3, [.ref a_th_tenths, .ref a_th_toldFrom, .ref a_th_wayCount, .int th_seats, .int th_kind, .int th_penny])), (a_th_toldFrom, .inl (cI, 8, .inl th_toldFrom))]) o) args s 0 0 A) (F0 m 0 ls []) := by
  obtain ⟨⟨hx, hb, hml, hown, hts⟩, hr, hlocks⟩ := id C0
  unfold zf_X3_hasRoomFrom at h
  intro H locs ls hP hD hS hl
  refine lv_aload_n hx hb dX3_hasRoomFrom_0 rfl (lv_at hl 0 rfl) ?_
  refine lv_iload_n hx hb dX3_hasRoomFrom_1 rfl (lv_at hl 1 rfl) ?_
  obtain ⟨x_1, hcl_2, h⟩ := zz_bd h
  refine zk_ci (wr := [(a_th_toldFrom, .inl (cI, 8, .inl th_toldFrom))]) (va_runV (As := [.int p0]) (rest := []) C0.1 (zc_X3_has l dC dI cI cJ cZ _ a_th a_th_tenths a_th_toldFrom a_th_wayCount th_kind th_penny th_seats p0 hcl_2) (cwV 1 hts gX3_hasRoomFrom_X3_has rfl rfl rfl (by decide +kernel) ⟨Nat.le_of_ble_eq_true rfl, Nat.le_of_ble_eq_true rfl⟩) (zz_preV (wc := [(a_th, .inr (3, [.ref a_th_tenths, .ref a_th_toldFrom, .ref a_th_wayCount, .int th_seats, .int th_kind, .int th_penny]))]) hE hP hD [0] rfl rfl (by decide) (ci := 3) rfl rfl) rfl rfl hl.1 rfl (lv_room (Nat.le_of_ble_eq_true rfl)) dX3_hasRoomFrom_2 ⟨Nat.zero_le _, Nat.zero_le _⟩) hP hD hS hA [0] [1] rfl rfl (by decide) (by decide) (fun u H locs hP hD hS => ?_)
  have hP : va_P (dC, dI) vwCl [(a_th_toldFrom, .inl (cI, 8, .inl th_toldFrom)), (a_th, .inr (3, [.ref a_th_tenths, .ref a_th_toldFrom, .ref a_th_wayCount, .int th_seats, .int th_kind, .int th_penny]))] H := hP
  have hD : va_D A [(a_th_toldFrom, .inl (cI, 8, .inl th_toldFrom)), (a_th, .inr (3, [.ref a_th_tenths, .ref a_th_toldFrom, .ref a_th_wayCount, .int th_seats, .int th_kind, .int th_penny]))] := hD
  refine lv_if_eq (tgt := 23) hx hb dX3_hasRoomFrom_5 (by decide) (fun hc_3 => ?_) (fun hc_3 => ?_)
  · have h := zz_t hc_3 h
    refine lv_iconst (v := (0 : Int32)) hx hb dX3_hasRoomFrom_23 (by decide) ?_
    obtain rfl := Option.some.inj h
    exact zk_zret hx hb hr hlocks rfl hE () (hP.sub [1, 0] rfl) (hD.sub [1, 0] (by decide) rfl) hS rfl dX3_hasRoomFrom_24
  have h := zz_f hc_3 h
  refine lv_aload_n hx hb dX3_hasRoomFrom_8 rfl (lv_at hl 0 rfl) ?_
  refine va_get (D := (dC, dI)) (ci := 3) (v := .ref a_th_toldFrom) (C := RX3) (T := TX3) (N := 6) hx hb hts zi_X3_hasRoomFrom_3 hown hE.1 hP 1 rfl rfl 1 (by decide) (hts _ zl_X3_hasRoomFrom_1) (fun _ h9 => h9) rfl dX3_hasRoomFrom_9 ?_
  refine lv_iload_n hx hb dX3_hasRoomFrom_12 rfl (lv_at hl 1 rfl) ?_
  obtain ⟨hin_4, h⟩ := zz_nn h
  refine va_iald hx hb hE.1 hP 0 0 rfl rfl hin_4 dX3_hasRoomFrom_13 ?_
  refine lv_bipush (v := (10 : Int32)) hx hb dX3_hasRoomFrom_14 (by decide) ?_
  refine lv_icmp_ge (tgt := 23) hx hb dX3_hasRoomFrom_16 (by decide) (fun hc_5 => ?_) (fun hc_5 => ?_)
  · have h := zz_t hc_5 h
    refine lv_iconst (v := (0 : Int32)) hx hb dX3_hasRoomFrom_23 (by decide) ?_
    obtain rfl := Option.some.inj h
    exact zk_zret hx hb hr hlocks rfl hE () (hP.sub [1, 0] rfl) (hD.sub [1, 0] (by decide) rfl) hS rfl dX3_hasRoomFrom_24
  have h := zz_f hc_5 h
  refine lv_iconst (v := (1 : Int32)) hx hb dX3_hasRoomFrom_19 (by decide) ?_
  refine lv_goto (tgt := 24) hx hb dX3_hasRoomFrom_20 (by decide) ?_
  obtain rfl := Option.some.inj h
  exact zk_zret hx hb hr hlocks rfl hE () (hP.sub [1, 0] rfl) (hD.sub [1, 0] (by decide) rfl) hS rfl dX3_hasRoomFrom_24
set_option maxHeartbeats 4000000 in
set_option maxRecDepth 100000 in
theorem zc_X3_hasRoomFrom (l : Launch) (dC : Nat → ClassId) (dI : Nat → Nat → Nat) (cI cJ cZ : ClassId) (sz : Nat) (a_th a_th_tenths a_th_toldFrom a_th_wayCount : Nat) (th_kind : Int32) (th_penny : Int32) (th_toldFrom : (Nat → Int32)) (th_seats : Int32) (p0 : Int32) {o : Int32} (h : zf_X3_hasRoomFrom p0 th_toldFrom th_seats = some o) : Met l yX3_hasRoomFrom wsX3_hasRoomFrom { frames := 1, cells := 0, slots := 0, locals := 21 } (zz_PC (dC, dI) (zz_T cI cJ cZ) [.ref a_th, .int p0] sz [(a_th, .inr (3, [.ref a_th_tenths, .ref a_th_toldFrom, .ref a_th_wayCount, .int th_seats, .int th_kind, .int th_penny])), (a_th_toldFrom, .inl (cI, 8, .inl th_toldFrom))]) (zz_QI (dC, dI) (zz_T cI cJ cZ) (va_A [(a_th, .inr (3, [.ref a_th_tenths, .ref a_th_toldFrom, .ref a_th_wayCount, .int th_seats, .int th_kind, .int th_penny])), (a_th_toldFrom, .inl (cI, 8, .inl th_toldFrom))] sz) (fun _ : Unit => [(a_th, .inr (3, [.ref a_th_tenths, .ref a_th_toldFrom, .ref a_th_wayCount, .int th_seats, .int th_kind, .int th_penny])), (a_th_toldFrom, .inl (cI, 8, .inl th_toldFrom))]) o) 0 0 (va_A [(a_th, .inr (3, [.ref a_th_tenths, .ref a_th_toldFrom, .ref a_th_wayCount, .int th_seats, .int th_kind, .int th_penny])), (a_th_toldFrom, .inl (cI, 8, .inl th_toldFrom))] sz) := by
  refine zz_met (own := RX3) (cc := cX3_hasRoomFrom) (maxL := 2) (ret := some .boolean) (by decide) rfl rfl (Nat.le_of_ble_eq_true rfl) ?_
  intro p e s m below meth c ls hsz C0 hE hin hl hP hD
  subst hsz
  exact zw_X3_hasRoomFrom C0 hE (fun q hq => Or.inr hq) h _ _ _ hP hD va_S.rf hl
/-! X3_hasRoom : PlateLast$Net.hasRoom()Z -/
theorem zi_X3_hasRoom_3 : ∀ w ∈ u_ws RX3 TX3 6, w ∈ wsX3_hasRoom := by decide +kernel
theorem zl_X3_hasRoom_1 : Cond.fieldLink RX3 21 "PlateLast$Net" "seats" "I" ∈ wsX3_hasRoom := by decide +kernel
set_option maxHeartbeats 4000000 in
set_option maxRecDepth 100000 in
theorem zw_X3_hasRoom_2_b {p : Program} {l : Launch} {e : Env} {s : State} {m : MethodId} {args : Array Value} {below : List Frame} {meth : Method} {c : Code} {dC : Nat → ClassId} {dI : Nat → Nat → Nat} {cI cJ cZ : ClassId} {A : Nat → Prop} {a_th a_th_tenths a_th_toldFrom a_th_wayCount : Nat} {th_kind : Int32} {th_penny : Int32} {th_toldFrom : (Nat → Int32)} {th_seats : Int32} {o : Int32} (C0 : zz_C p s m args meth c cX3_hasRoom 2 RX3 wsX3_hasRoom (some .boolean)) (hE : zz_EV (dC, dI) (zz_T cI cJ cZ) s) (hA : ∀ q : Nat, s.heap.size ≤ q → A q) (k2 : Int32 → Option (Int32)) (hk2 : ∀ (v1 : Int32), k2 v1 = some o → ∀ (H : Heap) (locs : List Loc) (ls : Array Slot), va_P (dC, dI) vwCl [(a_th, .inr (3, [.ref a_th_tenths, .ref a_th_toldFrom, .ref a_th_wayCount, .int th_seats, .int th_kind, .int th_penny])), (a_th_toldFrom, .inl (cI, 8, .inl th_toldFrom))] H → va_D A [(a_th, .inr (3, [.ref a_th_tenths, .ref a_th_toldFrom, .ref a_th_wayCount, .int th_seats, .int th_kind, .int th_penny])), (a_th_toldFrom, .inl (cI, 8, .inl th_toldFrom))] → va_S A s.heap H locs → lv_has ls 2 [(0, .ref a_th), (1, .int v1)] → W p l e { frames := 2, cells := 0, slots := 0, locals := 42 } s m args below meth c H locs 0 0 (MQ below (zz_QI (dC, dI) (zz_T cI cJ cZ) A (fun _ : Unit => [(a_th, .inr (3, [.ref a_th_tenths, .ref a_th_toldFrom, .ref a_th_wayCount, .int th_seats, .int th_kind, .int th_penny])), (a_th_toldFrom, .inl (cI, 8, .inl th_toldFrom))]) o) args s 0 0 A) (F0 m 2 ls [])) {v1 : Int32} (h : zf_X3_hasRoom_2_b th_toldFrom th_seats k2 v1 = some o) : ∀ (H : Heap) (locs : List Loc) (ls : Array Slot), va_P (dC, dI) vwCl [(a_th, .inr (3, [.ref a_th_tenths, .ref a_th_toldFrom, .ref a_th_wayCount, .int th_seats, .int th_kind, .int th_penny])), (a_th_toldFrom, .inl (cI, 8, .inl th_toldFrom))] H → va_D A [(a_th, .inr (3, [.ref a_th_tenths, .ref a_th_toldFrom, .ref a_th_wayCount, .int th_seats, .int th_kind, .int th_penny])), (a_th_toldFrom, .inl (cI, 8, .inl th_toldFrom))] → va_S A s.heap H locs → lv_has ls 2 [(0, .ref a_th), (1, .int v1)] → W p l e { frames := 2, cells := 0, slots := 0, locals := 42 } s m args below meth c H locs 0 0 (MQ below (zz_QI (dC, dI) (zz_T cI cJ cZ) A (fun _ : Unit => [(a_th, .inr (3, [.ref a_th_tenths, .ref a_th_toldFrom, .ref a_th_wayCount, .int th_seats, .int th_kind, .int th_penny])), (a_th_toldFrom, .inl (cI, 8, .inl th_toldFrom))]) o) args s 0 0 A) (F0 m 2 ls []) := by
  obtain ⟨⟨hx, hb, hml, hown, hts⟩, hr, hlocks⟩ := id C0
  unfold zf_X3_hasRoom_2_b at h
  intro H locs ls hP hD hS hl
  refine lv_iload_n hx hb dX3_hasRoom_2 rfl (lv_at hl 1 rfl) ?_
  refine lv_aload_n hx hb dX3_hasRoom_3 rfl (lv_at hl 0 rfl) ?_
  refine va_get (D := (dC, dI)) (ci := 3) (v := .int th_seats) (C := RX3) (T := TX3) (N := 6) hx hb hts zi_X3_hasRoom_3 hown hE.1 hP 0 rfl rfl 3 (by decide) (hts _ zl_X3_hasRoom_1) (fun _ h9 => h9) rfl dX3_hasRoom_4 ?_
  refine lv_icmp_ge (tgt := 26) hx hb dX3_hasRoom_7 (by decide) (fun hc_1 => ?_) (fun hc_1 => ?_)
  · have h := zz_t hc_1 h
    refine lv_iconst (v := (0 : Int32)) hx hb dX3_hasRoom_26 (by decide) ?_
    obtain rfl := Option.some.inj h
    exact zk_zret hx hb hr hlocks rfl hE () hP hD hS rfl dX3_hasRoom_27
  have h := zz_f hc_1 h
  refine lv_aload_n hx hb dX3_hasRoom_10 rfl (lv_at hl 0 rfl) ?_
  refine lv_iload_n hx hb dX3_hasRoom_11 rfl (lv_at hl 1 rfl) ?_
  obtain ⟨x_2, hcl_3, h⟩ := zz_bd h
  refine zk_ci (wr := []) (va_runV (As := [.int v1]) (rest := []) C0.1 (zc_X3_hasRoomFrom l dC dI cI cJ cZ _ a_th a_th_tenths a_th_toldFrom a_th_wayCount th_kind th_penny th_toldFrom th_seats v1 hcl_3) (cwV 1 hts gX3_hasRoom_X3_hasRoomFrom rfl rfl rfl (by decide +kernel) ⟨Nat.le_of_ble_eq_true rfl, Nat.le_of_ble_eq_true rfl⟩) (zz_preV (wc := [(a_th, .inr (3, [.ref a_th_tenths, .ref a_th_toldFrom, .ref a_th_wayCount, .int th_seats, .int th_kind, .int th_penny])), (a_th_toldFrom, .inl (cI, 8, .inl th_toldFrom))]) hE hP hD [0, 1] rfl rfl (by decide) (ci := 3) rfl rfl) rfl rfl hl.1 rfl (lv_room (Nat.le_of_ble_eq_true rfl)) dX3_hasRoom_12 ⟨Nat.zero_le _, Nat.zero_le _⟩) hP hD hS hA [0, 1] [] rfl rfl (by decide) (by decide) (fun u H locs hP hD hS => ?_)
  have hP : va_P (dC, dI) vwCl [(a_th, .inr (3, [.ref a_th_tenths, .ref a_th_toldFrom, .ref a_th_wayCount, .int th_seats, .int th_kind, .int th_penny])), (a_th_toldFrom, .inl (cI, 8, .inl th_toldFrom))] H := hP
  have hD : va_D A [(a_th, .inr (3, [.ref a_th_tenths, .ref a_th_toldFrom, .ref a_th_wayCount, .int th_seats, .int th_kind, .int th_penny])), (a_th_toldFrom, .inl (cI, 8, .inl th_toldFrom))] := hD
  refine lv_if_eq (tgt := 20) hx hb dX3_hasRoom_15 (by decide) (fun hc_4 => ?_) (fun hc_4 => ?_)
  · have h := zz_t hc_4 h
    refine lv_iinc (v := (v1 + (1 : Int32))) (lv' := [(1, .int (v1 + (1 : Int32))), (0, .ref a_th)]) hx hb dX3_hasRoom_20 hl (k := 1) rfl rfl (by decide) rfl (fun ls hl => ?_)
    refine lv_goto (tgt := 2) hx hb dX3_hasRoom_23 (by decide) ?_
    exact hk2 (v1 + (1 : Int32)) h _ _ _ hP hD hS (lv_sub hl [1, 0] rfl)
  have h := zz_f hc_4 h
  refine lv_iconst (v := (1 : Int32)) hx hb dX3_hasRoom_18 (by decide) ?_
  obtain rfl := Option.some.inj h
  exact zk_zret hx hb hr hlocks rfl hE () hP hD hS rfl dX3_hasRoom_19
set_option maxHeartbeats 4000000 in
set_option maxRecDepth 100000 in
theorem zw_X3_hasRoom_2 {p : Program} {l : Launch} {e : Env} {s : State} {m : MethodId} {args : Array Value} {below : List Frame} {meth : Method} {c : Code} {dC : Nat → ClassId} {dI : Nat → Nat → Nat} {cI cJ cZ : ClassId} {A : Nat → Prop} {a_th a_th_tenths a_th_toldFrom a_th_wayCount : Nat} {th_kind : Int32} {th_penny : Int32} {th_toldFrom : (Nat → Int32)} {th_seats : Int32} {o : Int32} (C0 : zz_C p s m args meth c cX3_hasRoom 2 RX3 wsX3_hasRoom (some .boolean)) (hE : zz_EV (dC, dI) (zz_T cI cJ cZ) s) (hA : ∀ q : Nat, s.heap.size ≤ q → A q) : ∀ (n : Nat) (v1 : Int32), zf_X3_hasRoom_2 th_toldFrom th_seats n v1 = some o → ∀ (H : Heap) (locs : List Loc) (ls : Array Slot), va_P (dC, dI) vwCl [(a_th, .inr (3, [.ref a_th_tenths, .ref a_th_toldFrom, .ref a_th_wayCount, .int th_seats, .int th_kind, .int th_penny])), (a_th_toldFrom, .inl (cI, 8, .inl th_toldFrom))] H → va_D A [(a_th, .inr (3, [.ref a_th_tenths, .ref a_th_toldFrom, .ref a_th_wayCount, .int th_seats, .int th_kind, .int th_penny])), (a_th_toldFrom, .inl (cI, 8, .inl th_toldFrom))] → va_S A s.heap H locs → lv_has ls 2 [(0, .ref a_th), (1, .int v1)] → W p l e { frames := 2, cells := 0, slots := 0, locals := 42 } s m args below meth c H locs 0 0 (MQ below (zz_QI (dC, dI) (zz_T cI cJ cZ) A (fun _ : Unit => [(a_th, .inr (3, [.ref a_th_tenths, .ref a_th_toldFrom, .ref a_th_wayCount, .int th_seats, .int th_kind, .int th_penny])), (a_th_toldFrom, .inl (cI, 8, .inl th_toldFrom))]) o) args s 0 0 A) (F0 m 2 ls []) := by
  intro n
  induction n with
  | zero =>
    intro v1 h
    cases h
  | succ n ih =>
    intro v1 h
    exact zw_X3_hasRoom_2_b C0 hE hA  (zf_X3_hasRoom_2 th_toldFrom th_seats n) ih h
set_option maxHeartbeats 4000000 in
set_option maxRecDepth 100000 in
theorem zw_X3_hasRoom {p : Program} {l : Launch} {e : Env} {s : State} {m : MethodId} {args : Array Value} {below : List Frame} {meth : Method} {c : Code} {dC : Nat → ClassId} {dI : Nat → Nat → Nat} {cI cJ cZ : ClassId} {A : Nat → Prop} {a_th a_th_tenths a_th_toldFrom a_th_wayCount : Nat} {th_kind : Int32} {th_penny : Int32} {th_toldFrom : (Nat → Int32)} {th_seats : Int32} {o : Int32} (C0 : zz_C p s m args meth c cX3_hasRoom 2 RX3 wsX3_hasRoom (some .boolean)) (hE : zz_EV (dC, dI) (zz_T cI cJ cZ) s) (hA : ∀ q : Nat, s.heap.size ≤ q → A q) (h : zf_X3_hasRoom th_toldFrom th_seats = some o) : ∀ (H : Heap) (locs : List Loc) (ls : Array Slot), va_P (dC, dI) vwCl [(a_th, .inr (3, [.ref a_th_tenths, .ref a_th_toldFrom, .ref a_th_wayCount, .int th_seats, .int th_kind, .int th_penny])), (a_th_toldFrom, .inl (cI, 8, .inl th_toldFrom))] H → va_D A [(a_th, .inr (3, [.ref a_th_tenths, .ref a_th_toldFrom, .ref a_th_wayCount, .int th_seats, .int th_kind, .int th_penny])), (a_th_toldFrom, .inl (cI, 8, .inl th_toldFrom))] → va_S A s.heap H locs → lv_has ls 2 [(0, .ref a_th)] → W p l e { frames := 2, cells := 0, slots := 0, locals := 42 } s m args below meth c H locs 0 0 (MQ below (zz_QI (dC, dI) (zz_T cI cJ cZ) A (fun _ : Unit => [(a_th, .inr (3, [.ref a_th_tenths, .ref a_th_toldFrom, .ref a_th_wayCount, .int th_seats, .int th_kind, .int th_penny])), (a_th_toldFrom, .inl (cI, 8, .inl th_toldFrom))]) o) args s 0 0 A) (F0 m 0 ls []) := by
  obtain ⟨⟨hx, hb, hml, hown, hts⟩, hr, hlocks⟩ := id C0
  unfold zf_X3_hasRoom at h
  intro H locs ls hP hD hS hl
  refine lv_iconst (v := (0 : Int32)) hx hb dX3_hasRoom_0 (by decide) ?_
  refine lv_istore_n (lv' := [(1, .int (0 : Int32)), (0, .ref a_th)]) hx hb dX3_hasRoom_1 rfl hl (by decide) rfl (fun ls hl => ?_)
  exact zw_X3_hasRoom_2 C0 hE hA  zfuel (0 : Int32) h _ _ _ hP hD hS (lv_sub hl [1, 0] rfl)
set_option maxHeartbeats 4000000 in
set_option maxRecDepth 100000 in
theorem zc_X3_hasRoom (l : Launch) (dC : Nat → ClassId) (dI : Nat → Nat → Nat) (cI cJ cZ : ClassId) (sz : Nat) (a_th a_th_tenths a_th_toldFrom a_th_wayCount : Nat) (th_kind : Int32) (th_penny : Int32) (th_toldFrom : (Nat → Int32)) (th_seats : Int32) {o : Int32} (h : zf_X3_hasRoom th_toldFrom th_seats = some o) : Met l yX3_hasRoom wsX3_hasRoom { frames := 2, cells := 0, slots := 0, locals := 42 } (zz_PC (dC, dI) (zz_T cI cJ cZ) [.ref a_th] sz [(a_th, .inr (3, [.ref a_th_tenths, .ref a_th_toldFrom, .ref a_th_wayCount, .int th_seats, .int th_kind, .int th_penny])), (a_th_toldFrom, .inl (cI, 8, .inl th_toldFrom))]) (zz_QI (dC, dI) (zz_T cI cJ cZ) (va_A [(a_th, .inr (3, [.ref a_th_tenths, .ref a_th_toldFrom, .ref a_th_wayCount, .int th_seats, .int th_kind, .int th_penny])), (a_th_toldFrom, .inl (cI, 8, .inl th_toldFrom))] sz) (fun _ : Unit => [(a_th, .inr (3, [.ref a_th_tenths, .ref a_th_toldFrom, .ref a_th_wayCount, .int th_seats, .int th_kind, .int th_penny])), (a_th_toldFrom, .inl (cI, 8, .inl th_toldFrom))]) o) 0 0 (va_A [(a_th, .inr (3, [.ref a_th_tenths, .ref a_th_toldFrom, .ref a_th_wayCount, .int th_seats, .int th_kind, .int th_penny])), (a_th_toldFrom, .inl (cI, 8, .inl th_toldFrom))] sz) := by
  refine zz_met (own := RX3) (cc := cX3_hasRoom) (maxL := 2) (ret := some .boolean) (by decide) rfl rfl (Nat.le_of_ble_eq_true rfl) ?_
  intro p e s m below meth c ls hsz C0 hE hin hl hP hD
  subst hsz
  exact zw_X3_hasRoom C0 hE (fun q hq => Or.inr hq) h _ _ _ hP hD va_S.rf hl
/-! X3_isFree : PlateLast$Net.isFree(II)Z -/
set_option maxHeartbeats 4000000 in
set_option maxRecDepth 100000 in
theorem zw_X3_isFree {p : Program} {l : Launch} {e : Env} {s : State} {m : MethodId} {args : Array Value} {below : List Frame} {meth : Method} {c : Code} {dC : Nat → ClassId} {dI : Nat → Nat → Nat} {cI cJ cZ : ClassId} {A : Nat → Prop} {a_th a_th_tenths a_th_toldFrom a_th_wayCount : Nat} {th_kind : Int32} {th_penny : Int32} {th_tenths : (Nat → Int32)} {th_seats : Int32} {o : Int32} (C0 : zz_C p s m args meth c cX3_isFree 3 RX3 wsX3_isFree (some .boolean)) (hE : zz_EV (dC, dI) (zz_T cI cJ cZ) s) (hA : ∀ q : Nat, s.heap.size ≤ q → A q) {p0 : Int32} {p1 : Int32} (h : zf_X3_isFree p0 p1 th_tenths th_seats = some o) : ∀ (H : Heap) (locs : List Loc) (ls : Array Slot), va_P (dC, dI) vwCl [(a_th, .inr (3, [.ref a_th_tenths, .ref a_th_toldFrom, .ref a_th_wayCount, .int th_seats, .int th_kind, .int th_penny])), (a_th_tenths, .inl (cI, 64, .inl th_tenths))] H → va_D A [(a_th, .inr (3, [.ref a_th_tenths, .ref a_th_toldFrom, .ref a_th_wayCount, .int th_seats, .int th_kind, .int th_penny])), (a_th_tenths, .inl (cI, 64, .inl th_tenths))] → va_S A s.heap H locs → lv_has ls 3 [(0, .ref a_th), (1, .int p0), (2, .int p1)] → W p l e { frames := 2, cells := 0, slots := 0, locals := 43 } s m args below meth c H locs 0 0 (MQ below (zz_QI (dC, dI) (zz_T cI cJ cZ) A (fun _ : Unit => [(a_th, .inr (3, [.ref a_th_tenths, .ref a_th_toldFrom, .ref a_th_wayCount, .int th_seats, .int th_kind, .int th_penny])), (a_th_tenths, .inl (cI, 64, .inl th_tenths))]) o) args s 0 0 A) (F0 m 0 ls []) := by
  obtain ⟨⟨hx, hb, hml, hown, hts⟩, hr, hlocks⟩ := id C0
  unfold zf_X3_isFree at h
  intro H locs ls hP hD hS hl
  refine lv_aload_n hx hb dX3_isFree_0 rfl (lv_at hl 0 rfl) ?_
  refine lv_iload_n hx hb dX3_isFree_1 rfl (lv_at hl 1 rfl) ?_
  obtain ⟨x_1, hcl_2, h⟩ := zz_bd h
  refine zk_ci (wr := [(a_th_tenths, .inl (cI, 64, .inl th_tenths))]) (va_runV (As := [.int p0]) (rest := []) C0.1 (zc_X3_has l dC dI cI cJ cZ _ a_th a_th_tenths a_th_toldFrom a_th_wayCount th_kind th_penny th_seats p0 hcl_2) (cwV 1 hts gX3_isFree_X3_has rfl rfl rfl (by decide +kernel) ⟨Nat.le_of_ble_eq_true rfl, Nat.le_of_ble_eq_true rfl⟩) (zz_preV (wc := [(a_th, .inr (3, [.ref a_th_tenths, .ref a_th_toldFrom, .ref a_th_wayCount, .int th_seats, .int th_kind, .int th_penny]))]) hE hP hD [0] rfl rfl (by decide) (ci := 3) rfl rfl) rfl rfl hl.1 rfl (lv_room (Nat.le_of_ble_eq_true rfl)) dX3_isFree_2 ⟨Nat.zero_le _, Nat.zero_le _⟩) hP hD hS hA [0] [1] rfl rfl (by decide) (by decide) (fun u H locs hP hD hS => ?_)
  have hP : va_P (dC, dI) vwCl [(a_th_tenths, .inl (cI, 64, .inl th_tenths)), (a_th, .inr (3, [.ref a_th_tenths, .ref a_th_toldFrom, .ref a_th_wayCount, .int th_seats, .int th_kind, .int th_penny]))] H := hP
  have hD : va_D A [(a_th_tenths, .inl (cI, 64, .inl th_tenths)), (a_th, .inr (3, [.ref a_th_tenths, .ref a_th_toldFrom, .ref a_th_wayCount, .int th_seats, .int th_kind, .int th_penny]))] := hD
  refine lv_if_eq (tgt := 34) hx hb dX3_isFree_5 (by decide) (fun hc_3 => ?_) (fun hc_3 => ?_)
  · have h := zz_t hc_3 h
    refine lv_iconst (v := (0 : Int32)) hx hb dX3_isFree_34 (by decide) ?_
    obtain rfl := Option.some.inj h
    exact zk_zret hx hb hr hlocks rfl hE () (hP.sub [1, 0] rfl) (hD.sub [1, 0] (by decide) rfl) hS rfl dX3_isFree_35
  have h := zz_f hc_3 h
  refine lv_aload_n hx hb dX3_isFree_8 rfl (lv_at hl 0 rfl) ?_
  refine lv_iload_n hx hb dX3_isFree_9 rfl (lv_at hl 2 rfl) ?_
  obtain ⟨x_4, hcl_5, h⟩ := zz_bd h
  refine zk_ci (wr := [(a_th_tenths, .inl (cI, 64, .inl th_tenths))]) (va_runV (As := [.int p1]) (rest := []) C0.1 (zc_X3_has l dC dI cI cJ cZ _ a_th a_th_tenths a_th_toldFrom a_th_wayCount th_kind th_penny th_seats p1 hcl_5) (cwV 1 hts gX3_isFree_X3_has rfl rfl rfl (by decide +kernel) ⟨Nat.le_of_ble_eq_true rfl, Nat.le_of_ble_eq_true rfl⟩) (zz_preV (wc := [(a_th, .inr (3, [.ref a_th_tenths, .ref a_th_toldFrom, .ref a_th_wayCount, .int th_seats, .int th_kind, .int th_penny]))]) hE hP hD [1] rfl rfl (by decide) (ci := 3) rfl rfl) rfl rfl hl.1 rfl (lv_room (Nat.le_of_ble_eq_true rfl)) dX3_isFree_10 ⟨Nat.zero_le _, Nat.zero_le _⟩) hP hD hS hA [1] [0] rfl rfl (by decide) (by decide) (fun u H locs hP hD hS => ?_)
  have hP : va_P (dC, dI) vwCl [(a_th_tenths, .inl (cI, 64, .inl th_tenths)), (a_th, .inr (3, [.ref a_th_tenths, .ref a_th_toldFrom, .ref a_th_wayCount, .int th_seats, .int th_kind, .int th_penny]))] H := hP
  have hD : va_D A [(a_th_tenths, .inl (cI, 64, .inl th_tenths)), (a_th, .inr (3, [.ref a_th_tenths, .ref a_th_toldFrom, .ref a_th_wayCount, .int th_seats, .int th_kind, .int th_penny]))] := hD
  refine lv_if_eq (tgt := 34) hx hb dX3_isFree_13 (by decide) (fun hc_6 => ?_) (fun hc_6 => ?_)
  · have h := zz_t hc_6 h
    refine lv_iconst (v := (0 : Int32)) hx hb dX3_isFree_34 (by decide) ?_
    obtain rfl := Option.some.inj h
    exact zk_zret hx hb hr hlocks rfl hE () (hP.sub [1, 0] rfl) (hD.sub [1, 0] (by decide) rfl) hS rfl dX3_isFree_35
  have h := zz_f hc_6 h
  refine lv_iload_n hx hb dX3_isFree_16 rfl (lv_at hl 1 rfl) ?_
  refine lv_iload_n hx hb dX3_isFree_17 rfl (lv_at hl 2 rfl) ?_
  refine lv_icmp_eq (tgt := 34) hx hb dX3_isFree_18 (by decide) (fun hc_7 => ?_) (fun hc_7 => ?_)
  · have h := zz_t hc_7 h
    refine lv_iconst (v := (0 : Int32)) hx hb dX3_isFree_34 (by decide) ?_
    obtain rfl := Option.some.inj h
    exact zk_zret hx hb hr hlocks rfl hE () (hP.sub [1, 0] rfl) (hD.sub [1, 0] (by decide) rfl) hS rfl dX3_isFree_35
  have h := zz_f hc_7 h
  refine lv_aload_n hx hb dX3_isFree_21 rfl (lv_at hl 0 rfl) ?_
  refine lv_iload_n hx hb dX3_isFree_22 rfl (lv_at hl 1 rfl) ?_
  refine lv_iload_n hx hb dX3_isFree_23 rfl (lv_at hl 2 rfl) ?_
  obtain ⟨x_8, hcl_9, h⟩ := zz_bd h
  refine zk_ci (wr := []) (va_runV (As := [.int p0, .int p1]) (rest := []) C0.1 (zc_X3_tenthsOf l dC dI cI cJ cZ _ a_th a_th_tenths a_th_toldFrom a_th_wayCount th_kind th_penny th_tenths th_seats p0 p1 hcl_9) (cwV 2 hts gX3_isFree_X3_tenthsOf rfl rfl rfl (by decide +kernel) ⟨Nat.le_of_ble_eq_true rfl, Nat.le_of_ble_eq_true rfl⟩) (zz_preV (wc := [(a_th, .inr (3, [.ref a_th_tenths, .ref a_th_toldFrom, .ref a_th_wayCount, .int th_seats, .int th_kind, .int th_penny])), (a_th_tenths, .inl (cI, 64, .inl th_tenths))]) hE hP hD [1, 0] rfl rfl (by decide) (ci := 3) rfl rfl) rfl rfl hl.1 rfl (lv_room (Nat.le_of_ble_eq_true rfl)) dX3_isFree_24 ⟨Nat.zero_le _, Nat.zero_le _⟩) hP hD hS hA [1, 0] [] rfl rfl (by decide) (by decide) (fun u H locs hP hD hS => ?_)
  have hP : va_P (dC, dI) vwCl [(a_th, .inr (3, [.ref a_th_tenths, .ref a_th_toldFrom, .ref a_th_wayCount, .int th_seats, .int th_kind, .int th_penny])), (a_th_tenths, .inl (cI, 64, .inl th_tenths))] H := hP
  have hD : va_D A [(a_th, .inr (3, [.ref a_th_tenths, .ref a_th_toldFrom, .ref a_th_wayCount, .int th_seats, .int th_kind, .int th_penny])), (a_th_tenths, .inl (cI, 64, .inl th_tenths))] := hD
  refine lv_if_ne (tgt := 34) hx hb dX3_isFree_27 (by decide) (fun hc_10 => ?_) (fun hc_10 => ?_)
  · have h := zz_f hc_10 h
    refine lv_iconst (v := (0 : Int32)) hx hb dX3_isFree_34 (by decide) ?_
    obtain rfl := Option.some.inj h
    exact zk_zret hx hb hr hlocks rfl hE () hP hD hS rfl dX3_isFree_35
  have h := zz_t hc_10 h
  refine lv_iconst (v := (1 : Int32)) hx hb dX3_isFree_30 (by decide) ?_
  refine lv_goto (tgt := 35) hx hb dX3_isFree_31 (by decide) ?_
  obtain rfl := Option.some.inj h
  exact zk_zret hx hb hr hlocks rfl hE () hP hD hS rfl dX3_isFree_35
set_option maxHeartbeats 4000000 in
set_option maxRecDepth 100000 in
theorem zc_X3_isFree (l : Launch) (dC : Nat → ClassId) (dI : Nat → Nat → Nat) (cI cJ cZ : ClassId) (sz : Nat) (a_th a_th_tenths a_th_toldFrom a_th_wayCount : Nat) (th_kind : Int32) (th_penny : Int32) (th_tenths : (Nat → Int32)) (th_seats : Int32) (p0 : Int32) (p1 : Int32) {o : Int32} (h : zf_X3_isFree p0 p1 th_tenths th_seats = some o) : Met l yX3_isFree wsX3_isFree { frames := 2, cells := 0, slots := 0, locals := 43 } (zz_PC (dC, dI) (zz_T cI cJ cZ) [.ref a_th, .int p0, .int p1] sz [(a_th, .inr (3, [.ref a_th_tenths, .ref a_th_toldFrom, .ref a_th_wayCount, .int th_seats, .int th_kind, .int th_penny])), (a_th_tenths, .inl (cI, 64, .inl th_tenths))]) (zz_QI (dC, dI) (zz_T cI cJ cZ) (va_A [(a_th, .inr (3, [.ref a_th_tenths, .ref a_th_toldFrom, .ref a_th_wayCount, .int th_seats, .int th_kind, .int th_penny])), (a_th_tenths, .inl (cI, 64, .inl th_tenths))] sz) (fun _ : Unit => [(a_th, .inr (3, [.ref a_th_tenths, .ref a_th_toldFrom, .ref a_th_wayCount, .int th_seats, .int th_kind, .int th_penny])), (a_th_tenths, .inl (cI, 64, .inl th_tenths))]) o) 0 0 (va_A [(a_th, .inr (3, [.ref a_th_tenths, .ref a_th_toldFrom, .ref a_th_wayCount, .int th_seats, .int th_kind, .int th_penny])), (a_th_tenths, .inl (cI, 64, .inl th_tenths))] sz) := by
  refine zz_met (own := RX3) (cc := cX3_isFree) (maxL := 3) (ret := some .boolean) (by decide) rfl rfl (Nat.le_of_ble_eq_true rfl) ?_
  intro p e s m below meth c ls hsz C0 hE hin hl hP hD
  subst hsz
  exact zw_X3_isFree C0 hE (fun q hq => Or.inr hq) h _ _ _ hP hD va_S.rf hl
/-! X3_canTell : PlateLast$Net.canTell(II)Z -/
theorem zi_X3_canTell_3 : ∀ w ∈ u_ws RX3 TX3 6, w ∈ wsX3_canTell := by decide +kernel
theorem zl_X3_canTell_1 : Cond.fieldLink RX3 15 "PlateLast$Net" "toldFrom" "[I" ∈ wsX3_canTell := by decide +kernel
theorem zl_X3_canTell_2 : Cond.fieldLink RX3 18 "PlateLast$Net" "wayCount" "[I" ∈ wsX3_canTell := by decide +kernel
theorem zl_X3_canTell_3 : Cond.fieldLink RX3 21 "PlateLast$Net" "seats" "I" ∈ wsX3_canTell := by decide +kernel
set_option maxHeartbeats 4000000 in
set_option maxRecDepth 100000 in
theorem zw_X3_canTell_53 {p : Program} {l : Launch} {e : Env} {s : State} {m : MethodId} {args : Array Value} {below : List Frame} {meth : Method} {c : Code} {dC : Nat → ClassId} {dI : Nat → Nat → Nat} {cI cJ cZ : ClassId} {A : Nat → Prop} {a_th a_th_tenths a_th_toldFrom a_th_wayCount : Nat} {th_kind : Int32} {th_penny : Int32} {th_toldFrom : (Nat → Int32)} {th_wayCount : (Nat → Int32)} {th_seats : Int32} {o : Int32} (C0 : zz_C p s m args meth c cX3_canTell 4 RX3 wsX3_canTell (some .boolean)) (hE : zz_EV (dC, dI) (zz_T cI cJ cZ) s) (hA : ∀ q : Nat, s.heap.size ≤ q → A q) (h : zf_X3_canTell_53 th_toldFrom th_wayCount th_seats = some o) : ∀ (H : Heap) (locs : List Loc) (ls : Array Slot), va_P (dC, dI) vwCl [(a_th, .inr (3, [.ref a_th_tenths, .ref a_th_toldFrom, .ref a_th_wayCount, .int th_seats, .int th_kind, .int th_penny])), (a_th_toldFrom, .inl (cI, 8, .inl th_toldFrom)), (a_th_wayCount, .inl (cI, 8, .inl th_wayCount))] H → va_D A [(a_th, .inr (3, [.ref a_th_tenths, .ref a_th_toldFrom, .ref a_th_wayCount, .int th_seats, .int th_kind, .int th_penny])), (a_th_toldFrom, .inl (cI, 8, .inl th_toldFrom)), (a_th_wayCount, .inl (cI, 8, .inl th_wayCount))] → va_S A s.heap H locs → lv_has ls 4 [] → W p l e { frames := 1, cells := 0, slots := 0, locals := 21 } s m args below meth c H locs 0 0 (MQ below (zz_QI (dC, dI) (zz_T cI cJ cZ) A (fun _ : Unit => [(a_th, .inr (3, [.ref a_th_tenths, .ref a_th_toldFrom, .ref a_th_wayCount, .int th_seats, .int th_kind, .int th_penny])), (a_th_toldFrom, .inl (cI, 8, .inl th_toldFrom)), (a_th_wayCount, .inl (cI, 8, .inl th_wayCount))]) o) args s 0 0 A) (F0 m 53 ls []) := by
  obtain ⟨⟨hx, hb, hml, hown, hts⟩, hr, hlocks⟩ := id C0
  unfold zf_X3_canTell_53 at h
  intro H locs ls hP hD hS hl
  refine lv_iconst (v := (1 : Int32)) hx hb dX3_canTell_53 (by decide) ?_
  refine lv_goto (tgt := 58) hx hb dX3_canTell_54 (by decide) ?_
  obtain rfl := Option.some.inj h
  exact zk_zret hx hb hr hlocks rfl hE () hP hD hS rfl dX3_canTell_58
set_option maxHeartbeats 4000000 in
set_option maxRecDepth 100000 in
theorem zw_X3_canTell {p : Program} {l : Launch} {e : Env} {s : State} {m : MethodId} {args : Array Value} {below : List Frame} {meth : Method} {c : Code} {dC : Nat → ClassId} {dI : Nat → Nat → Nat} {cI cJ cZ : ClassId} {A : Nat → Prop} {a_th a_th_tenths a_th_toldFrom a_th_wayCount : Nat} {th_kind : Int32} {th_penny : Int32} {th_toldFrom : (Nat → Int32)} {th_wayCount : (Nat → Int32)} {th_seats : Int32} {o : Int32} (C0 : zz_C p s m args meth c cX3_canTell 4 RX3 wsX3_canTell (some .boolean)) (hE : zz_EV (dC, dI) (zz_T cI cJ cZ) s) (hA : ∀ q : Nat, s.heap.size ≤ q → A q) {p0 : Int32} {p1 : Int32} (h : zf_X3_canTell p0 p1 th_toldFrom th_wayCount th_seats = some o) : ∀ (H : Heap) (locs : List Loc) (ls : Array Slot), va_P (dC, dI) vwCl [(a_th, .inr (3, [.ref a_th_tenths, .ref a_th_toldFrom, .ref a_th_wayCount, .int th_seats, .int th_kind, .int th_penny])), (a_th_toldFrom, .inl (cI, 8, .inl th_toldFrom)), (a_th_wayCount, .inl (cI, 8, .inl th_wayCount))] H → va_D A [(a_th, .inr (3, [.ref a_th_tenths, .ref a_th_toldFrom, .ref a_th_wayCount, .int th_seats, .int th_kind, .int th_penny])), (a_th_toldFrom, .inl (cI, 8, .inl th_toldFrom)), (a_th_wayCount, .inl (cI, 8, .inl th_wayCount))] → va_S A s.heap H locs → lv_has ls 4 [(0, .ref a_th), (1, .int p0), (2, .int p1)] → W p l e { frames := 1, cells := 0, slots := 0, locals := 21 } s m args below meth c H locs 0 0 (MQ below (zz_QI (dC, dI) (zz_T cI cJ cZ) A (fun _ : Unit => [(a_th, .inr (3, [.ref a_th_tenths, .ref a_th_toldFrom, .ref a_th_wayCount, .int th_seats, .int th_kind, .int th_penny])), (a_th_toldFrom, .inl (cI, 8, .inl th_toldFrom)), (a_th_wayCount, .inl (cI, 8, .inl th_wayCount))]) o) args s 0 0 A) (F0 m 0 ls []) := by
  obtain ⟨⟨hx, hb, hml, hown, hts⟩, hr, hlocks⟩ := id C0
  unfold zf_X3_canTell at h
  intro H locs ls hP hD hS hl
  refine lv_aload_n hx hb dX3_canTell_0 rfl (lv_at hl 0 rfl) ?_
  refine lv_iload_n hx hb dX3_canTell_1 rfl (lv_at hl 1 rfl) ?_
  obtain ⟨x_1, hcl_2, h⟩ := zz_bd h
  refine zk_ci (wr := [(a_th_toldFrom, .inl (cI, 8, .inl th_toldFrom)), (a_th_wayCount, .inl (cI, 8, .inl th_wayCount))]) (va_runV (As := [.int p0]) (rest := []) C0.1 (zc_X3_has l dC dI cI cJ cZ _ a_th a_th_tenths a_th_toldFrom a_th_wayCount th_kind th_penny th_seats p0 hcl_2) (cwV 1 hts gX3_canTell_X3_has rfl rfl rfl (by decide +kernel) ⟨Nat.le_of_ble_eq_true rfl, Nat.le_of_ble_eq_true rfl⟩) (zz_preV (wc := [(a_th, .inr (3, [.ref a_th_tenths, .ref a_th_toldFrom, .ref a_th_wayCount, .int th_seats, .int th_kind, .int th_penny]))]) hE hP hD [0] rfl rfl (by decide) (ci := 3) rfl rfl) rfl rfl hl.1 rfl (lv_room (Nat.le_of_ble_eq_true rfl)) dX3_canTell_2 ⟨Nat.zero_le _, Nat.zero_le _⟩) hP hD hS hA [0] [1, 2] rfl rfl (by decide) (by decide) (fun u H locs hP hD hS => ?_)
  have hP : va_P (dC, dI) vwCl [(a_th_toldFrom, .inl (cI, 8, .inl th_toldFrom)), (a_th_wayCount, .inl (cI, 8, .inl th_wayCount)), (a_th, .inr (3, [.ref a_th_tenths, .ref a_th_toldFrom, .ref a_th_wayCount, .int th_seats, .int th_kind, .int th_penny]))] H := hP
  have hD : va_D A [(a_th_toldFrom, .inl (cI, 8, .inl th_toldFrom)), (a_th_wayCount, .inl (cI, 8, .inl th_wayCount)), (a_th, .inr (3, [.ref a_th_tenths, .ref a_th_toldFrom, .ref a_th_wayCount, .int th_seats, .int th_kind, .int th_penny]))] := hD
  refine lv_if_eq (tgt := 13) hx hb dX3_canTell_5 (by decide) (fun hc_3 => ?_) (fun hc_3 => ?_)
  · have h := zz_t hc_3 h
    refine lv_iconst (v := (0 : Int32)) hx hb dX3_canTell_13 (by decide) ?_
    obtain rfl := Option.some.inj h
    exact zk_zret hx hb hr hlocks rfl hE () (hP.sub [2, 0, 1] rfl) (hD.sub [2, 0, 1] (by decide) rfl) hS rfl dX3_canTell_14
  have h := zz_f hc_3 h
  refine lv_iload_n hx hb dX3_canTell_8 rfl (lv_at hl 2 rfl) ?_
  refine lv_iconst (v := (1 : Int32)) hx hb dX3_canTell_9 (by decide) ?_
  refine lv_icmp_ge (tgt := 15) hx hb dX3_canTell_10 (by decide) (fun hc_4 => ?_) (fun hc_4 => ?_)
  · have h := zz_t hc_4 h
    refine lv_aload_n hx hb dX3_canTell_15 rfl (lv_at hl 0 rfl) ?_
    refine va_get (D := (dC, dI)) (ci := 3) (v := .ref a_th_toldFrom) (C := RX3) (T := TX3) (N := 6) hx hb hts zi_X3_canTell_3 hown hE.1 hP 2 rfl rfl 1 (by decide) (hts _ zl_X3_canTell_1) (fun _ h9 => h9) rfl dX3_canTell_16 ?_
    refine lv_iload_n hx hb dX3_canTell_19 rfl (lv_at hl 1 rfl) ?_
    obtain ⟨hin_5, h⟩ := zz_nn h
    refine va_iald hx hb hE.1 hP 0 0 rfl rfl hin_5 dX3_canTell_20 ?_
    refine lv_iload_n hx hb dX3_canTell_21 rfl (lv_at hl 2 rfl) ?_
    refine lv_iadd hx hb dX3_canTell_22 ?_
    refine lv_istore_n (lv' := [(3, .int ((th_toldFrom (p0).toNatClampNeg) + p1)), (0, .ref a_th), (1, .int p0), (2, .int p1)]) hx hb dX3_canTell_23 rfl hl (by decide) rfl (fun ls hl => ?_)
    refine lv_iload_n hx hb dX3_canTell_24 rfl (lv_at hl 0 rfl) ?_
    refine lv_bipush (v := (10 : Int32)) hx hb dX3_canTell_25 (by decide) ?_
    refine lv_icmp_eq (tgt := 53) hx hb dX3_canTell_27 (by decide) (fun hc_6 => ?_) (fun hc_6 => ?_)
    · have h := zz_t hc_6 h
      exact zw_X3_canTell_53 C0 hE hA  h _ _ _ (hP.sub [2, 0, 1] rfl) (hD.sub [2, 0, 1] (by decide) rfl) hS (lv_sub hl [] rfl)
    have h := zz_f hc_6 h
    refine lv_iload_n hx hb dX3_canTell_30 rfl (lv_at hl 0 rfl) ?_
    refine lv_bipush (v := (10 : Int32)) hx hb dX3_canTell_31 (by decide) ?_
    refine lv_icmp_ge (tgt := 57) hx hb dX3_canTell_33 (by decide) (fun hc_7 => ?_) (fun hc_7 => ?_)
    · have h := zz_t hc_7 h
      refine lv_iconst (v := (0 : Int32)) hx hb dX3_canTell_57 (by decide) ?_
      obtain rfl := Option.some.inj h
      exact zk_zret hx hb hr hlocks rfl hE () (hP.sub [2, 0, 1] rfl) (hD.sub [2, 0, 1] (by decide) rfl) hS rfl dX3_canTell_58
    have h := zz_f hc_7 h
    refine lv_aload_n hx hb dX3_canTell_36 rfl (lv_at hl 1 rfl) ?_
    refine va_get (D := (dC, dI)) (ci := 3) (v := .ref a_th_wayCount) (C := RX3) (T := TX3) (N := 6) hx hb hts zi_X3_canTell_3 hown hE.1 hP 2 rfl rfl 2 (by decide) (hts _ zl_X3_canTell_2) (fun _ h9 => h9) rfl dX3_canTell_37 ?_
    refine lv_iload_n hx hb dX3_canTell_40 rfl (lv_at hl 2 rfl) ?_
    refine va_iald hx hb hE.1 hP 1 0 rfl rfl hin_5 dX3_canTell_41 ?_
    refine lv_iconst (v := (1 : Int32)) hx hb dX3_canTell_42 (by decide) ?_
    refine lv_iadd hx hb dX3_canTell_43 ?_
    refine lv_aload_n hx hb dX3_canTell_44 rfl (lv_at hl 1 rfl) ?_
    refine va_get (D := (dC, dI)) (ci := 3) (v := .int th_seats) (C := RX3) (T := TX3) (N := 6) hx hb hts zi_X3_canTell_3 hown hE.1 hP 2 rfl rfl 3 (by decide) (hts _ zl_X3_canTell_3) (fun _ h9 => h9) rfl dX3_canTell_45 ?_
    refine lv_iconst (v := (1 : Int32)) hx hb dX3_canTell_48 (by decide) ?_
    refine lv_isub hx hb dX3_canTell_49 ?_
    refine lv_icmp_ge (tgt := 57) hx hb dX3_canTell_50 (by decide) (fun hc_8 => ?_) (fun hc_8 => ?_)
    · have h := zz_t hc_8 h
      refine lv_iconst (v := (0 : Int32)) hx hb dX3_canTell_57 (by decide) ?_
      obtain rfl := Option.some.inj h
      exact zk_zret hx hb hr hlocks rfl hE () (hP.sub [2, 0, 1] rfl) (hD.sub [2, 0, 1] (by decide) rfl) hS rfl dX3_canTell_58
    have h := zz_f hc_8 h
    exact zw_X3_canTell_53 C0 hE hA  h _ _ _ (hP.sub [2, 0, 1] rfl) (hD.sub [2, 0, 1] (by decide) rfl) hS (lv_sub hl [] rfl)
  have h := zz_f hc_4 h
  refine lv_iconst (v := (0 : Int32)) hx hb dX3_canTell_13 (by decide) ?_
  obtain rfl := Option.some.inj h
  exact zk_zret hx hb hr hlocks rfl hE () (hP.sub [2, 0, 1] rfl) (hD.sub [2, 0, 1] (by decide) rfl) hS rfl dX3_canTell_14
set_option maxHeartbeats 4000000 in
set_option maxRecDepth 100000 in
theorem zc_X3_canTell (l : Launch) (dC : Nat → ClassId) (dI : Nat → Nat → Nat) (cI cJ cZ : ClassId) (sz : Nat) (a_th a_th_tenths a_th_toldFrom a_th_wayCount : Nat) (th_kind : Int32) (th_penny : Int32) (th_toldFrom : (Nat → Int32)) (th_wayCount : (Nat → Int32)) (th_seats : Int32) (p0 : Int32) (p1 : Int32) {o : Int32} (h : zf_X3_canTell p0 p1 th_toldFrom th_wayCount th_seats = some o) : Met l yX3_canTell wsX3_canTell { frames := 1, cells := 0, slots := 0, locals := 21 } (zz_PC (dC, dI) (zz_T cI cJ cZ) [.ref a_th, .int p0, .int p1] sz [(a_th, .inr (3, [.ref a_th_tenths, .ref a_th_toldFrom, .ref a_th_wayCount, .int th_seats, .int th_kind, .int th_penny])), (a_th_toldFrom, .inl (cI, 8, .inl th_toldFrom)), (a_th_wayCount, .inl (cI, 8, .inl th_wayCount))]) (zz_QI (dC, dI) (zz_T cI cJ cZ) (va_A [(a_th, .inr (3, [.ref a_th_tenths, .ref a_th_toldFrom, .ref a_th_wayCount, .int th_seats, .int th_kind, .int th_penny])), (a_th_toldFrom, .inl (cI, 8, .inl th_toldFrom)), (a_th_wayCount, .inl (cI, 8, .inl th_wayCount))] sz) (fun _ : Unit => [(a_th, .inr (3, [.ref a_th_tenths, .ref a_th_toldFrom, .ref a_th_wayCount, .int th_seats, .int th_kind, .int th_penny])), (a_th_toldFrom, .inl (cI, 8, .inl th_toldFrom)), (a_th_wayCount, .inl (cI, 8, .inl th_wayCount))]) o) 0 0 (va_A [(a_th, .inr (3, [.ref a_th_tenths, .ref a_th_toldFrom, .ref a_th_wayCount, .int th_seats, .int th_kind, .int th_penny])), (a_th_toldFrom, .inl (cI, 8, .inl th_toldFrom)), (a_th_wayCount, .inl (cI, 8, .inl th_wayCount))] sz) := by
  refine zz_met (own := RX3) (cc := cX3_canTell) (maxL := 4) (ret := some .boolean) (by decide) rfl rfl (Nat.le_of_ble_eq_true rfl) ?_
  intro p e s m below meth c ls hsz C0 hE hin hl hP hD
  subst hsz
  exact zw_X3_canTell C0 hE (fun q hq => Or.inr hq) h _ _ _ hP hD va_S.rf hl
/-! X3_isWhole : PlateLast$Net.isWhole()Z -/
theorem zi_X3_isWhole_3 : ∀ w ∈ u_ws RX3 TX3 6, w ∈ wsX3_isWhole := by decide +kernel
theorem zl_X3_isWhole_1 : Cond.fieldLink RX3 21 "PlateLast$Net" "seats" "I" ∈ wsX3_isWhole := by decide +kernel
theorem zl_X3_isWhole_2 : Cond.fieldLink RX3 15 "PlateLast$Net" "toldFrom" "[I" ∈ wsX3_isWhole := by decide +kernel
set_option maxHeartbeats 4000000 in
set_option maxRecDepth 100000 in
theorem zw_X3_isWhole_40 {p : Program} {l : Launch} {e : Env} {s : State} {m : MethodId} {args : Array Value} {below : List Frame} {meth : Method} {c : Code} {dC : Nat → ClassId} {dI : Nat → Nat → Nat} {cI cJ cZ : ClassId} {A : Nat → Prop} {a_th a_th_tenths a_th_toldFrom a_th_wayCount : Nat} {th_kind : Int32} {th_penny : Int32} {th_toldFrom : (Nat → Int32)} {th_seats : Int32} {o : Int32} (C0 : zz_C p s m args meth c cX3_isWhole 2 RX3 wsX3_isWhole (some .boolean)) (hE : zz_EV (dC, dI) (zz_T cI cJ cZ) s) (hA : ∀ q : Nat, s.heap.size ≤ q → A q) (k2 : Int32 → Option (Int32)) (hk2 : ∀ (v1 : Int32), k2 v1 = some o → ∀ (H : Heap) (locs : List Loc) (ls : Array Slot), va_P (dC, dI) vwCl [(a_th, .inr (3, [.ref a_th_tenths, .ref a_th_toldFrom, .ref a_th_wayCount, .int th_seats, .int th_kind, .int th_penny])), (a_th_toldFrom, .inl (cI, 8, .inl th_toldFrom))] H → va_D A [(a_th, .inr (3, [.ref a_th_tenths, .ref a_th_toldFrom, .ref a_th_wayCount, .int th_seats, .int th_kind, .int th_penny])), (a_th_toldFrom, .inl (cI, 8, .inl th_toldFrom))] → va_S A s.heap H locs → lv_has ls 2 [(0, .ref a_th), (1, .int v1)] → W p l e { frames := 1, cells := 0, slots := 0, locals := 21 } s m args below meth c H locs 0 0 (MQ below (zz_QI (dC, dI) (zz_T cI cJ cZ) A (fun _ : Unit => [(a_th, .inr (3, [.ref a_th_tenths, .ref a_th_toldFrom, .ref a_th_wayCount, .int th_seats, .int th_kind, .int th_penny])), (a_th_toldFrom, .inl (cI, 8, .inl th_toldFrom))]) o) args s 0 0 A) (F0 m 2 ls [])) {v1 : Int32} (h : zf_X3_isWhole_40 th_toldFrom th_seats k2 v1 = some o) : ∀ (H : Heap) (locs : List Loc) (ls : Array Slot), va_P (dC, dI) vwCl [(a_th, .inr (3, [.ref a_th_tenths, .ref a_th_toldFrom, .ref a_th_wayCount, .int th_seats, .int th_kind, .int th_penny])), (a_th_toldFrom, .inl (cI, 8, .inl th_toldFrom))] H → va_D A [(a_th, .inr (3, [.ref a_th_tenths, .ref a_th_toldFrom, .ref a_th_wayCount, .int th_seats, .int th_kind, .int th_penny])), (a_th_toldFrom, .inl (cI, 8, .inl th_toldFrom))] → va_S A s.heap H locs → lv_has ls 2 [(0, .ref a_th), (1, .int v1)] → W p l e { frames := 1, cells := 0, slots := 0, locals := 21 } s m args below meth c H locs 0 0 (MQ below (zz_QI (dC, dI) (zz_T cI cJ cZ) A (fun _ : Unit => [(a_th, .inr (3, [.ref a_th_tenths, .ref a_th_toldFrom, .ref a_th_wayCount, .int th_seats, .int th_kind, .int th_penny])), (a_th_toldFrom, .inl (cI, 8, .inl th_toldFrom))]) o) args s 0 0 A) (F0 m 40 ls []) := by
  obtain ⟨⟨hx, hb, hml, hown, hts⟩, hr, hlocks⟩ := id C0
  unfold zf_X3_isWhole_40 at h
  intro H locs ls hP hD hS hl
  refine lv_iinc (v := (v1 + (1 : Int32))) (lv' := [(1, .int (v1 + (1 : Int32))), (0, .ref a_th)]) hx hb dX3_isWhole_40 hl (k := 1) rfl rfl (by decide) rfl (fun ls hl => ?_)
  refine lv_goto (tgt := 2) hx hb dX3_isWhole_43 (by decide) ?_
  exact hk2 (v1 + (1 : Int32)) h _ _ _ hP hD hS (lv_sub hl [1, 0] rfl)
set_option maxHeartbeats 4000000 in
set_option maxRecDepth 100000 in
theorem zw_X3_isWhole_2_b {p : Program} {l : Launch} {e : Env} {s : State} {m : MethodId} {args : Array Value} {below : List Frame} {meth : Method} {c : Code} {dC : Nat → ClassId} {dI : Nat → Nat → Nat} {cI cJ cZ : ClassId} {A : Nat → Prop} {a_th a_th_tenths a_th_toldFrom a_th_wayCount : Nat} {th_kind : Int32} {th_penny : Int32} {th_toldFrom : (Nat → Int32)} {th_seats : Int32} {o : Int32} (C0 : zz_C p s m args meth c cX3_isWhole 2 RX3 wsX3_isWhole (some .boolean)) (hE : zz_EV (dC, dI) (zz_T cI cJ cZ) s) (hA : ∀ q : Nat, s.heap.size ≤ q → A q) (k2 : Int32 → Option (Int32)) (hk2 : ∀ (v1 : Int32), k2 v1 = some o → ∀ (H : Heap) (locs : List Loc) (ls : Array Slot), va_P (dC, dI) vwCl [(a_th, .inr (3, [.ref a_th_tenths, .ref a_th_toldFrom, .ref a_th_wayCount, .int th_seats, .int th_kind, .int th_penny])), (a_th_toldFrom, .inl (cI, 8, .inl th_toldFrom))] H → va_D A [(a_th, .inr (3, [.ref a_th_tenths, .ref a_th_toldFrom, .ref a_th_wayCount, .int th_seats, .int th_kind, .int th_penny])), (a_th_toldFrom, .inl (cI, 8, .inl th_toldFrom))] → va_S A s.heap H locs → lv_has ls 2 [(0, .ref a_th), (1, .int v1)] → W p l e { frames := 1, cells := 0, slots := 0, locals := 21 } s m args below meth c H locs 0 0 (MQ below (zz_QI (dC, dI) (zz_T cI cJ cZ) A (fun _ : Unit => [(a_th, .inr (3, [.ref a_th_tenths, .ref a_th_toldFrom, .ref a_th_wayCount, .int th_seats, .int th_kind, .int th_penny])), (a_th_toldFrom, .inl (cI, 8, .inl th_toldFrom))]) o) args s 0 0 A) (F0 m 2 ls [])) {v1 : Int32} (h : zf_X3_isWhole_2_b th_toldFrom th_seats k2 v1 = some o) : ∀ (H : Heap) (locs : List Loc) (ls : Array Slot), va_P (dC, dI) vwCl [(a_th, .inr (3, [.ref a_th_tenths, .ref a_th_toldFrom, .ref a_th_wayCount, .int th_seats, .int th_kind, .int th_penny])), (a_th_toldFrom, .inl (cI, 8, .inl th_toldFrom))] H → va_D A [(a_th, .inr (3, [.ref a_th_tenths, .ref a_th_toldFrom, .ref a_th_wayCount, .int th_seats, .int th_kind, .int th_penny])), (a_th_toldFrom, .inl (cI, 8, .inl th_toldFrom))] → va_S A s.heap H locs → lv_has ls 2 [(0, .ref a_th), (1, .int v1)] → W p l e { frames := 1, cells := 0, slots := 0, locals := 21 } s m args below meth c H locs 0 0 (MQ below (zz_QI (dC, dI) (zz_T cI cJ cZ) A (fun _ : Unit => [(a_th, .inr (3, [.ref a_th_tenths, .ref a_th_toldFrom, .ref a_th_wayCount, .int th_seats, .int th_kind, .int th_penny])), (a_th_toldFrom, .inl (cI, 8, .inl th_toldFrom))]) o) args s 0 0 A) (F0 m 2 ls []) := by
  obtain ⟨⟨hx, hb, hml, hown, hts⟩, hr, hlocks⟩ := id C0
  unfold zf_X3_isWhole_2_b at h
  intro H locs ls hP hD hS hl
  refine lv_iload_n hx hb dX3_isWhole_2 rfl (lv_at hl 1 rfl) ?_
  refine lv_aload_n hx hb dX3_isWhole_3 rfl (lv_at hl 0 rfl) ?_
  refine va_get (D := (dC, dI)) (ci := 3) (v := .int th_seats) (C := RX3) (T := TX3) (N := 6) hx hb hts zi_X3_isWhole_3 hown hE.1 hP 0 rfl rfl 3 (by decide) (hts _ zl_X3_isWhole_1) (fun _ h9 => h9) rfl dX3_isWhole_4 ?_
  refine lv_icmp_ge (tgt := 46) hx hb dX3_isWhole_7 (by decide) (fun hc_1 => ?_) (fun hc_1 => ?_)
  · have h := zz_t hc_1 h
    refine lv_iconst (v := (1 : Int32)) hx hb dX3_isWhole_46 (by decide) ?_
    obtain rfl := Option.some.inj h
    exact zk_zret hx hb hr hlocks rfl hE () hP hD hS rfl dX3_isWhole_47
  have h := zz_f hc_1 h
  refine lv_aload_n hx hb dX3_isWhole_10 rfl (lv_at hl 0 rfl) ?_
  refine lv_iload_n hx hb dX3_isWhole_11 rfl (lv_at hl 1 rfl) ?_
  obtain ⟨x_2, hcl_3, h⟩ := zz_bd h
  refine zk_ci (wr := [(a_th_toldFrom, .inl (cI, 8, .inl th_toldFrom))]) (va_runV (As := [.int v1]) (rest := []) C0.1 (zc_X3_has l dC dI cI cJ cZ _ a_th a_th_tenths a_th_toldFrom a_th_wayCount th_kind th_penny th_seats v1 hcl_3) (cwV 1 hts gX3_isWhole_X3_has rfl rfl rfl (by decide +kernel) ⟨Nat.le_of_ble_eq_true rfl, Nat.le_of_ble_eq_true rfl⟩) (zz_preV (wc := [(a_th, .inr (3, [.ref a_th_tenths, .ref a_th_toldFrom, .ref a_th_wayCount, .int th_seats, .int th_kind, .int th_penny]))]) hE hP hD [0] rfl rfl (by decide) (ci := 3) rfl rfl) rfl rfl hl.1 rfl (lv_room (Nat.le_of_ble_eq_true rfl)) dX3_isWhole_12 ⟨Nat.zero_le _, Nat.zero_le _⟩) hP hD hS hA [0] [1] rfl rfl (by decide) (by decide) (fun u H locs hP hD hS => ?_)
  have hP : va_P (dC, dI) vwCl [(a_th_toldFrom, .inl (cI, 8, .inl th_toldFrom)), (a_th, .inr (3, [.ref a_th_tenths, .ref a_th_toldFrom, .ref a_th_wayCount, .int th_seats, .int th_kind, .int th_penny]))] H := hP
  have hD : va_D A [(a_th_toldFrom, .inl (cI, 8, .inl th_toldFrom)), (a_th, .inr (3, [.ref a_th_tenths, .ref a_th_toldFrom, .ref a_th_wayCount, .int th_seats, .int th_kind, .int th_penny]))] := hD
  refine lv_if_eq (tgt := 40) hx hb dX3_isWhole_15 (by decide) (fun hc_4 => ?_) (fun hc_4 => ?_)
  · have h := zz_t hc_4 h
    exact zw_X3_isWhole_40 C0 hE hA k2 hk2 h _ _ _ (hP.sub [1, 0] rfl) (hD.sub [1, 0] (by decide) rfl) hS hl
  have h := zz_f hc_4 h
  refine lv_aload_n hx hb dX3_isWhole_18 rfl (lv_at hl 0 rfl) ?_
  refine va_get (D := (dC, dI)) (ci := 3) (v := .ref a_th_toldFrom) (C := RX3) (T := TX3) (N := 6) hx hb hts zi_X3_isWhole_3 hown hE.1 hP 1 rfl rfl 1 (by decide) (hts _ zl_X3_isWhole_2) (fun _ h9 => h9) rfl dX3_isWhole_19 ?_
  refine lv_iload_n hx hb dX3_isWhole_22 rfl (lv_at hl 1 rfl) ?_
  obtain ⟨hin_5, h⟩ := zz_nn h
  refine va_iald hx hb hE.1 hP 0 0 rfl rfl hin_5 dX3_isWhole_23 ?_
  refine lv_if_le (tgt := 40) hx hb dX3_isWhole_24 (by decide) (fun hc_6 => ?_) (fun hc_6 => ?_)
  · have h := zz_t hc_6 h
    exact zw_X3_isWhole_40 C0 hE hA k2 hk2 h _ _ _ (hP.sub [1, 0] rfl) (hD.sub [1, 0] (by decide) rfl) hS hl
  have h := zz_f hc_6 h
  refine lv_aload_n hx hb dX3_isWhole_27 rfl (lv_at hl 0 rfl) ?_
  refine va_get (D := (dC, dI)) (ci := 3) (v := .ref a_th_toldFrom) (C := RX3) (T := TX3) (N := 6) hx hb hts zi_X3_isWhole_3 hown hE.1 hP 1 rfl rfl 1 (by decide) (hts _ zl_X3_isWhole_2) (fun _ h9 => h9) rfl dX3_isWhole_28 ?_
  refine lv_iload_n hx hb dX3_isWhole_31 rfl (lv_at hl 1 rfl) ?_
  refine va_iald hx hb hE.1 hP 0 0 rfl rfl hin_5 dX3_isWhole_32 ?_
  refine lv_bipush (v := (10 : Int32)) hx hb dX3_isWhole_33 (by decide) ?_
  refine lv_icmp_ge (tgt := 40) hx hb dX3_isWhole_35 (by decide) (fun hc_7 => ?_) (fun hc_7 => ?_)
  · have h := zz_t hc_7 h
    exact zw_X3_isWhole_40 C0 hE hA k2 hk2 h _ _ _ (hP.sub [1, 0] rfl) (hD.sub [1, 0] (by decide) rfl) hS hl
  have h := zz_f hc_7 h
  refine lv_iconst (v := (0 : Int32)) hx hb dX3_isWhole_38 (by decide) ?_
  obtain rfl := Option.some.inj h
  exact zk_zret hx hb hr hlocks rfl hE () (hP.sub [1, 0] rfl) (hD.sub [1, 0] (by decide) rfl) hS rfl dX3_isWhole_39
set_option maxHeartbeats 4000000 in
set_option maxRecDepth 100000 in
theorem zw_X3_isWhole_2 {p : Program} {l : Launch} {e : Env} {s : State} {m : MethodId} {args : Array Value} {below : List Frame} {meth : Method} {c : Code} {dC : Nat → ClassId} {dI : Nat → Nat → Nat} {cI cJ cZ : ClassId} {A : Nat → Prop} {a_th a_th_tenths a_th_toldFrom a_th_wayCount : Nat} {th_kind : Int32} {th_penny : Int32} {th_toldFrom : (Nat → Int32)} {th_seats : Int32} {o : Int32} (C0 : zz_C p s m args meth c cX3_isWhole 2 RX3 wsX3_isWhole (some .boolean)) (hE : zz_EV (dC, dI) (zz_T cI cJ cZ) s) (hA : ∀ q : Nat, s.heap.size ≤ q → A q) : ∀ (n : Nat) (v1 : Int32), zf_X3_isWhole_2 th_toldFrom th_seats n v1 = some o → ∀ (H : Heap) (locs : List Loc) (ls : Array Slot), va_P (dC, dI) vwCl [(a_th, .inr (3, [.ref a_th_tenths, .ref a_th_toldFrom, .ref a_th_wayCount, .int th_seats, .int th_kind, .int th_penny])), (a_th_toldFrom, .inl (cI, 8, .inl th_toldFrom))] H → va_D A [(a_th, .inr (3, [.ref a_th_tenths, .ref a_th_toldFrom, .ref a_th_wayCount, .int th_seats, .int th_kind, .int th_penny])), (a_th_toldFrom, .inl (cI, 8, .inl th_toldFrom))] → va_S A s.heap H locs → lv_has ls 2 [(0, .ref a_th), (1, .int v1)] → W p l e { frames := 1, cells := 0, slots := 0, locals := 21 } s m args below meth c H locs 0 0 (MQ below (zz_QI (dC, dI) (zz_T cI cJ cZ) A (fun _ : Unit => [(a_th, .inr (3, [.ref a_th_tenths, .ref a_th_toldFrom, .ref a_th_wayCount, .int th_seats, .int th_kind, .int th_penny])), (a_th_toldFrom, .inl (cI, 8, .inl th_toldFrom))]) o) args s 0 0 A) (F0 m 2 ls []) := by
  intro n
  induction n with
  | zero =>
    intro v1 h
    cases h
  | succ n ih =>
    intro v1 h
    exact zw_X3_isWhole_2_b C0 hE hA  (zf_X3_isWhole_2 th_toldFrom th_seats n) ih h
set_option maxHeartbeats 4000000 in
set_option maxRecDepth 100000 in
theorem zw_X3_isWhole {p : Program} {l : Launch} {e : Env} {s : State} {m : MethodId} {args : Array Value} {below : List Frame} {meth : Method} {c : Code} {dC : Nat → ClassId} {dI : Nat → Nat → Nat} {cI cJ cZ : ClassId} {A : Nat → Prop} {a_th a_th_tenths a_th_toldFrom a_th_wayCount : Nat} {th_kind : Int32} {th_penny : Int32} {th_toldFrom : (Nat → Int32)} {th_seats : Int32} {o : Int32} (C0 : zz_C p s m args meth c cX3_isWhole 2 RX3 wsX3_isWhole (some .boolean)) (hE : zz_EV (dC, dI) (zz_T cI cJ cZ) s) (hA : ∀ q : Nat, s.heap.size ≤ q → A q) (h : zf_X3_isWhole th_toldFrom th_seats = some o) : ∀ (H : Heap) (locs : List Loc) (ls : Array Slot), va_P (dC, dI) vwCl [(a_th, .inr (3, [.ref a_th_tenths, .ref a_th_toldFrom, .ref a_th_wayCount, .int th_seats, .int th_kind, .int th_penny])), (a_th_toldFrom, .inl (cI, 8, .inl th_toldFrom))] H → va_D A [(a_th, .inr (3, [.ref a_th_tenths, .ref a_th_toldFrom, .ref a_th_wayCount, .int th_seats, .int th_kind, .int th_penny])), (a_th_toldFrom, .inl (cI, 8, .inl th_toldFrom))] → va_S A s.heap H locs → lv_has ls 2 [(0, .ref a_th)] → W p l e { frames := 1, cells := 0, slots := 0, locals := 21 } s m args below meth c H locs 0 0 (MQ below (zz_QI (dC, dI) (zz_T cI cJ cZ) A (fun _ : Unit => [(a_th, .inr (3, [.ref a_th_tenths, .ref a_th_toldFrom, .ref a_th_wayCount, .int th_seats, .int th_kind, .int th_penny])), (a_th_toldFrom, .inl (cI, 8, .inl th_toldFrom))]) o) args s 0 0 A) (F0 m 0 ls []) := by
  obtain ⟨⟨hx, hb, hml, hown, hts⟩, hr, hlocks⟩ := id C0
  unfold zf_X3_isWhole at h
  intro H locs ls hP hD hS hl
  refine lv_iconst (v := (0 : Int32)) hx hb dX3_isWhole_0 (by decide) ?_
  refine lv_istore_n (lv' := [(1, .int (0 : Int32)), (0, .ref a_th)]) hx hb dX3_isWhole_1 rfl hl (by decide) rfl (fun ls hl => ?_)
  exact zw_X3_isWhole_2 C0 hE hA  zfuel (0 : Int32) h _ _ _ hP hD hS (lv_sub hl [1, 0] rfl)
set_option maxHeartbeats 4000000 in
set_option maxRecDepth 100000 in
theorem zc_X3_isWhole (l : Launch) (dC : Nat → ClassId) (dI : Nat → Nat → Nat) (cI cJ cZ : ClassId) (sz : Nat) (a_th a_th_tenths a_th_toldFrom a_th_wayCount : Nat) (th_kind : Int32) (th_penny : Int32) (th_toldFrom : (Nat → Int32)) (th_seats : Int32) {o : Int32} (h : zf_X3_isWhole th_toldFrom th_seats = some o) : Met l yX3_isWhole wsX3_isWhole { frames := 1, cells := 0, slots := 0, locals := 21 } (zz_PC (dC, dI) (zz_T cI cJ cZ) [.ref a_th] sz [(a_th, .inr (3, [.ref a_th_tenths, .ref a_th_toldFrom, .ref a_th_wayCount, .int th_seats, .int th_kind, .int th_penny])), (a_th_toldFrom, .inl (cI, 8, .inl th_toldFrom))]) (zz_QI (dC, dI) (zz_T cI cJ cZ) (va_A [(a_th, .inr (3, [.ref a_th_tenths, .ref a_th_toldFrom, .ref a_th_wayCount, .int th_seats, .int th_kind, .int th_penny])), (a_th_toldFrom, .inl (cI, 8, .inl th_toldFrom))] sz) (fun _ : Unit => [(a_th, .inr (3, [.ref a_th_tenths, .ref a_th_toldFrom, .ref a_th_wayCount, .int th_seats, .int th_kind, .int th_penny])), (a_th_toldFrom, .inl (cI, 8, .inl th_toldFrom))]) o) 0 0 (va_A [(a_th, .inr (3, [.ref a_th_tenths, .ref a_th_toldFrom, .ref a_th_wayCount, .int th_seats, .int th_kind, .int th_penny])), (a_th_toldFrom, .inl (cI, 8, .inl th_toldFrom))] sz) := by
  refine zz_met (own := RX3) (cc := cX3_isWhole) (maxL := 2) (ret := some .boolean) (by decide) rfl rfl (Nat.le_of_ble_eq_true rfl) ?_
  intro p e s m below meth c ls hsz C0 hE hin hl hP hD
  subst hsz
  exact zw_X3_isWhole C0 hE (fun q hq => Or.inr hq) h _ _ _ hP hD va_S.rf hl
