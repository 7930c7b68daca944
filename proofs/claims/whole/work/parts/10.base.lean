/-! ===== the base of the walks: the environment, a contract's start and end, calls, returns ===== -/
def zz_NW (U : State) : Prop :=
  va_Nw (.methodLinkNest RX0 17 yX6_init "PlateLast") U ∧ va_Nw (.methodLinkNest RX0 66 yX8_power "PlateLast") U ∧ va_Nw (.methodLinkNest RX5 17 yX8_power "PlateLast") U ∧
  va_Nw (.methodLinkNest RX8 9 yX7_init "PlateLast") U ∧ va_Nw (.methodLinkNest RX8 18 yX3_init "PlateLast") U ∧ va_Nw (.methodLinkNest RX8 36 yX4_init "PlateLast") U ∧
  va_Nw (.methodLinkNest RX8 47 yX0_init "PlateLast") U ∧ va_Nw (.methodLinkNest RX8 54 yX2_init "PlateLast") U ∧ va_Nw (.methodLinkNest RX8 61 yX5_init "PlateLast") U ∧
  va_Nw (.methodLinkNest RX8 68 yX1_init "PlateLast") U
theorem zz_NW.warm {s U : State} (hW : s.WarmedH U.vm) (h : zz_NW s) : zz_NW U := by
  obtain ⟨h1, h2, h3, h4, h5, h6, h7, h8, h9, h10⟩ := h
  exact ⟨va_Nw.warmM hW h1, va_Nw.warmM hW h2, va_Nw.warmM hW h3, va_Nw.warmM hW h4, va_Nw.warmM hW h5, va_Nw.warmM hW h6, va_Nw.warmM hW h7, va_Nw.warmM hW h8, va_Nw.warmM hW h9, va_Nw.warmM hW h10⟩
theorem zz_NW.same {s U : State} (h0 : s.vm = U.vm) (h : zz_NW s) : zz_NW U := by
  obtain ⟨h1, h2, h3, h4, h5, h6, h7, h8, h9, h10⟩ := h
  exact ⟨va_Nw.same rfl h0 h1, va_Nw.same rfl h0 h2, va_Nw.same rfl h0 h3, va_Nw.same rfl h0 h4, va_Nw.same rfl h0 h5, va_Nw.same rfl h0 h6, va_Nw.same rfl h0 h7, va_Nw.same rfl h0 h8, va_Nw.same rfl h0 h9, va_Nw.same rfl h0 h10⟩
abbrev zz_T (cI cJ cZ : ClassId) : List (ClassId × FieldType) := [(cI, .int), (cJ, .long), (cZ, .boolean)]
abbrev zz_T4 (cI cJ cZ cN : ClassId) : List (ClassId × FieldType) := [(cI, .int), (cJ, .long), (cZ, .boolean), (cN, .object "PlateLast$Night")]
def zz_EV (D : va_G) (tys : List (ClassId × FieldType)) (U : State) : Prop := va_K D vwCl tys U ∧ zz_NW U ∧ va_AO "PlateLast$Night" U
theorem zz_EV.warm {D : va_G} {tys : List (ClassId × FieldType)} {s U : State} (hW : s.WarmedH U.vm) (h : zz_EV D tys s) : zz_EV D tys U := ⟨va_K.moved hW.alike h.1, h.2.1.warm hW, va_AO.moved hW.alike h.2.2⟩
theorem zz_EV.sub {D : va_G} {tys tys' : List (ClassId × FieldType)} {U : State} (h : zz_EV D tys U) (is : List Nat) (hs : is.filterMap (fun i => tys[i]?) = tys') : zz_EV D tys' U := ⟨h.1.sub is hs, h.2⟩
/-- a contract's start -/
def zz_PC (D : va_G) (tys : List (ClassId × FieldType)) (av : List Value) (sz : Nat) (ws : va_W) : Array Value → State → Prop :=
  va_Pc av (fun U => U.heap.size = sz ∧ va_P D vwCl ws U.heap ∧ zz_EV D tys U ∧ va_D (fun _ => True) ws)
/-- the world at a contract's end -/
def zz_B (D : va_G) (tys : List (ClassId × FieldType)) (A : Nat → Prop) {S : Type} (wf : S → va_W) (u : S) (t : State) : Prop := va_P D vwCl (wf u) t.heap ∧ zz_EV D tys t ∧ va_D A (wf u)
abbrev zz_QI (D : va_G) (tys : List (ClassId × FieldType)) (A : Nat → Prop) {S : Type} (wf : S → va_W) (r : Int32) := va_Qi (fun (r' : Int32) (_ : S) => r' = r) (zz_B D tys A wf) A
abbrev zz_QL (D : va_G) (tys : List (ClassId × FieldType)) (A : Nat → Prop) {S : Type} (wf : S → va_W) (r : Int64) := va_Ql (fun (r' : Int64) (_ : S) => r' = r) (zz_B D tys A wf) A
abbrev zz_QV (D : va_G) (tys : List (ClassId × FieldType)) (A : Nat → Prop) {S : Type} (wf : S → va_W) := va_Qv (fun (_ : S) => True) (zz_B D tys A wf) A
theorem zz_PC.blind {D : va_G} {tys : List (ClassId × FieldType)} {av : List Value} {sz : Nat} {ws : va_W} : FrameBlind (zz_PC D tys av sz ws) := by
  intro a U g mk q
  obtain ⟨q0, q1, qP, ⟨qK, qN, qA⟩, qD⟩ := q
  exact ⟨q0, q1, qP, ⟨va_K.moved (u := U) (U := U.calling g mk a) (Vm.Alike.refl U.vm) qK, zz_NW.same (s := U) (U := U.calling g mk a) rfl qN, va_AO.moved (Vm.Alike.refl U.vm) qA⟩, qD⟩
theorem zz_ready {D : va_G} {tys : List (ClassId × FieldType)} {av : List Value} {H : Heap} {s : State} {A : Nat → Prop} {ws wc : va_W} (hE : zz_EV D tys s) (hP : va_P D vwCl ws H) (hD : va_D A ws) (is : List Nat) (h1 : is.filterMap (fun i => ws[i]?) = wc) (h2 : is.map (fun i => ws[i]?) = wc.map some) (hn : va_nd is = true) :
    ∀ U : State, U.heap = H → s.WarmedH U.vm → zz_PC D tys av H.size wc av.toArray U := fun U hU hW =>
  ⟨rfl, by rw [hU], by rw [hU]; exact hP.sub is h1, hE.warm hW, (hD.sub is hn h2).weaken (fun _ _ _ _ => trivial)⟩
/-- a call's start: an instance method, a static one -/
theorem zz_preV {D : va_G} {tys : List (ClassId × FieldType)} {As : List Value} {H : Heap} {s : State} {A : Nat → Prop} {ws wc : va_W} {b ci : Nat} {q : vw_C} {fs : List Value} (hE : zz_EV D tys s) (hP : va_P D vwCl ws H) (hD : va_D A ws) (is : List Nat) (h1 : is.filterMap (fun i => ws[i]?) = wc) (h2 : is.map (fun i => ws[i]?) = wc.map some) (hn : va_nd is = true) (hc : vwCl[ci]? = some q) (he : wc[0]? = some (b, .inr (ci, fs))) :
    PreV s H q.1 b (zz_PC D tys (.ref b :: As) H.size wc) As := ⟨zz_PC.blind, va_recv hE.1 (hP.sub is h1) hc he, zz_ready hE hP hD is h1 h2 hn⟩
theorem zz_preS {D : va_G} {tys : List (ClassId × FieldType)} {As : List Value} {H : Heap} {s : State} {A : Nat → Prop} {ws wc : va_W} (hE : zz_EV D tys s) (hP : va_P D vwCl ws H) (hD : va_D A ws) (is : List Nat) (h1 : is.filterMap (fun i => ws[i]?) = wc) (h2 : is.map (fun i => ws[i]?) = wc.map some) (hn : va_nd is = true) :
    PreS s H (zz_PC D tys As H.size wc) As := ⟨zz_PC.blind, zz_ready hE hP hD is h1 h2 hn⟩
/-- what a walk stands on -/
def zz_C (p : Program) (s : State) (m : MethodId) (args : Array Value) (meth : Method) (c : Code) (cc : ByteArray) (nL : Nat) (own : String) (Ts : List Cond) (ret : Option FieldType) : Prop :=
  CallFix p m c cc nL s args Ts own ∧ meth.sig.returnType = ret ∧ meth.locks = false
section ZCALL
variable {p : Program} {l : Launch} {e : Env} {R : Room} {s : State} {m : MethodId} {args : Array Value} {below : List Frame} {meth : Method} {c : Code} {H : Heap} {locs : List Loc} {cells slots mc ms : Nat} {Q : State → Prop}
variable {D : va_G} {tys : List (ClassId × FieldType)} {A0 : Nat → Prop} {ws wc wr : va_W} {S : Type} {wf : S → va_W} {pc : Nat} {ls : Array Slot} {st0 rest : List Value} {a : Array Value}
theorem zk_ci {r : Int32} (hr : va_Run p l e R s m args below meth c H locs cells slots mc ms (F0 m pc ls st0) rest (zz_QI D tys (va_A wc H.size) wf r a) (va_A wc H.size)) (hP : va_P D vwCl ws H) (hD : va_D A0 ws) (hS : va_S A0 s.heap H locs) (hA : ∀ q : Nat, s.heap.size ≤ q → A0 q)
    (isC isR : List Nat) (hC : isC.map (fun i => ws[i]?) = wc.map some) (hR : isR.map (fun i => ws[i]?) = wr.map some) (hn : va_nd isR = true) (hdis : ∀ i ∈ isR, i ∉ isC)
    (kk : ∀ (u : S) (H1 : Heap) (locs1 : List Loc), va_P D vwCl (wr ++ wf u) H1 → va_D A0 (wr ++ wf u) → va_S A0 s.heap H1 locs1 → W p l e R s m args below meth c H1 locs1 (cells + mc) (slots + ms) Q (F0 m (pc + 3) ls (.int r :: rest))) : W p l e R s m args below meth c H locs cells slots Q (F0 m pc ls st0) := by
  have hF := va_free (wc := wc) hD hS hA isC hC
  refine va_calli hr hS (fun q _ h => hF q h) hF (fun r1 u t H1 locs1 ht _ hw hB _ hk1 hS1 => ?_)
  cases hw
  obtain ⟨hP1, -, hD1⟩ := hB
  rw [ht] at hP1
  obtain ⟨hP2, hD2⟩ := va_join (wr := wr) (w1 := wf u) hP hD isC isR hC hR hn hdis hk1 hF hP1 hD1
  exact kk u H1 locs1 hP2 hD2 hS1
theorem zk_cl {r : Int64} (hr : va_Run p l e R s m args below meth c H locs cells slots mc ms (F0 m pc ls st0) rest (zz_QL D tys (va_A wc H.size) wf r a) (va_A wc H.size)) (hP : va_P D vwCl ws H) (hD : va_D A0 ws) (hS : va_S A0 s.heap H locs) (hA : ∀ q : Nat, s.heap.size ≤ q → A0 q)
    (isC isR : List Nat) (hC : isC.map (fun i => ws[i]?) = wc.map some) (hR : isR.map (fun i => ws[i]?) = wr.map some) (hn : va_nd isR = true) (hdis : ∀ i ∈ isR, i ∉ isC)
    (kk : ∀ (u : S) (H1 : Heap) (locs1 : List Loc), va_P D vwCl (wr ++ wf u) H1 → va_D A0 (wr ++ wf u) → va_S A0 s.heap H1 locs1 → W p l e R s m args below meth c H1 locs1 (cells + mc) (slots + ms) Q (F0 m (pc + 3) ls (.long r :: rest))) : W p l e R s m args below meth c H locs cells slots Q (F0 m pc ls st0) := by
  have hF := va_free (wc := wc) hD hS hA isC hC
  refine va_calll hr hS (fun q _ h => hF q h) hF (fun r1 u t H1 locs1 ht _ hw hB _ hk1 hS1 => ?_)
  cases hw
  obtain ⟨hP1, -, hD1⟩ := hB
  rw [ht] at hP1
  obtain ⟨hP2, hD2⟩ := va_join (wr := wr) (w1 := wf u) hP hD isC isR hC hR hn hdis hk1 hF hP1 hD1
  exact kk u H1 locs1 hP2 hD2 hS1
theorem zk_cv (hr : va_Run p l e R s m args below meth c H locs cells slots mc ms (F0 m pc ls st0) rest (zz_QV D tys (va_A wc H.size) wf a) (va_A wc H.size)) (hP : va_P D vwCl ws H) (hD : va_D A0 ws) (hS : va_S A0 s.heap H locs) (hA : ∀ q : Nat, s.heap.size ≤ q → A0 q)
    (isC isR : List Nat) (hC : isC.map (fun i => ws[i]?) = wc.map some) (hR : isR.map (fun i => ws[i]?) = wr.map some) (hn : va_nd isR = true) (hdis : ∀ i ∈ isR, i ∉ isC)
    (kk : ∀ (u : S) (H1 : Heap) (locs1 : List Loc), va_P D vwCl (wr ++ wf u) H1 → va_D A0 (wr ++ wf u) → va_S A0 s.heap H1 locs1 → W p l e R s m args below meth c H1 locs1 (cells + mc) (slots + ms) Q (F0 m (pc + 3) ls rest)) : W p l e R s m args below meth c H locs cells slots Q (F0 m pc ls st0) := by
  have hF := va_free (wc := wc) hD hS hA isC hC
  refine va_callv hr hS (fun q _ h => hF q h) hF (fun u t H1 locs1 ht _ hw hB _ hk1 hS1 => ?_)
  obtain ⟨hP1, -, hD1⟩ := hB
  rw [ht] at hP1
  obtain ⟨hP2, hD2⟩ := va_join (wr := wr) (w1 := wf u) hP hD isC isR hC hR hn hdis hk1 hF hP1 hD1
  exact kk u H1 locs1 hP2 hD2 hS1
variable {A : Nat → Prop} {cc : ByteArray}
theorem zk_iret {v r : Int32} (hx : p.tables.exec = Jvm.exec) (hb : c.code = cc) (hr : meth.sig.returnType = some .int) (hlocks : meth.locks = false) (hE : zz_EV D tys s) (u : S) (hP : va_P D vwCl (wf u) H) (hD : va_D A (wf u)) (hS : va_S A s.heap H locs) (hv : v = r) (hdg : decode cc pc = .ok (.ireturn, 1)) :
    W p l e R s m args below meth c H locs cells slots (MQ below (zz_QI D tys A wf r) args s cells slots A) (F0 m pc ls [.int v]) :=
  W.iret hx hb hr (fun t ht hW => ⟨⟨v, u, rfl, hv, by rw [ht]; exact hP, hE.warm hW, hD⟩, hS.F ht⟩) hS.2.2 hdg hlocks
theorem zk_zret {v r : Int32} {ty : FieldType} (hx : p.tables.exec = Jvm.exec) (hb : c.code = cc) (hr : meth.sig.returnType = some ty) (hlocks : meth.locks = false) (hn : narrow ty (.int v) = .int v) (hE : zz_EV D tys s) (u : S) (hP : va_P D vwCl (wf u) H) (hD : va_D A (wf u)) (hS : va_S A s.heap H locs) (hv : v = r) (hdg : decode cc pc = .ok (.ireturn, 1)) :
    W p l e R s m args below meth c H locs cells slots (MQ below (zz_QI D tys A wf r) args s cells slots A) (F0 m pc ls [.int v]) :=
  W.zret hx hb hr hn (fun t ht hW => ⟨⟨v, u, rfl, hv, by rw [ht]; exact hP, hE.warm hW, hD⟩, hS.F ht⟩) hS.2.2 hdg hlocks
theorem zk_lret {v r : Int64} (hx : p.tables.exec = Jvm.exec) (hb : c.code = cc) (hr : meth.sig.returnType = some .long) (hlocks : meth.locks = false) (hE : zz_EV D tys s) (u : S) (hP : va_P D vwCl (wf u) H) (hD : va_D A (wf u)) (hS : va_S A s.heap H locs) (hv : v = r) (hdg : decode cc pc = .ok (.lreturn, 1)) :
    W p l e R s m args below meth c H locs cells slots (MQ below (zz_QL D tys A wf r) args s cells slots A) (F0 m pc ls [.long v]) :=
  W.lret hx hb hr (fun t ht hW => ⟨⟨v, u, rfl, hv, by rw [ht]; exact hP, hE.warm hW, hD⟩, hS.F ht⟩) hS.2.2 hdg hlocks
theorem zk_vret (hx : p.tables.exec = Jvm.exec) (hb : c.code = cc) (hr : meth.sig.returnType = none) (hlocks : meth.locks = false) (hE : zz_EV D tys s) (u : S) (hP : va_P D vwCl (wf u) H) (hD : va_D A (wf u)) (hS : va_S A s.heap H locs) (hdg : decode cc pc = .ok (.return_, 1)) :
    W p l e R s m args below meth c H locs cells slots (MQ below (zz_QV D tys A wf) args s cells slots A) (F0 m pc ls []) :=
  W.vret hx hb hr (fun t ht hW => ⟨⟨u, rfl, trivial, by rw [ht]; exact hP, hE.warm hW, hD⟩, hS.F ht⟩) hS.2.2 hdg hlocks
end ZCALL
/-- a contract out of the walk of its entry -/
theorem zz_met {l : Launch} {y : MethodName} {ws ws' : List Cond} {rm : Room} {cc : ByteArray} {maxL : Nat} {ret : Option FieldType} {own : String} {D : va_G} {tys : List (ClassId × FieldType)} {av : List Value} {sz : Nat} {wsW : va_W} {Qc : Array Value → State → Outcome → State → Prop} {mc ms : Nat}
    (hy : plainName y.cls = true) (ho : y.cls = own) (hw : ws = Cond.code y cc maxL ret :: ws') (hlen : (lg_sl av).length ≤ maxL)
    (body : ∀ (p : Program) (e : Env) (s : State) (m : MethodId) (below : List Frame) (meth : Method) (c : Code) (ls : Array Slot), s.heap.size = sz → zz_C p s m av.toArray meth c cc maxL own ws ret → zz_EV D tys s → (y.name = "<init>" → meth.name = "<init>") → lv_has ls maxL (lv_args 0 av) →
      va_P D vwCl wsW s.heap → va_D (va_A wsW sz) wsW → W p l e rm s m av.toArray below meth c s.heap [] 0 0 (MQ below Qc av.toArray s mc ms (va_A wsW sz)) (F0 m 0 ls [])) :
    Met l y ws rm (zz_PC D tys av sz wsW) Qc mc ms (va_A wsW sz) := by
  refine Met.ofW (cc := cc) (maxL := maxL) (ret := ret) hy hw ?_
  intro p e s m args below meth c s₁ B hml hv
  obtain ⟨rfl, hsz, hP, hE, hD0⟩ := hv
  have hx := B.exec
  have hb := B.bytes
  have hr := B.returns
  have hts := atoms_spec (ws := ws) B.pre
  have hown : s.vm.findClass own = some m.cls := by rw [← ho]; exact findClass_of_methodNamed B.named
  have hin : y.name = "<init>" → meth.name = "<init>" := fun h => ((name_of_methodNamed B.named B.method).1).trans h
  have hl := lv_entry av (n := maxL) hlen
  rw [lg_entry_eq]
  exact body p e s m below meth c _ hsz ⟨⟨hx, hb, hml, hown, hts⟩, hr, B.notSynchronized⟩ hE hin hl hP hD0.self
theorem zz_t {c : Prop} [Decidable c] {α : Type} {a b x : α} (hc : c) (h : (if c then a else b) = x) : a = x := by rw [if_pos hc] at h; exact h
theorem zz_f {c : Prop} [Decidable c] {α : Type} {a b x : α} (hc : ¬ c) (h : (if c then a else b) = x) : b = x := by rw [if_neg hc] at h; exact h
theorem zz_nn {c : Prop} [Decidable c] {α : Type} {a : Option α} {x : α} (h : (if c then none else a) = some x) : ¬ c ∧ a = some x := by
  by_cases hc : c
  · rw [if_pos hc] at h; cases h
  · rw [if_neg hc] at h; exact ⟨hc, h⟩
theorem zz_yy {c : Prop} [Decidable c] {α : Type} {a : Option α} {x : α} (h : (if c then a else none) = some x) : c ∧ a = some x := by
  by_cases hc : c
  · rw [if_pos hc] at h; exact ⟨hc, h⟩
  · rw [if_neg hc] at h; cases h
theorem zz_bd {α β : Type} {a : Option α} {f : α → Option β} {x : β} (h : Option.bind a f = some x) : ∃ y, a = some y ∧ f y = some x := by
  cases a with
  | none => cases h
  | some y => exact ⟨y, rfl, h⟩
theorem zz_in {i : Int32} {n : Nat} (h : ¬ (i < 0 ∨ n ≤ i.toNatClampNeg)) : vp_in i n := h
def zfuel : Nat := 3000
theorem zz_bool {v : Int32} (h : v = 0 ∨ v = 1) : narrow .boolean (.int v) = .int v := by rcases h with rfl | rfl <;> rfl
