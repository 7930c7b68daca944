/-! ===== making cells ===== -/
theorem zz_same {D : va_G} {tys : List (ClassId × FieldType)} {s : State} (hK : va_K D vwCl tys s) {i j : Nat} {c1 c2 : ClassId} {ty : FieldType} (h1 : tys[i]? = some (c1, ty)) (h2 : tys[j]? = some (c2, ty)) (hty : ty = .int ∨ ty = .long ∨ ty = .boolean) : c2 = c1 := by
  have a := (hK.2 i _ h1).2
  have b := (hK.2 j _ h2).2
  rcases hty with rfl | rfl | rfl
  · exact Option.some.inj ((show s.vm.findClass _ = some c2 from b).symm.trans (show s.vm.findClass _ = some c1 from a))
  · exact Option.some.inj ((show s.vm.findClass _ = some c2 from b).symm.trans (show s.vm.findClass _ = some c1 from a))
  · exact Option.some.inj ((show s.vm.findClass _ = some c2 from b).symm.trans (show s.vm.findClass _ = some c1 from a))
section ZNEW
variable {p : Program} {l : Launch} {e : Env} {R : Room} {s : State} {m : MethodId} {args : Array Value} {below : List Frame} {meth : Method} {c : Code} {H : Heap} {locs : List Loc} {cells slots : Nat} {Q : State → Prop}
variable {D : va_G} {A : Nat → Prop} {ws : va_W} {pc : Nat} {ls : Array Slot} {rest : List Value} {cc : ByteArray} {cI cJ cZ : ClassId}
theorem zk_newi (hx : p.tables.exec = Jvm.exec) (hb : c.code = cc) (hE : zz_EV D (zz_T cI cJ cZ) s) (harr : (Cond.arrayClass .int).before args s = true) (hP : va_P D vwCl ws H) (hD : va_D A ws) (hS : va_S A s.heap H locs) (hA : ∀ q : Nat, s.heap.size ≤ q → A q)
    {n : Int32} (N' : Nat) (hn : ¬ n < 0) (hN : n.toNatClampNeg = N') (hbytes : N' * 4 ≤ 536870912) (hcells : cells + 1 ≤ R.cells) (hslots : slots + N' ≤ R.slots) (hdg : decode cc pc = .ok (.newarray .int, 2))
    (kk : ∀ (q : Nat) (H1 : Heap), va_P D vwCl (ws ++ [(q, .inl (cI, N', .inl (fun _ => 0)))]) H1 → va_D A (ws ++ [(q, .inl (cI, N', .inl (fun _ => 0)))]) → va_S A s.heap H1 locs → W p l e R s m args below meth c H1 locs (cells + 1) (slots + N') Q (F0 m (pc + 2) ls (.ref q :: rest))) : W p l e R s m args below meth c H locs cells slots Q (F0 m pc ls (.int n :: rest)) :=
  va_newa (atype := .int) (ty := .int) (a0 := (N', .inl (fun _ => 0))) hx hb harr rfl hE.1 hP hD hS hA (fun _ => rfl) hn hN hbytes hcells hslots hdg (fun q cA H1 hK1 hP1 hD1 hS1 => by
    have e9 : cA = cI := zz_same hK1 (i := 0) (j := 3) rfl rfl (Or.inl rfl)
    subst e9
    exact kk q H1 hP1 hD1 hS1)
theorem zk_newl (hx : p.tables.exec = Jvm.exec) (hb : c.code = cc) (hE : zz_EV D (zz_T cI cJ cZ) s) (harr : (Cond.arrayClass .long).before args s = true) (hP : va_P D vwCl ws H) (hD : va_D A ws) (hS : va_S A s.heap H locs) (hA : ∀ q : Nat, s.heap.size ≤ q → A q)
    {n : Int32} (N' : Nat) (hn : ¬ n < 0) (hN : n.toNatClampNeg = N') (hbytes : N' * 8 ≤ 536870912) (hcells : cells + 1 ≤ R.cells) (hslots : slots + N' ≤ R.slots) (hdg : decode cc pc = .ok (.newarray .long, 2))
    (kk : ∀ (q : Nat) (H1 : Heap), va_P D vwCl (ws ++ [(q, .inl (cJ, N', .inr (.inl (fun _ => 0))))]) H1 → va_D A (ws ++ [(q, .inl (cJ, N', .inr (.inl (fun _ => 0))))]) → va_S A s.heap H1 locs → W p l e R s m args below meth c H1 locs (cells + 1) (slots + N') Q (F0 m (pc + 2) ls (.ref q :: rest))) : W p l e R s m args below meth c H locs cells slots Q (F0 m pc ls (.int n :: rest)) :=
  va_newa (atype := .long) (ty := .long) (a0 := (N', .inr (.inl (fun _ => 0)))) hx hb harr rfl hE.1 hP hD hS hA (fun _ => rfl) hn hN hbytes hcells hslots hdg (fun q cA H1 hK1 hP1 hD1 hS1 => by
    have e9 : cA = cJ := zz_same hK1 (i := 1) (j := 3) rfl rfl (Or.inr (Or.inl rfl))
    subst e9
    exact kk q H1 hP1 hD1 hS1)
theorem zk_newz (hx : p.tables.exec = Jvm.exec) (hb : c.code = cc) (hE : zz_EV D (zz_T cI cJ cZ) s) (harr : (Cond.arrayClass .boolean).before args s = true) (hP : va_P D vwCl ws H) (hD : va_D A ws) (hS : va_S A s.heap H locs) (hA : ∀ q : Nat, s.heap.size ≤ q → A q)
    {n : Int32} (N' : Nat) (hn : ¬ n < 0) (hN : n.toNatClampNeg = N') (hbytes : N' * 1 ≤ 536870912) (hcells : cells + 1 ≤ R.cells) (hslots : slots + N' ≤ R.slots) (hdg : decode cc pc = .ok (.newarray .boolean, 2))
    (kk : ∀ (q : Nat) (H1 : Heap), va_P D vwCl (ws ++ [(q, .inl (cZ, N', .inl (fun _ => 0)))]) H1 → va_D A (ws ++ [(q, .inl (cZ, N', .inl (fun _ => 0)))]) → va_S A s.heap H1 locs → W p l e R s m args below meth c H1 locs (cells + 1) (slots + N') Q (F0 m (pc + 2) ls (.ref q :: rest))) : W p l e R s m args below meth c H locs cells slots Q (F0 m pc ls (.int n :: rest)) :=
  va_newa (atype := .boolean) (ty := .boolean) (a0 := (N', .inl (fun _ => 0))) hx hb harr rfl hE.1 hP hD hS hA (fun _ => rfl) hn hN hbytes hcells hslots hdg (fun q cA H1 hK1 hP1 hD1 hS1 => by
    have e9 : cA = cZ := zz_same hK1 (i := 2) (j := 3) rfl rfl (Or.inr (Or.inr rfl))
    subst e9
    exact kk q H1 hP1 hD1 hS1)
end ZNEW
/-- the two slots' array -/
def zz_sl (a0 a1 : Nat) : Nat → Option Nat := va_up (va_up (fun _ => none) 0 (some a0)) 1 (some a1)
/-- the end of the system's own constructor: the slots' array has a class of its own -/
def zz_B4 (D : va_G) (cI cJ cZ : ClassId) (A : Nat → Prop) {S : Type} (cf : S → ClassId) (wf : S → va_W) (u : S) (t : State) : Prop := va_P D vwCl (wf u) t.heap ∧ zz_EV D (zz_T4 cI cJ cZ (cf u)) t ∧ va_D A (wf u)
abbrev zz_QV4 (D : va_G) (cI cJ cZ : ClassId) (A : Nat → Prop) {S : Type} (cf : S → ClassId) (wf : S → va_W) := va_Qv (fun (_ : S) => True) (zz_B4 D cI cJ cZ A cf wf) A
section ZFOUR
variable {p : Program} {l : Launch} {e : Env} {R : Room} {s : State} {m : MethodId} {args : Array Value} {below : List Frame} {meth : Method} {c : Code} {H : Heap} {locs : List Loc} {cells slots mc ms : Nat} {Q : State → Prop}
variable {D : va_G} {cI cJ cZ : ClassId} {A A0 : Nat → Prop} {ws wc wr : va_W} {S : Type} {cf : S → ClassId} {wf : S → va_W} {pc : Nat} {ls : Array Slot} {st0 rest : List Value} {a : Array Value} {cc : ByteArray}
theorem zk_vret4 (hx : p.tables.exec = Jvm.exec) (hb : c.code = cc) (hr : meth.sig.returnType = none) (hlocks : meth.locks = false) (u : S) (hE : zz_EV D (zz_T4 cI cJ cZ (cf u)) s) (hP : va_P D vwCl (wf u) H) (hD : va_D A (wf u)) (hS : va_S A s.heap H locs) (hdg : decode cc pc = .ok (.return_, 1)) :
    W p l e R s m args below meth c H locs cells slots (MQ below (zz_QV4 D cI cJ cZ A cf wf) args s cells slots A) (F0 m pc ls []) :=
  W.vret hx hb hr (fun t ht hW => ⟨⟨u, rfl, trivial, by rw [ht]; exact hP, hE.warm hW, hD⟩, hS.F ht⟩) hS.2.2 hdg hlocks
theorem zk_cv4 (hr : va_Run p l e R s m args below meth c H locs cells slots mc ms (F0 m pc ls st0) rest (zz_QV4 D cI cJ cZ (va_A wc H.size) cf wf a) (va_A wc H.size)) (hP : va_P D vwCl ws H) (hD : va_D A0 ws) (hS : va_S A0 s.heap H locs) (hA : ∀ q : Nat, s.heap.size ≤ q → A0 q)
    (isC isR : List Nat) (hC : isC.map (fun i => ws[i]?) = wc.map some) (hR : isR.map (fun i => ws[i]?) = wr.map some) (hn : va_nd isR = true) (hdis : ∀ i ∈ isR, i ∉ isC)
    (kk : ∀ (u : S) (H1 : Heap) (locs1 : List Loc), va_P D vwCl (wr ++ wf u) H1 → va_D A0 (wr ++ wf u) → va_S A0 s.heap H1 locs1 → va_K D vwCl (zz_T4 cI cJ cZ (cf u)) s → W p l e R s m args below meth c H1 locs1 (cells + mc) (slots + ms) Q (F0 m (pc + 3) ls rest)) : W p l e R s m args below meth c H locs cells slots Q (F0 m pc ls st0) := by
  have hF := va_free (wc := wc) hD hS hA isC hC
  refine va_callv hr hS (fun q _ h => hF q h) hF (fun u t H1 locs1 ht hvm hw hB _ hk1 hS1 => ?_)
  obtain ⟨hP1, hE1, hD1⟩ := hB
  rw [ht] at hP1
  obtain ⟨hP2, hD2⟩ := va_join (wr := wr) (w1 := wf u) hP hD isC isR hC hR hn hdis hk1 hF hP1 hD1
  exact kk u H1 locs1 hP2 hD2 hS1 (va_K.moved hvm.symm hE1.1)
end ZFOUR
