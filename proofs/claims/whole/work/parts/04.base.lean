/-! what every walk stands on: the static row, the nest links, contracts of methods that change nothing (CPi) and of methods that change their world (CMi, CMv), and a row for a call of each -/
def nb (x : Int32) : Prop := narrow .boolean (.int x) = .int x
theorem nb_0 : nb 0 := by unfold nb; decide
theorem nb_1 : nb 1 := by unfold nb; decide
def clF : Nat → Int32 := fun j => match j with
  | 0 => 2
  | 1 => 3
  | 2 => 4
  | 3 => 6
  | _ => 8
def nestQ : List (String × Nat × MethodName × String) := [(RX2, 9, yX1_init, "SlabHeap"), (RX0, 69, yX2_classFor, "SlabHeap"), (RX0, 30, yX2_isPage, "SlabHeap"), (RX0, 75, yX2_orderFor, "SlabHeap"), (RX0, 110, yX2_isOrder, "SlabHeap"), (RX1, 29, yX2_isWord, "SlabHeap")]
def xN (U : State) : Prop := ∀ q ∈ nestQ, va_Nw (.methodLinkNest q.1 q.2.1 q.2.2.1 q.2.2.2) U
def xT (A : Nat → Prop) (U : State) (H : Heap) : Prop := ∃ t : Nat, va_Z "SlabHeap" "CLASSES" "[I" (.ref t) A U H ∧ va_T .int t 5 (fun j => .int (clF j)) A U H
def xZ (A : Nat → Prop) (U : State) (H : Heap) : Prop := xT A U H ∧ xN U
theorem xN.warm {s U : State} (hW : s.WarmedH U.vm) (h : xN s) : xN U := fun q hq => va_Nw.warmM hW (h q hq)
theorem xZ.to {A B : Nat → Prop} {s U : State} {H : Heap} {locs : List Loc} (h : xZ A s s.heap) (hS : va_S A s.heap H locs) (hW : s.WarmedH U.vm) (hAB : ∀ q, B q → A q) : xZ B U H := by
  obtain ⟨⟨t, h1, h2⟩, h3⟩ := h
  exact ⟨⟨t, ((h1.kept hS.2.1).moved hW.alike).narrow hAB, ((h2.kept hS.2.1).moved hW.alike).narrow hAB⟩, h3.warm hW⟩
theorem xZ.calling {A : Nat → Prop} {U : State} {H : Heap} (g : JFrame) (mk : MethodId) (a : Array Value) (h : xZ A U H) : xZ A (U.calling g mk a) H := by
  obtain ⟨⟨t, h1, h2⟩, h3⟩ := h
  exact ⟨⟨t, h1.moved (U := U.calling g mk a) (Vm.Alike.refl U.vm), h2.moved (U := U.calling g mk a) (Vm.Alike.refl U.vm)⟩, fun q hq => va_Nw.same rfl rfl (h3 q hq)⟩
abbrev xC : Type := ClassId × ClassId
abbrev xtys (k : xC) : List (ClassId × FieldType) := [(k.1, .int), (k.2, .boolean)]
/-! methods that change nothing -/
def Pp (D : va_G) (k : xC) (av : List Value) (world : va_W) (Hs : Heap) : Array Value → State → Prop := va_Pc av (fun U => U.heap = Hs ∧ va_P D vwCl world Hs ∧ va_K D vwCl (xtys k) U ∧ xZ (fun _ => False) U Hs)
def CPi (l : Launch) (y : MethodName) (wds : List Cond) (rm : Room) (D : va_G) (k : xC) (av : List Value) (world : va_W) (post : Int32 → Prop) : Prop := ∀ Hs : Heap, Met l y wds rm (Pp D k av world Hs) (va_Qi (fun r (_ : Unit) => post r) (fun _ t => t.heap = Hs) (fun _ => False)) 0 0 (fun _ => False)
theorem Pp_blind {D : va_G} {k : xC} {av : List Value} {world : va_W} {Hs : Heap} : FrameBlind (Pp D k av world Hs) := fun a U g mk h => by
  obtain ⟨h0, h1, h2, h3, h4⟩ := h
  exact ⟨h0, h1, h2, va_K.moved (u := U) (U := U.calling g mk a) (Vm.Alike.refl U.vm) h3, h4.calling g mk a⟩
/-! methods that change their world -/
def Pm (D : va_G) (k : xC) (av : List Value) (world : va_W) (sz : Nat) : Array Value → State → Prop := va_Pc av (fun U => U.heap.size = sz ∧ va_P D vwCl world U.heap ∧ va_K D vwCl (xtys k) U ∧ va_D (fun _ => True) world ∧ xZ (va_A world sz) U U.heap)
theorem Pm_blind {D : va_G} {k : xC} {av : List Value} {world : va_W} {sz : Nat} : FrameBlind (Pm D k av world sz) := fun a U g mk h => by
  obtain ⟨h0, h1, h2, h3, h4, h5⟩ := h
  exact ⟨h0, h1, h2, va_K.moved (u := U) (U := U.calling g mk a) (Vm.Alike.refl U.vm) h3, h4, h5.calling g mk a⟩
def CMi (l : Launch) (y : MethodName) (wds : List Cond) (rm : Room) (D : va_G) (k : xC) (av : List Value) {σ : Type} (ws : σ → va_W) (u : σ) (post : Int32 → σ → Prop) : Prop := ∀ sz : Nat, Met l y wds rm (Pm D k av (ws u) sz) (va_Qi post (fun u' t => va_P D vwCl (ws u') t.heap ∧ va_D (va_A (ws u) sz) (ws u')) (va_A (ws u) sz)) 0 0 (va_A (ws u) sz)
def CMv (l : Launch) (y : MethodName) (wds : List Cond) (rm : Room) (D : va_G) (k : xC) (av : List Value) {σ : Type} (ws : σ → va_W) (u : σ) (post : σ → Prop) : Prop := ∀ sz : Nat, Met l y wds rm (Pm D k av (ws u) sz) (va_Qv post (fun u' t => va_P D vwCl (ws u') t.heap ∧ va_D (va_A (ws u) sz) (ws u')) (va_A (ws u) sz)) 0 0 (va_A (ws u) sz)
section XA
variable {l : Launch} {y : MethodName} {wds wds' : List Cond} {rm : Room} {cc : ByteArray} {nL : Nat} {D : va_G} {k : xC} {av : List Value}
theorem met_pi {world : va_W} {post : Int32 → Prop} (hy : plainName y.cls = true) (hw : wds = Cond.code y cc nL (some .int) :: wds') (hn : (lg_sl av).length ≤ nL)
    (body : ∀ (p : Program) (e : Env) (s : State) (m : MethodId) (args : Array Value) (below : List Frame) (meth : Method) (c : Code) (Q : State → Prop) (ls : Array Slot), CallFix p m c cc nL s args wds y.cls → va_P D vwCl world s.heap → va_K D vwCl (xtys k) s → xZ (fun _ => False) s s.heap → va_S (fun _ => False) s.heap s.heap [] → lv_has ls nL (lv_args 0 av) →
      (∀ (pc : Nat) (ls : Array Slot) (r : Int32), decode cc pc = .ok (.ireturn, 1) → post r → W p l e rm s m args below meth c s.heap [] 0 0 Q (F0 m pc ls [.int r])) →
      W p l e rm s m args below meth c s.heap [] 0 0 Q (F0 m 0 ls [])) : CPi l y wds rm D k av world post := by
  intro Hs
  refine Met.ofW (cc := cc) (maxL := nL) (ret := some .int) hy hw ?_
  intro p e s m args below meth c s₁ B hml hv
  obtain ⟨ha, hh, hP, hK, hZ⟩ := hv
  subst hh
  have hlocks := B.notSynchronized
  have hl := lv_entry av (n := nL) hn
  have hE : entryFrame m args nL = F0 m 0 (lg_sl av ++ List.replicate (nL - (lg_sl av).length) Slot.unset).toArray [] := by rw [ha, lg_entry_eq]
  rw [hE]
  refine body p e s m args below meth c _ _ ⟨B.exec, B.bytes, hml, findClass_of_methodNamed B.named, atoms_spec (ws := wds) B.pre⟩ hP hK hZ va_S.rf hl (fun pc ls r hd hp => ?_)
  exact W.iret B.exec B.bytes B.returns (fun t ht hW => ⟨⟨r, (), rfl, hp, ht⟩, by rw [ht]; exact Nat.le_refl _, fun q _ _ => by rw [ht]⟩) (fun q h => by cases h) hd
theorem met_pz {world : va_W} {post : Int32 → Prop} (hy : plainName y.cls = true) (hw : wds = Cond.code y cc nL (some .boolean) :: wds') (hn : (lg_sl av).length ≤ nL)
    (body : ∀ (p : Program) (e : Env) (s : State) (m : MethodId) (args : Array Value) (below : List Frame) (meth : Method) (c : Code) (Q : State → Prop) (ls : Array Slot), CallFix p m c cc nL s args wds y.cls → va_P D vwCl world s.heap → va_K D vwCl (xtys k) s → xZ (fun _ => False) s s.heap → va_S (fun _ => False) s.heap s.heap [] → lv_has ls nL (lv_args 0 av) →
      (∀ (pc : Nat) (ls : Array Slot) (r : Int32), decode cc pc = .ok (.ireturn, 1) → nb r → post r → W p l e rm s m args below meth c s.heap [] 0 0 Q (F0 m pc ls [.int r])) →
      W p l e rm s m args below meth c s.heap [] 0 0 Q (F0 m 0 ls [])) : CPi l y wds rm D k av world post := by
  intro Hs
  refine Met.ofW (cc := cc) (maxL := nL) (ret := some .boolean) hy hw ?_
  intro p e s m args below meth c s₁ B hml hv
  obtain ⟨ha, hh, hP, hK, hZ⟩ := hv
  subst hh
  have hlocks := B.notSynchronized
  have hl := lv_entry av (n := nL) hn
  have hE : entryFrame m args nL = F0 m 0 (lg_sl av ++ List.replicate (nL - (lg_sl av).length) Slot.unset).toArray [] := by rw [ha, lg_entry_eq]
  rw [hE]
  refine body p e s m args below meth c _ _ ⟨B.exec, B.bytes, hml, findClass_of_methodNamed B.named, atoms_spec (ws := wds) B.pre⟩ hP hK hZ va_S.rf hl (fun pc ls r hd hb hp => ?_)
  exact W.zret B.exec B.bytes B.returns hb (fun t ht hW => ⟨⟨r, (), rfl, hp, ht⟩, by rw [ht]; exact Nat.le_refl _, fun q _ _ => by rw [ht]⟩) (fun q h => by cases h) hd
theorem met_mi {σ : Type} {ws : σ → va_W} {u : σ} {post : Int32 → σ → Prop} (hy : plainName y.cls = true) (hw : wds = Cond.code y cc nL (some .int) :: wds') (hn : (lg_sl av).length ≤ nL)
    (body : ∀ (p : Program) (e : Env) (s : State) (m : MethodId) (args : Array Value) (below : List Frame) (meth : Method) (c : Code) (Q : State → Prop) (A : Nat → Prop) (ls : Array Slot), CallFix p m c cc nL s args wds y.cls → va_P D vwCl (ws u) s.heap → va_D A (ws u) → (∀ q : Nat, s.heap.size ≤ q → A q) → va_K D vwCl (xtys k) s → xZ A s s.heap → va_S A s.heap s.heap [] → lv_has ls nL (lv_args 0 av) →
      (∀ (pc : Nat) (ls : Array Slot) (r : Int32) (u' : σ) (H : Heap) (locs : List Loc), va_P D vwCl (ws u') H → va_D A (ws u') → va_S A s.heap H locs → decode cc pc = .ok (.ireturn, 1) → post r u' → W p l e rm s m args below meth c H locs 0 0 Q (F0 m pc ls [.int r])) →
      W p l e rm s m args below meth c s.heap [] 0 0 Q (F0 m 0 ls [])) : CMi l y wds rm D k av ws u post := by
  intro sz
  refine Met.ofW (cc := cc) (maxL := nL) (ret := some .int) hy hw ?_
  intro p e s m args below meth c s₁ B hml hv
  obtain ⟨ha, hh, hP, hK, hD, hZ⟩ := hv
  subst hh
  have hlocks := B.notSynchronized
  have hl := lv_entry av (n := nL) hn
  have hE : entryFrame m args nL = F0 m 0 (lg_sl av ++ List.replicate (nL - (lg_sl av).length) Slot.unset).toArray [] := by rw [ha, lg_entry_eq]
  rw [hE]
  refine body p e s m args below meth c _ (va_A (ws u) s.heap.size) _ ⟨B.exec, B.bytes, hml, findClass_of_methodNamed B.named, atoms_spec (ws := wds) B.pre⟩ hP hD.self (fun q h => Or.inr h) hK hZ va_S.rf hl (fun pc ls r u' H locs hP hD hS hd hp => ?_)
  exact W.iret B.exec B.bytes B.returns (fun t ht hW => ⟨⟨r, u', rfl, hp, by rw [ht]; exact hP, hD⟩, hS.F ht⟩) hS.2.2 hd
theorem met_mz {σ : Type} {ws : σ → va_W} {u : σ} {post : Int32 → σ → Prop} (hy : plainName y.cls = true) (hw : wds = Cond.code y cc nL (some .boolean) :: wds') (hn : (lg_sl av).length ≤ nL)
    (body : ∀ (p : Program) (e : Env) (s : State) (m : MethodId) (args : Array Value) (below : List Frame) (meth : Method) (c : Code) (Q : State → Prop) (A : Nat → Prop) (ls : Array Slot), CallFix p m c cc nL s args wds y.cls → va_P D vwCl (ws u) s.heap → va_D A (ws u) → (∀ q : Nat, s.heap.size ≤ q → A q) → va_K D vwCl (xtys k) s → xZ A s s.heap → va_S A s.heap s.heap [] → lv_has ls nL (lv_args 0 av) →
      (∀ (pc : Nat) (ls : Array Slot) (r : Int32) (u' : σ) (H : Heap) (locs : List Loc), va_P D vwCl (ws u') H → va_D A (ws u') → va_S A s.heap H locs → decode cc pc = .ok (.ireturn, 1) → nb r → post r u' → W p l e rm s m args below meth c H locs 0 0 Q (F0 m pc ls [.int r])) →
      W p l e rm s m args below meth c s.heap [] 0 0 Q (F0 m 0 ls [])) : CMi l y wds rm D k av ws u post := by
  intro sz
  refine Met.ofW (cc := cc) (maxL := nL) (ret := some .boolean) hy hw ?_
  intro p e s m args below meth c s₁ B hml hv
  obtain ⟨ha, hh, hP, hK, hD, hZ⟩ := hv
  subst hh
  have hlocks := B.notSynchronized
  have hl := lv_entry av (n := nL) hn
  have hE : entryFrame m args nL = F0 m 0 (lg_sl av ++ List.replicate (nL - (lg_sl av).length) Slot.unset).toArray [] := by rw [ha, lg_entry_eq]
  rw [hE]
  refine body p e s m args below meth c _ (va_A (ws u) s.heap.size) _ ⟨B.exec, B.bytes, hml, findClass_of_methodNamed B.named, atoms_spec (ws := wds) B.pre⟩ hP hD.self (fun q h => Or.inr h) hK hZ va_S.rf hl (fun pc ls r u' H locs hP hD hS hd hb hp => ?_)
  exact W.zret B.exec B.bytes B.returns hb (fun t ht hW => ⟨⟨r, u', rfl, hp, by rw [ht]; exact hP, hD⟩, hS.F ht⟩) hS.2.2 hd
theorem met_mv {σ : Type} {ws : σ → va_W} {u : σ} {post : σ → Prop} (hy : plainName y.cls = true) (hw : wds = Cond.code y cc nL none :: wds') (hn : (lg_sl av).length ≤ nL)
    (body : ∀ (p : Program) (e : Env) (s : State) (m : MethodId) (args : Array Value) (below : List Frame) (meth : Method) (c : Code) (Q : State → Prop) (A : Nat → Prop) (ls : Array Slot), CallFix p m c cc nL s args wds y.cls → va_P D vwCl (ws u) s.heap → va_D A (ws u) → (∀ q : Nat, s.heap.size ≤ q → A q) → va_K D vwCl (xtys k) s → xZ A s s.heap → va_S A s.heap s.heap [] → lv_has ls nL (lv_args 0 av) →
      (∀ (pc : Nat) (ls : Array Slot) (u' : σ) (H : Heap) (locs : List Loc), va_P D vwCl (ws u') H → va_D A (ws u') → va_S A s.heap H locs → decode cc pc = .ok (.return_, 1) → post u' → W p l e rm s m args below meth c H locs 0 0 Q (F0 m pc ls [])) →
      W p l e rm s m args below meth c s.heap [] 0 0 Q (F0 m 0 ls [])) : CMv l y wds rm D k av ws u post := by
  intro sz
  refine Met.ofW (cc := cc) (maxL := nL) (ret := none) hy hw ?_
  intro p e s m args below meth c s₁ B hml hv
  obtain ⟨ha, hh, hP, hK, hD, hZ⟩ := hv
  subst hh
  have hlocks := B.notSynchronized
  have hl := lv_entry av (n := nL) hn
  have hE : entryFrame m args nL = F0 m 0 (lg_sl av ++ List.replicate (nL - (lg_sl av).length) Slot.unset).toArray [] := by rw [ha, lg_entry_eq]
  rw [hE]
  refine body p e s m args below meth c _ (va_A (ws u) s.heap.size) _ ⟨B.exec, B.bytes, hml, findClass_of_methodNamed B.named, atoms_spec (ws := wds) B.pre⟩ hP hD.self (fun q h => Or.inr h) hK hZ va_S.rf hl (fun pc ls u' H locs hP hD hS hd hp => ?_)
  exact W.vret B.exec B.bytes B.returns (fun t ht hW => ⟨⟨u', rfl, hp, by rw [ht]; exact hP, hD⟩, hS.F ht⟩) hS.2.2 hd
end XA
section XB
variable {p : Program} {l : Launch} {e : Env} {R : Room} {s : State} {m : MethodId} {args : Array Value} {below : List Frame} {meth : Method} {c : Code} {H : Heap} {locs : List Loc} {cells slots : Nat} {Q : State → Prop} {pc : Nat} {ls : Array Slot} {rest st0 : List Value} {a : Array Value} {A : Nat → Prop} {D : va_G} {k : xC} {av : List Value}
theorem pcall {post : Int32 → Prop} (hr : va_Run p l e R s m args below meth c H locs cells slots 0 0 (F0 m pc ls st0) rest (va_Qi (fun r (_ : Unit) => post r) (fun _ t => t.heap = H) (fun _ => False) a) (fun _ => False))
    (kk : ∀ r : Int32, post r → W p l e R s m args below meth c H locs cells slots Q (F0 m (pc + 3) ls (.int r :: rest))) : W p l e R s m args below meth c H locs cells slots Q (F0 m pc ls st0) := by
  intro T hT X
  obtain ⟨v, st₀, t, T', L, h0, X', hL, e1, e2, ⟨⟨r, u, hv, hp, hb⟩, hz, hk⟩, st⟩ := hr T hT X
  cases hv
  have hLn : L = [] := List.eq_nil_iff_forall_not_mem.mpr (fun q hq => hL q hq)
  subst hLn
  rw [List.append_nil] at X'
  obtain ⟨t2, a1, b1⟩ := kk r hp T' (by rw [e1, hb]) X'
  exact ⟨t2, st t2 a1, b1⟩
theorem preS_p {world : va_W} (hP : va_P D vwCl world H) (hK : va_K D vwCl (xtys k) s) (hZ : xZ A s s.heap) (hS : va_S A s.heap H locs) : PreS s H (Pp D k av world H) av :=
  ⟨Pp_blind, fun _ hU hW => ⟨rfl, hU, hP, va_K.moved hW.alike hK, hZ.to hS hW (fun _ h => h.elim)⟩⟩
theorem preV_p {world : va_W} {C : String} {b : Addr} {As : List Value} (hR : ∃ cell : Cell, H[b]? = some cell ∧ cell.vm.isStatics = false ∧ s.vm.findClass C = some cell.cls) (hP : va_P D vwCl world H) (hK : va_K D vwCl (xtys k) s) (hZ : xZ A s s.heap) (hS : va_S A s.heap H locs) : PreV s H C b (Pp D k (.ref b :: As) world H) As :=
  ⟨Pp_blind, hR, fun _ hU hW => ⟨rfl, hU, hP, va_K.moved hW.alike hK, hZ.to hS hW (fun _ h => h.elim)⟩⟩
theorem preS_m {ws wc : va_W} (hP : va_P D vwCl ws H) (hD : va_D A ws) (hA : ∀ q : Nat, s.heap.size ≤ q → A q) (hK : va_K D vwCl (xtys k) s) (hZ : xZ A s s.heap) (hS : va_S A s.heap H locs) (isC : List Nat) (hc1 : isC.filterMap (fun i => ws[i]?) = wc) (hc2 : isC.map (fun i => ws[i]?) = wc.map some) (hn : va_nd isC = true) : PreS s H (Pm D k av wc H.size) av :=
  ⟨Pm_blind, fun _ hU hW => ⟨rfl, by rw [hU], by rw [hU]; exact hP.sub isC hc1, va_K.moved hW.alike hK, (hD.sub isC hn hc2).weaken (fun _ _ _ _ => trivial), by rw [hU]; exact hZ.to hS hW (va_free hD hS hA isC hc2)⟩⟩
theorem preV_m {ws wc : va_W} {C : String} {b : Addr} {As : List Value} (hR : ∃ cell : Cell, H[b]? = some cell ∧ cell.vm.isStatics = false ∧ s.vm.findClass C = some cell.cls) (hP : va_P D vwCl ws H) (hD : va_D A ws) (hA : ∀ q : Nat, s.heap.size ≤ q → A q) (hK : va_K D vwCl (xtys k) s) (hZ : xZ A s s.heap) (hS : va_S A s.heap H locs) (isC : List Nat) (hc1 : isC.filterMap (fun i => ws[i]?) = wc) (hc2 : isC.map (fun i => ws[i]?) = wc.map some) (hn : va_nd isC = true) : PreV s H C b (Pm D k (.ref b :: As) wc H.size) As :=
  ⟨Pm_blind, hR, (preS_m hP hD hA hK hZ hS isC hc1 hc2 hn).2⟩
theorem icall {σ : Type} {wc : σ → va_W} {u : σ} {ws wr : va_W} {post : Int32 → σ → Prop} (hr : va_Run p l e R s m args below meth c H locs cells slots 0 0 (F0 m pc ls st0) rest (va_Qi post (fun u' t => va_P D vwCl (wc u') t.heap ∧ va_D (va_A (wc u) H.size) (wc u')) (va_A (wc u) H.size) a) (va_A (wc u) H.size))
    (hP : va_P D vwCl ws H) (hD : va_D A ws) (hA : ∀ q : Nat, s.heap.size ≤ q → A q) (hS : va_S A s.heap H locs) (isC isR : List Nat) (hC : isC.map (fun i => ws[i]?) = (wc u).map some) (hR : isR.map (fun i => ws[i]?) = wr.map some) (hn : va_nd isR = true) (hdis : ∀ i ∈ isR, i ∉ isC)
    (kk : ∀ (r : Int32) (u' : σ) (H1 : Heap) (locs1 : List Loc), post r u' → va_P D vwCl (wr ++ wc u') H1 → va_D A (wr ++ wc u') → va_S A s.heap H1 locs1 → W p l e R s m args below meth c H1 locs1 cells slots Q (F0 m (pc + 3) ls (.int r :: rest))) : W p l e R s m args below meth c H locs cells slots Q (F0 m pc ls st0) := by
  have hF := va_free hD hS hA isC hC
  refine va_calli hr hS (fun q _ h => hF q h) hF (fun r u' t H1 locs1 ht hvm hp hB hz hk hS1 => ?_)
  obtain ⟨hP1, hD1⟩ := hB
  rw [ht] at hP1
  obtain ⟨h1, h2⟩ := va_join hP hD isC isR hC hR hn hdis hk hF hP1 hD1
  exact kk r u' H1 locs1 hp h1 h2 hS1
theorem vcall {σ : Type} {wc : σ → va_W} {u : σ} {ws wr : va_W} {post : σ → Prop} (hr : va_Run p l e R s m args below meth c H locs cells slots 0 0 (F0 m pc ls st0) rest (va_Qv post (fun u' t => va_P D vwCl (wc u') t.heap ∧ va_D (va_A (wc u) H.size) (wc u')) (va_A (wc u) H.size) a) (va_A (wc u) H.size))
    (hP : va_P D vwCl ws H) (hD : va_D A ws) (hA : ∀ q : Nat, s.heap.size ≤ q → A q) (hS : va_S A s.heap H locs) (isC isR : List Nat) (hC : isC.map (fun i => ws[i]?) = (wc u).map some) (hR : isR.map (fun i => ws[i]?) = wr.map some) (hn : va_nd isR = true) (hdis : ∀ i ∈ isR, i ∉ isC)
    (kk : ∀ (u' : σ) (H1 : Heap) (locs1 : List Loc), post u' → va_P D vwCl (wr ++ wc u') H1 → va_D A (wr ++ wc u') → va_S A s.heap H1 locs1 → W p l e R s m args below meth c H1 locs1 cells slots Q (F0 m (pc + 3) ls rest)) : W p l e R s m args below meth c H locs cells slots Q (F0 m pc ls st0) := by
  have hF := va_free hD hS hA isC hC
  refine va_callv hr hS (fun q _ h => hF q h) hF (fun u' t H1 locs1 ht hvm hp hB hz hk hS1 => ?_)
  obtain ⟨hP1, hD1⟩ := hB
  rw [ht] at hP1
  obtain ⟨h1, h2⟩ := va_join hP hD isC isR hC hR hn hdis hk hF hP1 hD1
  exact kk u' H1 locs1 hp h1 h2 hS1
end XB
