/-! constructors -/
theorem xa_newa {p : Program} {l : Launch} {e : Env} {R : Room} {s : State} {m : MethodId} {args : Array Value} {below : List Frame} {meth : Method} {c : Code} {H : Heap} {locs : List Loc} {cells slots : Nat} {Q : State → Prop} {pc : Nat} {ls : Array Slot} {rest : List Value} {A : Nat → Prop} {D : va_G} {cl : List vw_C} {tys : List (ClassId × FieldType)} {ws : va_W} {H0 : Heap} {cc : ByteArray} (hexec : p.tables.exec = Jvm.exec) (hb : c.code = cc) {atype : ArrayType} (harr : (Cond.arrayClass (newarray.typeOf atype)).before args s = true) {ty : FieldType} (hty : newarray.typeOf atype = ty) (hpr : ty = .int ∨ ty = .boolean) (hK : va_K D cl tys s) (hP : va_P D cl ws H) (hD : va_D A ws) (hS : va_S A H0 H locs) (hA : ∀ q, H0.size ≤ q → A q) (t0 : Nat) {cA0 : ClassId} (ht : tys[t0]? = some (cA0, ty))
    {n : Int32} {NN : Nat} {a0 : vp_A} (ha : ∀ cA : ClassId, vp_cell cA a0 = arrV cA NN (fun _ => defaultValue ty)) (hn : ¬ n < 0) (hN : n.toNatClampNeg = NN) (hbytes : NN * componentBytes ty ≤ 536870912) (hcells : cells + 1 ≤ R.cells) (hslots : slots + NN ≤ R.slots) (hdg : decode cc pc = .ok (.newarray atype, 2))
    (kk : ∀ (q : Nat) (H1 : Heap), va_P D cl (ws ++ [(q, .inl (cA0, a0))]) H1 → va_D A (ws ++ [(q, .inl (cA0, a0))]) → va_S A H0 H1 locs →
      W p l e R s m args below meth c H1 locs (cells + 1) (slots + NN) Q (F0 m (pc + 2) ls (.ref q :: rest))) : W p l e R s m args below meth c H locs cells slots Q (F0 m pc ls (.int n :: rest)) := by
  refine va_newa hexec hb harr hty hK hP hD hS hA ha hn hN hbytes hcells hslots hdg (fun q cA H1 hK1 hP1 hD1 hS1 => ?_)
  have h1 := (hK1.2 tys.length (cA, ty) (by simp)).2
  have h2 := (hK.2 t0 (cA0, ty) ht).2
  have e : cA = cA0 := by
    rcases hpr with rfl | rfl
    · exact Option.some.inj (Eq.trans (Eq.symm h1) h2)
    · exact Option.some.inj (Eq.trans (Eq.symm h1) h2)
  subst e
  exact kk q H1 hP1 hD1 hS1
theorem cell0i (n : Nat) : ∀ cA : ClassId, vp_cell cA (n, .inl (fun _ => 0)) = arrV cA n (fun _ => defaultValue .int) := fun _ => rfl
theorem cell0z (n : Nat) : ∀ cA : ClassId, vp_cell cA (n, .inl (fun _ => 0)) = arrV cA n (fun _ => defaultValue .boolean) := fun _ => rfl
def PN (D : va_G) (k : xC) (h0 : Nat) (w0 : va_W) (sz : Nat) : Array Value → State → Prop := va_Pc [.ref h0] (fun U => U.heap.size = sz ∧ va_P D vwCl w0 U.heap ∧ va_K D vwCl (xtys k) U ∧ va_D (fun _ => True) w0 ∧ xN U)
theorem PN_blind {D : va_G} {k : xC} {h0 : Nat} {w0 : va_W} {sz : Nat} : FrameBlind (PN D k h0 w0 sz) := fun a U g mk h => by
  obtain ⟨h0, h1, h2, h3, h4, h5⟩ := h
  exact ⟨h0, h1, h2, va_K.moved (u := U) (U := U.calling g mk a) (Vm.Alike.refl U.vm) h3, h4, fun q hq => va_Nw.same rfl rfl (h5 q hq)⟩
def CN (l : Launch) (y : MethodName) (wds : List Cond) (rm : Room) (D : va_G) (k : xC) (h0 : Nat) (w0 : va_W) (B : (Nat → Prop) → Heap → Prop) (mc ms : Nat) : Prop := ∀ sz : Nat, Met l y wds rm (PN D k h0 w0 sz) (va_Qv (fun _ : Unit => True) (fun _ t => B (va_A w0 sz) t.heap) (va_A w0 sz)) mc ms (va_A w0 sz)
theorem met_in {l : Launch} {y : MethodName} {wds wds' : List Cond} {rm : Room} {cc : ByteArray} {D : va_G} {k : xC} {h0 : Nat} {w0 : va_W} {B : (Nat → Prop) → Heap → Prop} {mc ms : Nat} (hy : plainName y.cls = true) (hw : wds = Cond.code y cc 1 none :: wds') (hyn : y.name = "<init>")
    (body : ∀ (p : Program) (e : Env) (s : State) (m : MethodId) (args : Array Value) (below : List Frame) (meth : Method) (c : Code) (Q : State → Prop) (A : Nat → Prop) (ls : Array Slot), CallFix p m c cc 1 s args wds y.cls → meth.name = "<init>" → va_P D vwCl w0 s.heap → va_D A w0 → (∀ q : Nat, s.heap.size ≤ q → A q) → va_K D vwCl (xtys k) s → xN s → va_S A s.heap s.heap [] → lv_has ls 1 [(0, .ref h0)] →
      (∀ (pc : Nat) (ls : Array Slot) (H : Heap) (locs : List Loc), B A H → va_S A s.heap H locs → decode cc pc = .ok (.return_, 1) → W p l e rm s m args below meth c H locs mc ms Q (F0 m pc ls [])) →
      W p l e rm s m args below meth c s.heap [] 0 0 Q (F0 m 0 ls [])) : CN l y wds rm D k h0 w0 B mc ms := by
  intro sz
  refine Met.ofW (cc := cc) (maxL := 1) (ret := none) hy hw ?_
  intro p e s m args below meth c s₁ Bo hml hv
  obtain ⟨ha, hh, hP, hK, hD, hN⟩ := hv
  subst hh
  have hlocks := Bo.notSynchronized
  have hl := lv_entry [.ref h0] (n := 1) (Nat.le_of_ble_eq_true rfl)
  have hE : entryFrame m args 1 = F0 m 0 (lg_sl [.ref h0] ++ List.replicate (1 - (lg_sl [.ref h0]).length) Slot.unset).toArray [] := by rw [ha, lg_entry_eq]
  rw [hE]
  refine body p e s m args below meth c _ (va_A w0 s.heap.size) _ ⟨Bo.exec, Bo.bytes, hml, findClass_of_methodNamed Bo.named, atoms_spec (ws := wds) Bo.pre⟩ (((name_of_methodNamed Bo.named Bo.method).1).trans hyn) hP hD.self (fun q h => Or.inr h) hK hN va_S.rf hl (fun pc ls H locs hB hS hd => ?_)
  exact W.vret Bo.exec Bo.bytes Bo.returns (fun t ht hW => ⟨⟨(), rfl, trivial, by show B _ t.heap; rw [ht]; exact hB⟩, hS.F ht⟩) hS.2.2 hd
section XI
variable {p : Program} {l : Launch} {e : Env} {R : Room} {s : State} {m : MethodId} {args : Array Value} {below : List Frame} {meth : Method} {c : Code} {H : Heap} {locs : List Loc} {cells slots : Nat} {Q : State → Prop} {pc : Nat} {ls : Array Slot} {rest st0 : List Value} {a : Array Value} {A : Nat → Prop} {D : va_G} {k : xC} {h0 : Nat}
theorem preS_n {ws w0 : va_W} (hP : va_P D vwCl ws H) (hD : va_D A ws) (hK : va_K D vwCl (xtys k) s) (hN : xN s) (isC : List Nat) (hc1 : isC.filterMap (fun i => ws[i]?) = w0) (hc2 : isC.map (fun i => ws[i]?) = w0.map some) (hn : va_nd isC = true) : PreS s H (PN D k h0 w0 H.size) [.ref h0] :=
  ⟨PN_blind, fun _ hU hW => ⟨rfl, by rw [hU], by rw [hU]; exact hP.sub isC hc1, va_K.moved hW.alike hK, (hD.sub isC hn hc2).weaken (fun _ _ _ _ => trivial), hN.warm hW⟩⟩
theorem ncall {w0 ws wr : va_W} {B : (Nat → Prop) → Heap → Prop} {mc ms : Nat} (hr : va_Run p l e R s m args below meth c H locs cells slots mc ms (F0 m pc ls st0) rest (va_Qv (fun _ : Unit => True) (fun _ t => B (va_A w0 H.size) t.heap) (va_A w0 H.size) a) (va_A w0 H.size))
    (hP : va_P D vwCl ws H) (hD : va_D A ws) (hA : ∀ q : Nat, s.heap.size ≤ q → A q) (hS : va_S A s.heap H locs) (isC isR : List Nat) (hC : isC.map (fun i => ws[i]?) = w0.map some) (hR : isR.map (fun i => ws[i]?) = wr.map some) (hn : va_nd isR = true) (hdis : ∀ i ∈ isR, i ∉ isC)
    (kk : ∀ (H1 : Heap) (locs1 : List Loc), B (va_A w0 H.size) H1 → (∀ w1 : va_W, va_P D vwCl w1 H1 → va_D (va_A w0 H.size) w1 → va_P D vwCl (wr ++ w1) H1 ∧ va_D A (wr ++ w1)) → va_S A s.heap H1 locs1 → W p l e R s m args below meth c H1 locs1 (cells + mc) (slots + ms) Q (F0 m (pc + 3) ls rest)) : W p l e R s m args below meth c H locs cells slots Q (F0 m pc ls st0) := by
  have hF := va_free hD hS hA isC hC
  refine va_callv hr hS (fun q _ h => hF q h) hF (fun _ t H1 locs1 ht hvm _ hB hz hk hS1 => ?_)
  rw [ht] at hB
  exact kk H1 locs1 hB (fun w1 h1 h2 => va_join hP hD isC isR hC hR hn hdis hk hF h1 h2) hS1
end XI
