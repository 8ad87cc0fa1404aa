set_option maxHeartbeats 4000000 in
set_option maxRecDepth 100000 in
theorem law_go (l : Launch) (D : va_G) (g h : Nat → Nat) (k : xC) (b L : Nat) (xs : Nat → Int32) (fd : Int32) (cd : Int32) (cr : Int32) (tr : Int32) (ro : Nat → Int32) (nw : Nat → Int32) (kp : Nat → Int32) (qu : Nat → Int32) (qd : Nat → Int32) (ql : Int32) (kd : Nat → Int32) (fm : Nat → Int32) (tk : Nat → Int32) (mr : Nat → Int32) (mw : Nat → Int32) (mk : Nat → Int32) (ml : Nat → Int32) (mq : Nat → Int32) (mwt : Nat → Int32) (mn : Int32) (mt : Int32) (mcl : Int32) (mcr : Int32) (mth : Int32) (mkind : Nat → Int32) (msort : Nat → Int32) (mfirst : Nat → Int32) (mblk : Nat → Int32) (mfree : Nat → Int32) (mfnd : Nat → Int32) (mfm : Int32) (msn : Nat → Int32) (post : Int32 → Prop) (hw : wL_law post L xs fd cd cr tr ro nw kp qu qd ql kd fm tk mr mw mk ml mq mwt mn mt mcl mcr mth mkind msort mfirst mblk mfree mfnd mfm msn) {p : Program} {e : Env} {s : State} {m : MethodId} {below : List Frame} {meth : Method} {c : Code} {Q : State → Prop} {A : Nat → Prop} (hC : CallFix p m c cL_law 4 s #[Value.ref b] wsL_law RL) (hX : va_X b L xs s s.heap) (hbl : b < s.heap.size) (hbA : ¬ A b) (hA : ∀ q : Nat, s.heap.size ≤ q → A q) (hK : va_K D vwCl (xtys k) s) (hZ : xZ A s s.heap) (hret : ∀ (pc : Nat) (ls : Array Slot) (r : Int32) (H : Heap) (locs : List Loc), va_S A s.heap H locs → decode cL_law pc = .ok (.ireturn, 1) → post r → W p l e room_1 s m #[Value.ref b] below meth c H locs 25 33050 Q (F0 m pc ls [.int r])) (ls : Array Slot) (hl : lv_has ls 4 [(2, .ref (h 0)), (1, .ref (g 0)), (0, .ref b)]) (H : Heap) (locs : List Loc) (hP : va_P D vwCl (xL g h k fd cd cr tr ro nw kp qu qd ql kd fm tk mr mw mk ml mq mwt mn mt mcl mcr mth mkind msort mfirst mblk mfree mfnd mfm msn) H) (hD : va_D A (xL g h k fd cd cr tr ro nw kp qu qd ql kd fm tk mr mw mk ml mq mwt mn mt mcl mcr mth mkind msort mfirst mblk mfree mfnd mfm msn)) (hS : va_S A s.heap H locs) : W p l e room_1 s m #[Value.ref b] below meth c H locs 25 33050 Q (F0 m 16 ls []) := by
  obtain ⟨hx, hb, hml, hown, hts⟩ := id hC
  have B453 : ∀ (J18 : Int32 → Int32 → Int32 → Int32 → Int32 → (Nat → Int32) → (Nat → Int32) → (Nat → Int32) → (Nat → Int32) → (Nat → Int32) → Int32 → (Nat → Int32) → (Nat → Int32) → (Nat → Int32) → (Nat → Int32) → (Nat → Int32) → (Nat → Int32) → (Nat → Int32) → (Nat → Int32) → (Nat → Int32) → Int32 → Int32 → Int32 → Int32 → Int32 → (Nat → Int32) → (Nat → Int32) → (Nat → Int32) → (Nat → Int32) → (Nat → Int32) → (Nat → Int32) → Int32 → (Nat → Int32) → Prop) (hJ18 : ∀ (x3 : Int32), ∀ (fd : Int32), ∀ (cd : Int32), ∀ (cr : Int32), ∀ (tr : Int32), ∀ (ro : Nat → Int32), ∀ (nw : Nat → Int32), ∀ (kp : Nat → Int32), ∀ (qu : Nat → Int32), ∀ (qd : Nat → Int32), ∀ (ql : Int32), ∀ (kd : Nat → Int32), ∀ (fm : Nat → Int32), ∀ (tk : Nat → Int32), ∀ (mr : Nat → Int32), ∀ (mw : Nat → Int32), ∀ (mk : Nat → Int32), ∀ (ml : Nat → Int32), ∀ (mq : Nat → Int32), ∀ (mwt : Nat → Int32), ∀ (mn : Int32), ∀ (mt : Int32), ∀ (mcl : Int32), ∀ (mcr : Int32), ∀ (mth : Int32), ∀ (mkind : Nat → Int32), ∀ (msort : Nat → Int32), ∀ (mfirst : Nat → Int32), ∀ (mblk : Nat → Int32), ∀ (mfree : Nat → Int32), ∀ (mfnd : Nat → Int32), ∀ (mfm : Int32), ∀ (msn : Nat → Int32), ∀ (H : Heap) (locs : List Loc), va_P D vwCl (xL g h k fd cd cr tr ro nw kp qu qd ql kd fm tk mr mw mk ml mq mwt mn mt mcl mcr mth mkind msort mfirst mblk mfree mfnd mfm msn) H → va_D A (xL g h k fd cd cr tr ro nw kp qu qd ql kd fm tk mr mw mk ml mq mwt mn mt mcl mcr mth mkind msort mfirst mblk mfree mfnd mfm msn) → va_S A s.heap H locs → ∀ (ls : Array Slot), lv_has ls 4 [(0, .ref b), (1, .ref (g 0)), (2, .ref (h 0)), (3, .int x3)] → J18 x3 fd cd cr tr ro nw kp qu qd ql kd fm tk mr mw mk ml mq mwt mn mt mcl mcr mth mkind msort mfirst mblk mfree mfnd mfm msn → W p l e room_1 s m #[Value.ref b] below meth c H locs 25 33050 Q (F0 m 18 ls [])) , ∀ (x3 : Int32), ∀ (z0 : Int32), ∀ (z1 : Int32), ∀ (z3 : Int32), ∀ (fd : Int32), ∀ (cd : Int32), ∀ (cr : Int32), ∀ (tr : Int32), ∀ (ro : Nat → Int32), ∀ (nw : Nat → Int32), ∀ (kp : Nat → Int32), ∀ (qu : Nat → Int32), ∀ (qd : Nat → Int32), ∀ (ql : Int32), ∀ (kd : Nat → Int32), ∀ (fm : Nat → Int32), ∀ (tk : Nat → Int32), ∀ (mr : Nat → Int32), ∀ (mw : Nat → Int32), ∀ (mk : Nat → Int32), ∀ (ml : Nat → Int32), ∀ (mq : Nat → Int32), ∀ (mwt : Nat → Int32), ∀ (mn : Int32), ∀ (mt : Int32), ∀ (mcl : Int32), ∀ (mcr : Int32), ∀ (mth : Int32), ∀ (mkind : Nat → Int32), ∀ (msort : Nat → Int32), ∀ (mfirst : Nat → Int32), ∀ (mblk : Nat → Int32), ∀ (mfree : Nat → Int32), ∀ (mfnd : Nat → Int32), ∀ (mfm : Int32), ∀ (msn : Nat → Int32), ∀ (H : Heap) (locs : List Loc), va_P D vwCl (xL g h k fd cd cr tr ro nw kp qu qd ql kd fm tk mr mw mk ml mq mwt mn mt mcl mcr mth mkind msort mfirst mblk mfree mfnd mfm msn) H → va_D A (xL g h k fd cd cr tr ro nw kp qu qd ql kd fm tk mr mw mk ml mq mwt mn mt mcl mcr mth mkind msort mfirst mblk mfree mfnd mfm msn) → va_S A s.heap H locs → ∀ (ls : Array Slot), lv_has ls 4 [(0, .ref b), (1, .ref (g 0)), (2, .ref (h 0)), (3, .int x3)] → wL_law_453 post L xs J18 x3 z0 z1 z3 fd cd cr tr ro nw kp qu qd ql kd fm tk mr mw mk ml mq mwt mn mt mcl mcr mth mkind msort mfirst mblk mfree mfnd mfm msn → W p l e room_1 s m #[Value.ref b] below meth c H locs 25 33050 Q (F0 m 453 ls [.int z0, .int z1, .ref (h 0), .int z3]) := by
    intro J18 hJ18 x3 z0 z1 z3 fd cd cr tr ro nw kp qu qd ql kd fm tk mr mw mk ml mq mwt mn mt mcl mcr mth mkind msort mfirst mblk mfree mfnd mfm msn H locs hP hD hS ls hl hw
    unfold wL_law_453 at hw
    refine icall (wr := [(g 0, .inr (2, [.ref (g 2), .ref (g 7), .ref (g 1), .int fd, .int cd, .int cr, .int tr])), (g 1, .inl (k.1, 2040, .inl ro)), (g 2, .inr (1, [.ref (g 3), .ref (g 4), .ref (g 5), .ref (g 6), .int ql])), (g 3, .inl (k.1, 4096, .inl nw)), (g 4, .inl (k.1, 4096, .inl kp)), (g 5, .inl (k.1, 512, .inl qu)), (g 6, .inl (k.2, 512, .inl qd)), (g 7, .inr (0, [.ref (g 8), .ref (g 9), .ref (g 10), .ref (g 11)])), (g 8, .inl (k.1, 256, .inl kd)), (g 9, .inl (k.1, 256, .inl fm)), (g 10, .inl (k.1, 256, .inl tk)), (g 11, .inl (k.1, 256, .inl mr))]) (va_runV (As := [.int z1, .int z0]) (rest := [.int z3]) hC (c_X3_word l D h k mw mk ml mq mwt mn mt mcl mcr mth mkind msort mfirst mblk mfree mfnd mfm msn z1 z0 _ hw H.size) (cwV 2 hts gL_law_X3_word rfl rfl rfl (by decide +kernel) ⟨Nat.le_of_ble_eq_true rfl, Nat.le_of_ble_eq_true rfl⟩) (preV_m (va_recv hK hP (ci := 3) (q0 := 12) rfl rfl) hP hD hA hK hZ hS [12, 13, 14, 15, 16, 17, 18, 19, 20, 21, 22, 23, 24] rfl rfl (by decide)) rfl rfl hl.1 rfl (lv_room (Nat.le_of_ble_eq_true rfl)) dL_law_453 ⟨Nat.le_of_ble_eq_true rfl, Nat.le_of_ble_eq_true rfl⟩) hP hD hA hS [12, 13, 14, 15, 16, 17, 18, 19, 20, 21, 22, 23, 24] [0, 1, 2, 3, 4, 5, 6, 7, 8, 9, 10, 11] rfl rfl (by decide) (by decide) (fun r_212 u' H locs hw hP hD hS => ?_)
    obtain ⟨mth_211, rfl⟩ : ∃ z, z = u' := ⟨_, rfl⟩
    try dsimp only at hw
    have hP : va_P D vwCl (xL g h k fd cd cr tr ro nw kp qu qd ql kd fm tk mr mw mk ml mq mwt mn mt mcl mcr mth_211 mkind msort mfirst mblk mfree mfnd mfm msn) H := hP.sub [0, 1, 2, 3, 4, 5, 6, 7, 8, 9, 10, 11, 12, 13, 14, 15, 16, 17, 18, 19, 20, 21, 22, 23, 24] rfl
    have hD : va_D A (xL g h k fd cd cr tr ro nw kp qu qd ql kd fm tk mr mw mk ml mq mwt mn mt mcl mcr mth_211 mkind msort mfirst mblk mfree mfnd mfm msn) := hD.sub [0, 1, 2, 3, 4, 5, 6, 7, 8, 9, 10, 11, 12, 13, 14, 15, 16, 17, 18, 19, 20, 21, 22, 23, 24] (by decide) rfl
    refine lv_icmp_eq (tgt := 731) hx hb dL_law_456 (by decide) (fun c_213 => ?_) (fun c_213 => ?_)
    · have hw := hw.1 c_213
      obtain ⟨x3_214, ex3_214⟩ : ∃ y : Int32, y = x3 + 4 := ⟨_, rfl⟩
      have hw := hw x3_214 ex3_214
      refine lv_iinc (v := x3_214) (lv' := [(3, .int x3_214), (0, .ref b), (1, .ref (g 0)), (2, .ref (h 0))]) hx hb dL_law_731 hl (k := 3) rfl (by rw [ex3_214]; rfl) (by decide) rfl (fun ls hl => ?_)
      refine lv_goto (tgt := 18) hx hb dL_law_734 (by decide) ?_
      exact hJ18 x3_214 fd cd cr tr ro nw kp qu qd ql kd fm tk mr mw mk ml mq mwt mn mt mcl mcr mth_211 mkind msort mfirst mblk mfree mfnd mfm msn H locs hP hD hS ls (lv_sub hl [1, 2, 3, 0] rfl) hw
    · have hw := hw.2 c_213
      refine lv_iconst (v := 0) hx hb dL_law_459 (by decide) ?_
      exact hret _ _ _ _ _ hS dL_law_460 hw
  have B431 : ∀ (J18 : Int32 → Int32 → Int32 → Int32 → Int32 → (Nat → Int32) → (Nat → Int32) → (Nat → Int32) → (Nat → Int32) → (Nat → Int32) → Int32 → (Nat → Int32) → (Nat → Int32) → (Nat → Int32) → (Nat → Int32) → (Nat → Int32) → (Nat → Int32) → (Nat → Int32) → (Nat → Int32) → (Nat → Int32) → Int32 → Int32 → Int32 → Int32 → Int32 → (Nat → Int32) → (Nat → Int32) → (Nat → Int32) → (Nat → Int32) → (Nat → Int32) → (Nat → Int32) → Int32 → (Nat → Int32) → Prop) (hJ18 : ∀ (x3 : Int32), ∀ (fd : Int32), ∀ (cd : Int32), ∀ (cr : Int32), ∀ (tr : Int32), ∀ (ro : Nat → Int32), ∀ (nw : Nat → Int32), ∀ (kp : Nat → Int32), ∀ (qu : Nat → Int32), ∀ (qd : Nat → Int32), ∀ (ql : Int32), ∀ (kd : Nat → Int32), ∀ (fm : Nat → Int32), ∀ (tk : Nat → Int32), ∀ (mr : Nat → Int32), ∀ (mw : Nat → Int32), ∀ (mk : Nat → Int32), ∀ (ml : Nat → Int32), ∀ (mq : Nat → Int32), ∀ (mwt : Nat → Int32), ∀ (mn : Int32), ∀ (mt : Int32), ∀ (mcl : Int32), ∀ (mcr : Int32), ∀ (mth : Int32), ∀ (mkind : Nat → Int32), ∀ (msort : Nat → Int32), ∀ (mfirst : Nat → Int32), ∀ (mblk : Nat → Int32), ∀ (mfree : Nat → Int32), ∀ (mfnd : Nat → Int32), ∀ (mfm : Int32), ∀ (msn : Nat → Int32), ∀ (H : Heap) (locs : List Loc), va_P D vwCl (xL g h k fd cd cr tr ro nw kp qu qd ql kd fm tk mr mw mk ml mq mwt mn mt mcl mcr mth mkind msort mfirst mblk mfree mfnd mfm msn) H → va_D A (xL g h k fd cd cr tr ro nw kp qu qd ql kd fm tk mr mw mk ml mq mwt mn mt mcl mcr mth mkind msort mfirst mblk mfree mfnd mfm msn) → va_S A s.heap H locs → ∀ (ls : Array Slot), lv_has ls 4 [(0, .ref b), (1, .ref (g 0)), (2, .ref (h 0)), (3, .int x3)] → J18 x3 fd cd cr tr ro nw kp qu qd ql kd fm tk mr mw mk ml mq mwt mn mt mcl mcr mth mkind msort mfirst mblk mfree mfnd mfm msn → W p l e room_1 s m #[Value.ref b] below meth c H locs 25 33050 Q (F0 m 18 ls [])) , ∀ (x3 : Int32), ∀ (z0 : Int32), ∀ (z1 : Int32), ∀ (fd : Int32), ∀ (cd : Int32), ∀ (cr : Int32), ∀ (tr : Int32), ∀ (ro : Nat → Int32), ∀ (nw : Nat → Int32), ∀ (kp : Nat → Int32), ∀ (qu : Nat → Int32), ∀ (qd : Nat → Int32), ∀ (ql : Int32), ∀ (kd : Nat → Int32), ∀ (fm : Nat → Int32), ∀ (tk : Nat → Int32), ∀ (mr : Nat → Int32), ∀ (mw : Nat → Int32), ∀ (mk : Nat → Int32), ∀ (ml : Nat → Int32), ∀ (mq : Nat → Int32), ∀ (mwt : Nat → Int32), ∀ (mn : Int32), ∀ (mt : Int32), ∀ (mcl : Int32), ∀ (mcr : Int32), ∀ (mth : Int32), ∀ (mkind : Nat → Int32), ∀ (msort : Nat → Int32), ∀ (mfirst : Nat → Int32), ∀ (mblk : Nat → Int32), ∀ (mfree : Nat → Int32), ∀ (mfnd : Nat → Int32), ∀ (mfm : Int32), ∀ (msn : Nat → Int32), ∀ (H : Heap) (locs : List Loc), va_P D vwCl (xL g h k fd cd cr tr ro nw kp qu qd ql kd fm tk mr mw mk ml mq mwt mn mt mcl mcr mth mkind msort mfirst mblk mfree mfnd mfm msn) H → va_D A (xL g h k fd cd cr tr ro nw kp qu qd ql kd fm tk mr mw mk ml mq mwt mn mt mcl mcr mth mkind msort mfirst mblk mfree mfnd mfm msn) → va_S A s.heap H locs → ∀ (ls : Array Slot), lv_has ls 4 [(0, .ref b), (1, .ref (g 0)), (2, .ref (h 0)), (3, .int x3)] → wL_law_431 post L xs J18 x3 z0 z1 fd cd cr tr ro nw kp qu qd ql kd fm tk mr mw mk ml mq mwt mn mt mcl mcr mth mkind msort mfirst mblk mfree mfnd mfm msn → W p l e room_1 s m #[Value.ref b] below meth c H locs 25 33050 Q (F0 m 431 ls [.int z0, .int z1, .ref (g 0)]) := by
    intro J18 hJ18 x3 z0 z1 fd cd cr tr ro nw kp qu qd ql kd fm tk mr mw mk ml mq mwt mn mt mcl mcr mth mkind msort mfirst mblk mfree mfnd mfm msn H locs hP hD hS ls hl hw
    unfold wL_law_431 at hw
    refine pcall (va_runV (As := [.int z1, .int z0]) (rest := []) hC (c_X2_word l D g k fd cd cr tr ro nw kp qu qd ql kd fm tk mr z1 z0 _ hw H) (cwV 2 hts gL_law_X2_word rfl rfl rfl (by decide +kernel) ⟨Nat.le_of_ble_eq_true rfl, Nat.le_of_ble_eq_true rfl⟩) (preV_p (va_recv hK hP (ci := 2) (q0 := 0) rfl rfl) (hP.sub [0, 1, 2, 3, 4, 5, 6, 7, 8, 9, 10, 11] rfl) hK hZ hS) rfl rfl hl.1 rfl (lv_room (Nat.le_of_ble_eq_true rfl)) dL_law_431 ⟨Nat.le_of_ble_eq_true rfl, Nat.le_of_ble_eq_true rfl⟩) (fun r_207 hw => ?_)
    refine lv_aload_n hx hb dL_law_434 rfl (lv_at hl 2 rfl) ?_
    refine lv_aload_n hx hb dL_law_435 rfl (lv_at hl 0 rfl) ?_
    refine lv_iload_n hx hb dL_law_436 rfl (lv_at hl 3 rfl) ?_
    refine lv_iconst (v := 1) hx hb dL_law_437 (by decide) ?_
    refine lv_iadd hx hb dL_law_438 ?_
    obtain ⟨h_208, hw⟩ := hw
    refine va_sld hx hb hX hbl hbA hS h_208 dL_law_439 ?_
    refine lv_aload_n hx hb dL_law_440 rfl (lv_at hl 0 rfl) ?_
    refine lv_iload_n hx hb dL_law_441 rfl (lv_at hl 3 rfl) ?_
    refine lv_iconst (v := 2) hx hb dL_law_442 (by decide) ?_
    refine lv_iadd hx hb dL_law_443 ?_
    obtain ⟨h_209, hw⟩ := hw
    refine va_sld hx hb hX hbl hbA hS h_209 dL_law_444 ?_
    refine lv_if_eq (tgt := 452) hx hb dL_law_445 (by decide) (fun c_210 => ?_) (fun c_210 => ?_)
    · have hw := hw.1 c_210
      refine lv_iconst (v := 0) hx hb dL_law_452 (by decide) ?_
      exact B453 J18 hJ18 x3 0 (xs (x3 + 1).toNatClampNeg) r_207 fd cd cr tr ro nw kp qu qd ql kd fm tk mr mw mk ml mq mwt mn mt mcl mcr mth mkind msort mfirst mblk mfree mfnd mfm msn H locs hP hD hS ls (lv_sub hl [0, 1, 2, 3] rfl) hw
    · have hw := hw.2 c_210
      refine lv_iconst (v := 1) hx hb dL_law_448 (by decide) ?_
      refine lv_goto (tgt := 453) hx hb dL_law_449 (by decide) ?_
      exact B453 J18 hJ18 x3 1 (xs (x3 + 1).toNatClampNeg) r_207 fd cd cr tr ro nw kp qu qd ql kd fm tk mr mw mk ml mq mwt mn mt mcl mcr mth mkind msort mfirst mblk mfree mfnd mfm msn H locs hP hD hS ls (lv_sub hl [0, 1, 2, 3] rfl) hw
  have B18 : ∀ (fu : Nat), ∀ (x3 : Int32), ∀ (fd : Int32), ∀ (cd : Int32), ∀ (cr : Int32), ∀ (tr : Int32), ∀ (ro : Nat → Int32), ∀ (nw : Nat → Int32), ∀ (kp : Nat → Int32), ∀ (qu : Nat → Int32), ∀ (qd : Nat → Int32), ∀ (ql : Int32), ∀ (kd : Nat → Int32), ∀ (fm : Nat → Int32), ∀ (tk : Nat → Int32), ∀ (mr : Nat → Int32), ∀ (mw : Nat → Int32), ∀ (mk : Nat → Int32), ∀ (ml : Nat → Int32), ∀ (mq : Nat → Int32), ∀ (mwt : Nat → Int32), ∀ (mn : Int32), ∀ (mt : Int32), ∀ (mcl : Int32), ∀ (mcr : Int32), ∀ (mth : Int32), ∀ (mkind : Nat → Int32), ∀ (msort : Nat → Int32), ∀ (mfirst : Nat → Int32), ∀ (mblk : Nat → Int32), ∀ (mfree : Nat → Int32), ∀ (mfnd : Nat → Int32), ∀ (mfm : Int32), ∀ (msn : Nat → Int32), ∀ (H : Heap) (locs : List Loc), va_P D vwCl (xL g h k fd cd cr tr ro nw kp qu qd ql kd fm tk mr mw mk ml mq mwt mn mt mcl mcr mth mkind msort mfirst mblk mfree mfnd mfm msn) H → va_D A (xL g h k fd cd cr tr ro nw kp qu qd ql kd fm tk mr mw mk ml mq mwt mn mt mcl mcr mth mkind msort mfirst mblk mfree mfnd mfm msn) → va_S A s.heap H locs → ∀ (ls : Array Slot), lv_has ls 4 [(0, .ref b), (1, .ref (g 0)), (2, .ref (h 0)), (3, .int x3)] → wL_law_18 post L xs fu x3 fd cd cr tr ro nw kp qu qd ql kd fm tk mr mw mk ml mq mwt mn mt mcl mcr mth mkind msort mfirst mblk mfree mfnd mfm msn → W p l e room_1 s m #[Value.ref b] below meth c H locs 25 33050 Q (F0 m 18 ls []) := by
    intro  fu
    induction fu with
    | zero =>
      intro x3 fd cd cr tr ro nw kp qu qd ql kd fm tk mr mw mk ml mq mwt mn mt mcl mcr mth mkind msort mfirst mblk mfree mfnd mfm msn H locs hP hD hS ls hl hw
      exact absurd hw (by unfold wL_law_18; exact fun q => q)
    | succ n ih =>
      intro x3 fd cd cr tr ro nw kp qu qd ql kd fm tk mr mw mk ml mq mwt mn mt mcl mcr mth mkind msort mfirst mblk mfree mfnd mfm msn H locs hP hD hS ls hl hw
      unfold wL_law_18 at hw
      refine lv_iload_n hx hb dL_law_18 rfl (lv_at hl 3 rfl) ?_
      refine lv_aload_n hx hb dL_law_19 rfl (lv_at hl 0 rfl) ?_
      refine va_slen hx hb hX hbl hbA hS dL_law_20 ?_
      refine lv_iconst (v := 4) hx hb dL_law_21 (by decide) ?_
      refine lv_isub hx hb dL_law_22 ?_
      refine lv_icmp_gt (tgt := 737) hx hb dL_law_23 (by decide) (fun c_1 => ?_) (fun c_1 => ?_)
      · have hw := hw.1 c_1
        refine lv_iconst (v := 1) hx hb dL_law_737 (by decide) ?_
        exact hret _ _ _ _ _ hS dL_law_738 hw
      · have hw := hw.2 c_1
        refine lv_aload_n hx hb dL_law_26 rfl (lv_at hl 0 rfl) ?_
        refine lv_iload_n hx hb dL_law_27 rfl (lv_at hl 3 rfl) ?_
        obtain ⟨h_2, hw⟩ := hw
        refine va_sld hx hb hX hbl hbA hS h_2 dL_law_28 ?_
        refine lv_bipush (v := 31) hx hb dL_law_29 (by decide) ?_
        refine lv_iand hx hb dL_law_31 ?_
        by_cases c_3 : ((xs x3.toNatClampNeg) &&& 31) < 0
        · have hw := hw.1 c_3
          refine lv_tableOut (tgt := 731) hx hb dL_law_32 (Or.inl (by rw [Int32.lt_iff_toInt_lt] at c_3; exact c_3)) (by decide) ?_
          obtain ⟨x3_4, ex3_4⟩ : ∃ y : Int32, y = x3 + 4 := ⟨_, rfl⟩
          have hw := hw x3_4 ex3_4
          refine lv_iinc (v := x3_4) (lv' := [(3, .int x3_4), (0, .ref b), (1, .ref (g 0)), (2, .ref (h 0))]) hx hb dL_law_731 hl (k := 3) rfl (by rw [ex3_4]; rfl) (by decide) rfl (fun ls hl => ?_)
          refine lv_goto (tgt := 18) hx hb dL_law_734 (by decide) ?_
          exact ih x3_4 fd cd cr tr ro nw kp qu qd ql kd fm tk mr mw mk ml mq mwt mn mt mcl mcr mth mkind msort mfirst mblk mfree mfnd mfm msn H locs hP hD hS ls (lv_sub hl [1, 2, 3, 0] rfl) hw
        have hw := hw.2 c_3
        by_cases c_5 : 20 < ((xs x3.toNatClampNeg) &&& 31)
        · have hw := hw.1 c_5
          refine lv_tableOut (tgt := 731) hx hb dL_law_32 (Or.inr (by rw [Int32.lt_iff_toInt_lt] at c_5; exact c_5)) (by decide) ?_
          obtain ⟨x3_6, ex3_6⟩ : ∃ y : Int32, y = x3 + 4 := ⟨_, rfl⟩
          have hw := hw x3_6 ex3_6
          refine lv_iinc (v := x3_6) (lv' := [(3, .int x3_6), (0, .ref b), (1, .ref (g 0)), (2, .ref (h 0))]) hx hb dL_law_731 hl (k := 3) rfl (by rw [ex3_6]; rfl) (by decide) rfl (fun ls hl => ?_)
          refine lv_goto (tgt := 18) hx hb dL_law_734 (by decide) ?_
          exact ih x3_6 fd cd cr tr ro nw kp qu qd ql kd fm tk mr mw mk ml mq mwt mn mt mcl mcr mth mkind msort mfirst mblk mfree mfnd mfm msn H locs hP hD hS ls (lv_sub hl [1, 2, 3, 0] rfl) hw
        have hw := hw.2 c_5
        obtain ⟨j_7, hj_7, ej_7⟩ := nI_of2 (x := ((xs x3.toNatClampNeg) &&& 31)) (M := 20) (n := 20) rfl c_3 (Int32.not_lt.mp c_5)
        rcases (show j_7 = 0 ∨ j_7 = 1 ∨ j_7 = 2 ∨ j_7 = 3 ∨ j_7 = 4 ∨ j_7 = 5 ∨ j_7 = 6 ∨ j_7 = 7 ∨ j_7 = 8 ∨ j_7 = 9 ∨ j_7 = 10 ∨ j_7 = 11 ∨ j_7 = 12 ∨ j_7 = 13 ∨ j_7 = 14 ∨ j_7 = 15 ∨ j_7 = 16 ∨ j_7 = 17 ∨ j_7 = 18 ∨ j_7 = 19 ∨ j_7 = 20 by omega) with rfl | rfl | rfl | rfl | rfl | rfl | rfl | rfl | rfl | rfl | rfl | rfl | rfl | rfl | rfl | rfl | rfl | rfl | rfl | rfl | rfl
        · have hw := hw.1 ej_7
          refine lv_tableIn (tgt := 132) hx hb dL_law_32 (by rw [ej_7]; decide) (by rw [ej_7]; decide) (by rw [ej_7]; rfl) (by decide) ?_
          refine lv_aload_n hx hb dL_law_132 rfl (lv_at hl 1 rfl) ?_
          refine lv_aload_n hx hb dL_law_133 rfl (lv_at hl 0 rfl) ?_
          refine lv_iload_n hx hb dL_law_134 rfl (lv_at hl 3 rfl) ?_
          refine lv_iconst (v := 1) hx hb dL_law_135 (by decide) ?_
          refine lv_iadd hx hb dL_law_136 ?_
          obtain ⟨h_8, hw⟩ := hw
          refine va_sld hx hb hX hbl hbA hS h_8 dL_law_137 ?_
          refine lv_aload_n hx hb dL_law_138 rfl (lv_at hl 0 rfl) ?_
          refine lv_iload_n hx hb dL_law_139 rfl (lv_at hl 3 rfl) ?_
          refine lv_iconst (v := 2) hx hb dL_law_140 (by decide) ?_
          refine lv_iadd hx hb dL_law_141 ?_
          obtain ⟨h_9, hw⟩ := hw
          refine va_sld hx hb hX hbl hbA hS h_9 dL_law_142 ?_
          refine icall (wr := [(h 0, .inr (3, [.ref (h 1), .ref (h 2), .ref (h 3), .ref (h 4), .ref (h 5), .int mn, .int mt, .int mcl, .int mcr, .int mth, .ref (h 6), .ref (h 7), .ref (h 8), .ref (h 9), .ref (h 10), .ref (h 11), .int mfm, .ref (h 12)])), (h 1, .inl (k.1, 4096, .inl mw)), (h 2, .inl (k.1, 4096, .inl mk)), (h 3, .inl (k.2, 4096, .inl ml)), (h 4, .inl (k.2, 512, .inl mq)), (h 5, .inl (k.1, 512, .inl mwt)), (h 6, .inl (k.1, 256, .inl mkind)), (h 7, .inl (k.1, 256, .inl msort)), (h 8, .inl (k.1, 256, .inl mfirst)), (h 9, .inl (k.1, 256, .inl mblk)), (h 10, .inl (k.1, 256, .inl mfree)), (h 11, .inl (k.1, 2048, .inl mfnd)), (h 12, .inl (k.2, 4096, .inl msn))]) (va_runV (As := [.int (xs (x3 + 1).toNatClampNeg), .int (xs (x3 + 2).toNatClampNeg)]) (rest := []) hC (c_X2_alloc l D g k fd cd cr tr ro nw kp qu qd ql kd fm tk mr (xs (x3 + 1).toNatClampNeg) (xs (x3 + 2).toNatClampNeg) _ hw H.size) (cwV 2 hts gL_law_X2_alloc rfl rfl rfl (by decide +kernel) ⟨Nat.le_of_ble_eq_true rfl, Nat.le_of_ble_eq_true rfl⟩) (preV_m (va_recv hK hP (ci := 2) (q0 := 0) rfl rfl) hP hD hA hK hZ hS [0, 1, 2, 3, 4, 5, 6, 7, 8, 9, 10, 11] rfl rfl (by decide)) rfl rfl hl.1 rfl (lv_room (Nat.le_of_ble_eq_true rfl)) dL_law_143 ⟨Nat.le_of_ble_eq_true rfl, Nat.le_of_ble_eq_true rfl⟩) hP hD hA hS [0, 1, 2, 3, 4, 5, 6, 7, 8, 9, 10, 11] [12, 13, 14, 15, 16, 17, 18, 19, 20, 21, 22, 23, 24] rfl rfl (by decide) (by decide) (fun r_18 u' H locs hw hP hD hS => ?_)
          obtain ⟨tr_10, nw_11, qu_12, qd_13, ql_14, kd_15, fm_16, tk_17⟩ := u'
          try dsimp only at hw
          have hP : va_P D vwCl (xL g h k fd cd cr tr_10 ro nw_11 kp qu_12 qd_13 ql_14 kd_15 fm_16 tk_17 mr mw mk ml mq mwt mn mt mcl mcr mth mkind msort mfirst mblk mfree mfnd mfm msn) H := hP.sub [13, 14, 15, 16, 17, 18, 19, 20, 21, 22, 23, 24, 0, 1, 2, 3, 4, 5, 6, 7, 8, 9, 10, 11, 12] rfl
          have hD : va_D A (xL g h k fd cd cr tr_10 ro nw_11 kp qu_12 qd_13 ql_14 kd_15 fm_16 tk_17 mr mw mk ml mq mwt mn mt mcl mcr mth mkind msort mfirst mblk mfree mfnd mfm msn) := hD.sub [13, 14, 15, 16, 17, 18, 19, 20, 21, 22, 23, 24, 0, 1, 2, 3, 4, 5, 6, 7, 8, 9, 10, 11, 12] (by decide) rfl
          refine lv_aload_n hx hb dL_law_146 rfl (lv_at hl 2 rfl) ?_
          refine lv_aload_n hx hb dL_law_147 rfl (lv_at hl 0 rfl) ?_
          refine lv_iload_n hx hb dL_law_148 rfl (lv_at hl 3 rfl) ?_
          refine lv_iconst (v := 1) hx hb dL_law_149 (by decide) ?_
          refine lv_iadd hx hb dL_law_150 ?_
          obtain ⟨h_19, hw⟩ := hw
          refine va_sld hx hb hX hbl hbA hS h_19 dL_law_151 ?_
          refine lv_aload_n hx hb dL_law_152 rfl (lv_at hl 0 rfl) ?_
          refine lv_iload_n hx hb dL_law_153 rfl (lv_at hl 3 rfl) ?_
          refine lv_iconst (v := 2) hx hb dL_law_154 (by decide) ?_
          refine lv_iadd hx hb dL_law_155 ?_
          obtain ⟨h_20, hw⟩ := hw
          refine va_sld hx hb hX hbl hbA hS h_20 dL_law_156 ?_
          refine icall (wr := [(g 0, .inr (2, [.ref (g 2), .ref (g 7), .ref (g 1), .int fd, .int cd, .int cr, .int tr_10])), (g 1, .inl (k.1, 2040, .inl ro)), (g 2, .inr (1, [.ref (g 3), .ref (g 4), .ref (g 5), .ref (g 6), .int ql_14])), (g 3, .inl (k.1, 4096, .inl nw_11)), (g 4, .inl (k.1, 4096, .inl kp)), (g 5, .inl (k.1, 512, .inl qu_12)), (g 6, .inl (k.2, 512, .inl qd_13)), (g 7, .inr (0, [.ref (g 8), .ref (g 9), .ref (g 10), .ref (g 11)])), (g 8, .inl (k.1, 256, .inl kd_15)), (g 9, .inl (k.1, 256, .inl fm_16)), (g 10, .inl (k.1, 256, .inl tk_17)), (g 11, .inl (k.1, 256, .inl mr))]) (va_runV (As := [.int (xs (x3 + 1).toNatClampNeg), .int (xs (x3 + 2).toNatClampNeg)]) (rest := [.int r_18]) hC (c_X3_alloc l D h k mw mk ml mq mwt mn mt mcl mcr mth mkind msort mfirst mblk mfree mfnd mfm msn (xs (x3 + 1).toNatClampNeg) (xs (x3 + 2).toNatClampNeg) _ hw H.size) (cwV 2 hts gL_law_X3_alloc rfl rfl rfl (by decide +kernel) ⟨Nat.le_of_ble_eq_true rfl, Nat.le_of_ble_eq_true rfl⟩) (preV_m (va_recv hK hP (ci := 3) (q0 := 12) rfl rfl) hP hD hA hK hZ hS [12, 13, 14, 15, 16, 17, 18, 19, 20, 21, 22, 23, 24] rfl rfl (by decide)) rfl rfl hl.1 rfl (lv_room (Nat.le_of_ble_eq_true rfl)) dL_law_157 ⟨Nat.le_of_ble_eq_true rfl, Nat.le_of_ble_eq_true rfl⟩) hP hD hA hS [12, 13, 14, 15, 16, 17, 18, 19, 20, 21, 22, 23, 24] [0, 1, 2, 3, 4, 5, 6, 7, 8, 9, 10, 11] rfl rfl (by decide) (by decide) (fun r_33 u' H locs hw hP hD hS => ?_)
          obtain ⟨mw_21, ml_22, mq_23, mwt_24, mn_25, mt_26, mth_27, mkind_28, msort_29, mfirst_30, mblk_31, mfree_32⟩ := u'
          try dsimp only at hw
          have hP : va_P D vwCl (xL g h k fd cd cr tr_10 ro nw_11 kp qu_12 qd_13 ql_14 kd_15 fm_16 tk_17 mr mw_21 mk ml_22 mq_23 mwt_24 mn_25 mt_26 mcl mcr mth_27 mkind_28 msort_29 mfirst_30 mblk_31 mfree_32 mfnd mfm msn) H := hP.sub [0, 1, 2, 3, 4, 5, 6, 7, 8, 9, 10, 11, 12, 13, 14, 15, 16, 17, 18, 19, 20, 21, 22, 23, 24] rfl
          have hD : va_D A (xL g h k fd cd cr tr_10 ro nw_11 kp qu_12 qd_13 ql_14 kd_15 fm_16 tk_17 mr mw_21 mk ml_22 mq_23 mwt_24 mn_25 mt_26 mcl mcr mth_27 mkind_28 msort_29 mfirst_30 mblk_31 mfree_32 mfnd mfm msn) := hD.sub [0, 1, 2, 3, 4, 5, 6, 7, 8, 9, 10, 11, 12, 13, 14, 15, 16, 17, 18, 19, 20, 21, 22, 23, 24] (by decide) rfl
          refine lv_icmp_eq (tgt := 731) hx hb dL_law_160 (by decide) (fun c_34 => ?_) (fun c_34 => ?_)
          · have hw := hw.1 c_34
            obtain ⟨x3_35, ex3_35⟩ : ∃ y : Int32, y = x3 + 4 := ⟨_, rfl⟩
            have hw := hw x3_35 ex3_35
            refine lv_iinc (v := x3_35) (lv' := [(3, .int x3_35), (0, .ref b), (1, .ref (g 0)), (2, .ref (h 0))]) hx hb dL_law_731 hl (k := 3) rfl (by rw [ex3_35]; rfl) (by decide) rfl (fun ls hl => ?_)
            refine lv_goto (tgt := 18) hx hb dL_law_734 (by decide) ?_
            exact ih x3_35 fd cd cr tr_10 ro nw_11 kp qu_12 qd_13 ql_14 kd_15 fm_16 tk_17 mr mw_21 mk ml_22 mq_23 mwt_24 mn_25 mt_26 mcl mcr mth_27 mkind_28 msort_29 mfirst_30 mblk_31 mfree_32 mfnd mfm msn H locs hP hD hS ls (lv_sub hl [1, 2, 3, 0] rfl) hw
          · have hw := hw.2 c_34
            refine lv_iconst (v := 0) hx hb dL_law_163 (by decide) ?_
            exact hret _ _ _ _ _ hS dL_law_164 hw
        · have hw := hw.2.1 ej_7
          refine lv_tableIn (tgt := 165) hx hb dL_law_32 (by rw [ej_7]; decide) (by rw [ej_7]; decide) (by rw [ej_7]; rfl) (by decide) ?_
          refine lv_aload_n hx hb dL_law_165 rfl (lv_at hl 1 rfl) ?_
          refine lv_aload_n hx hb dL_law_166 rfl (lv_at hl 0 rfl) ?_
          refine lv_iload_n hx hb dL_law_167 rfl (lv_at hl 3 rfl) ?_
          refine lv_iconst (v := 1) hx hb dL_law_168 (by decide) ?_
          refine lv_iadd hx hb dL_law_169 ?_
          obtain ⟨h_36, hw⟩ := hw
          refine va_sld hx hb hX hbl hbA hS h_36 dL_law_170 ?_
          refine icall (wr := [(h 0, .inr (3, [.ref (h 1), .ref (h 2), .ref (h 3), .ref (h 4), .ref (h 5), .int mn, .int mt, .int mcl, .int mcr, .int mth, .ref (h 6), .ref (h 7), .ref (h 8), .ref (h 9), .ref (h 10), .ref (h 11), .int mfm, .ref (h 12)])), (h 1, .inl (k.1, 4096, .inl mw)), (h 2, .inl (k.1, 4096, .inl mk)), (h 3, .inl (k.2, 4096, .inl ml)), (h 4, .inl (k.2, 512, .inl mq)), (h 5, .inl (k.1, 512, .inl mwt)), (h 6, .inl (k.1, 256, .inl mkind)), (h 7, .inl (k.1, 256, .inl msort)), (h 8, .inl (k.1, 256, .inl mfirst)), (h 9, .inl (k.1, 256, .inl mblk)), (h 10, .inl (k.1, 256, .inl mfree)), (h 11, .inl (k.1, 2048, .inl mfnd)), (h 12, .inl (k.2, 4096, .inl msn))]) (va_runV (As := [.int (xs (x3 + 1).toNatClampNeg)]) (rest := []) hC (c_X2_free l D g k fd cd cr tr ro nw kp qu qd ql kd fm tk mr (xs (x3 + 1).toNatClampNeg) _ hw H.size) (cwV 1 hts gL_law_X2_free rfl rfl rfl (by decide +kernel) ⟨Nat.le_of_ble_eq_true rfl, Nat.le_of_ble_eq_true rfl⟩) (preV_m (va_recv hK hP (ci := 2) (q0 := 0) rfl rfl) hP hD hA hK hZ hS [0, 1, 2, 3, 4, 5, 6, 7, 8, 9, 10, 11] rfl rfl (by decide)) rfl rfl hl.1 rfl (lv_room (Nat.le_of_ble_eq_true rfl)) dL_law_171 ⟨Nat.le_of_ble_eq_true rfl, Nat.le_of_ble_eq_true rfl⟩) hP hD hA hS [0, 1, 2, 3, 4, 5, 6, 7, 8, 9, 10, 11] [12, 13, 14, 15, 16, 17, 18, 19, 20, 21, 22, 23, 24] rfl rfl (by decide) (by decide) (fun r_46 u' H locs hw hP hD hS => ?_)
          obtain ⟨tr_37, ro_38, nw_39, qu_40, qd_41, ql_42, kd_43, fm_44, tk_45⟩ := u'
          try dsimp only at hw
          have hP : va_P D vwCl (xL g h k fd cd cr tr_37 ro_38 nw_39 kp qu_40 qd_41 ql_42 kd_43 fm_44 tk_45 mr mw mk ml mq mwt mn mt mcl mcr mth mkind msort mfirst mblk mfree mfnd mfm msn) H := hP.sub [13, 14, 15, 16, 17, 18, 19, 20, 21, 22, 23, 24, 0, 1, 2, 3, 4, 5, 6, 7, 8, 9, 10, 11, 12] rfl
          have hD : va_D A (xL g h k fd cd cr tr_37 ro_38 nw_39 kp qu_40 qd_41 ql_42 kd_43 fm_44 tk_45 mr mw mk ml mq mwt mn mt mcl mcr mth mkind msort mfirst mblk mfree mfnd mfm msn) := hD.sub [13, 14, 15, 16, 17, 18, 19, 20, 21, 22, 23, 24, 0, 1, 2, 3, 4, 5, 6, 7, 8, 9, 10, 11, 12] (by decide) rfl
          refine lv_aload_n hx hb dL_law_174 rfl (lv_at hl 2 rfl) ?_
          refine lv_aload_n hx hb dL_law_175 rfl (lv_at hl 0 rfl) ?_
          refine lv_iload_n hx hb dL_law_176 rfl (lv_at hl 3 rfl) ?_
          refine lv_iconst (v := 1) hx hb dL_law_177 (by decide) ?_
          refine lv_iadd hx hb dL_law_178 ?_
          obtain ⟨h_47, hw⟩ := hw
          refine va_sld hx hb hX hbl hbA hS h_47 dL_law_179 ?_
          refine icall (wr := [(g 0, .inr (2, [.ref (g 2), .ref (g 7), .ref (g 1), .int fd, .int cd, .int cr, .int tr_37])), (g 1, .inl (k.1, 2040, .inl ro_38)), (g 2, .inr (1, [.ref (g 3), .ref (g 4), .ref (g 5), .ref (g 6), .int ql_42])), (g 3, .inl (k.1, 4096, .inl nw_39)), (g 4, .inl (k.1, 4096, .inl kp)), (g 5, .inl (k.1, 512, .inl qu_40)), (g 6, .inl (k.2, 512, .inl qd_41)), (g 7, .inr (0, [.ref (g 8), .ref (g 9), .ref (g 10), .ref (g 11)])), (g 8, .inl (k.1, 256, .inl kd_43)), (g 9, .inl (k.1, 256, .inl fm_44)), (g 10, .inl (k.1, 256, .inl tk_45)), (g 11, .inl (k.1, 256, .inl mr))]) (va_runV (As := [.int (xs (x3 + 1).toNatClampNeg)]) (rest := [.int r_46]) hC (c_X3_free l D h k mw mk ml mq mwt mn mt mcl mcr mth mkind msort mfirst mblk mfree mfnd mfm msn (xs (x3 + 1).toNatClampNeg) _ hw H.size) (cwV 1 hts gL_law_X3_free rfl rfl rfl (by decide +kernel) ⟨Nat.le_of_ble_eq_true rfl, Nat.le_of_ble_eq_true rfl⟩) (preV_m (va_recv hK hP (ci := 3) (q0 := 12) rfl rfl) hP hD hA hK hZ hS [12, 13, 14, 15, 16, 17, 18, 19, 20, 21, 22, 23, 24] rfl rfl (by decide)) rfl rfl hl.1 rfl (lv_room (Nat.le_of_ble_eq_true rfl)) dL_law_180 ⟨Nat.le_of_ble_eq_true rfl, Nat.le_of_ble_eq_true rfl⟩) hP hD hA hS [12, 13, 14, 15, 16, 17, 18, 19, 20, 21, 22, 23, 24] [0, 1, 2, 3, 4, 5, 6, 7, 8, 9, 10, 11] rfl rfl (by decide) (by decide) (fun r_55 u' H locs hw hP hD hS => ?_)
          obtain ⟨mw_48, ml_49, mq_50, mwt_51, mn_52, mt_53, mth_54⟩ := u'
          try dsimp only at hw
          have hP : va_P D vwCl (xL g h k fd cd cr tr_37 ro_38 nw_39 kp qu_40 qd_41 ql_42 kd_43 fm_44 tk_45 mr mw_48 mk ml_49 mq_50 mwt_51 mn_52 mt_53 mcl mcr mth_54 mkind msort mfirst mblk mfree mfnd mfm msn) H := hP.sub [0, 1, 2, 3, 4, 5, 6, 7, 8, 9, 10, 11, 12, 13, 14, 15, 16, 17, 18, 19, 20, 21, 22, 23, 24] rfl
          have hD : va_D A (xL g h k fd cd cr tr_37 ro_38 nw_39 kp qu_40 qd_41 ql_42 kd_43 fm_44 tk_45 mr mw_48 mk ml_49 mq_50 mwt_51 mn_52 mt_53 mcl mcr mth_54 mkind msort mfirst mblk mfree mfnd mfm msn) := hD.sub [0, 1, 2, 3, 4, 5, 6, 7, 8, 9, 10, 11, 12, 13, 14, 15, 16, 17, 18, 19, 20, 21, 22, 23, 24] (by decide) rfl
          refine lv_icmp_eq (tgt := 731) hx hb dL_law_183 (by decide) (fun c_56 => ?_) (fun c_56 => ?_)
          · have hw := hw.1 c_56
            obtain ⟨x3_57, ex3_57⟩ : ∃ y : Int32, y = x3 + 4 := ⟨_, rfl⟩
            have hw := hw x3_57 ex3_57
            refine lv_iinc (v := x3_57) (lv' := [(3, .int x3_57), (0, .ref b), (1, .ref (g 0)), (2, .ref (h 0))]) hx hb dL_law_731 hl (k := 3) rfl (by rw [ex3_57]; rfl) (by decide) rfl (fun ls hl => ?_)
            refine lv_goto (tgt := 18) hx hb dL_law_734 (by decide) ?_
            exact ih x3_57 fd cd cr tr_37 ro_38 nw_39 kp qu_40 qd_41 ql_42 kd_43 fm_44 tk_45 mr mw_48 mk ml_49 mq_50 mwt_51 mn_52 mt_53 mcl mcr mth_54 mkind msort mfirst mblk mfree mfnd mfm msn H locs hP hD hS ls (lv_sub hl [1, 2, 3, 0] rfl) hw
          · have hw := hw.2 c_56
            refine lv_iconst (v := 0) hx hb dL_law_186 (by decide) ?_
            exact hret _ _ _ _ _ hS dL_law_187 hw
        · have hw := hw.2.2.1 ej_7
          refine lv_tableIn (tgt := 188) hx hb dL_law_32 (by rw [ej_7]; decide) (by rw [ej_7]; decide) (by rw [ej_7]; rfl) (by decide) ?_
          refine lv_aload_n hx hb dL_law_188 rfl (lv_at hl 1 rfl) ?_
          refine lv_aload_n hx hb dL_law_189 rfl (lv_at hl 0 rfl) ?_
          refine lv_iload_n hx hb dL_law_190 rfl (lv_at hl 3 rfl) ?_
          refine lv_iconst (v := 1) hx hb dL_law_191 (by decide) ?_
          refine lv_iadd hx hb dL_law_192 ?_
          obtain ⟨h_58, hw⟩ := hw
          refine va_sld hx hb hX hbl hbA hS h_58 dL_law_193 ?_
          refine lv_aload_n hx hb dL_law_194 rfl (lv_at hl 0 rfl) ?_
          refine lv_iload_n hx hb dL_law_195 rfl (lv_at hl 3 rfl) ?_
          refine lv_iconst (v := 2) hx hb dL_law_196 (by decide) ?_
          refine lv_iadd hx hb dL_law_197 ?_
          obtain ⟨h_59, hw⟩ := hw
          refine va_sld hx hb hX hbl hbA hS h_59 dL_law_198 ?_
          refine lv_aload_n hx hb dL_law_199 rfl (lv_at hl 0 rfl) ?_
          refine lv_iload_n hx hb dL_law_200 rfl (lv_at hl 3 rfl) ?_
          refine lv_iconst (v := 3) hx hb dL_law_201 (by decide) ?_
          refine lv_iadd hx hb dL_law_202 ?_
          obtain ⟨h_60, hw⟩ := hw
          refine va_sld hx hb hX hbl hbA hS h_60 dL_law_203 ?_
          refine icall (wr := [(h 0, .inr (3, [.ref (h 1), .ref (h 2), .ref (h 3), .ref (h 4), .ref (h 5), .int mn, .int mt, .int mcl, .int mcr, .int mth, .ref (h 6), .ref (h 7), .ref (h 8), .ref (h 9), .ref (h 10), .ref (h 11), .int mfm, .ref (h 12)])), (h 1, .inl (k.1, 4096, .inl mw)), (h 2, .inl (k.1, 4096, .inl mk)), (h 3, .inl (k.2, 4096, .inl ml)), (h 4, .inl (k.2, 512, .inl mq)), (h 5, .inl (k.1, 512, .inl mwt)), (h 6, .inl (k.1, 256, .inl mkind)), (h 7, .inl (k.1, 256, .inl msort)), (h 8, .inl (k.1, 256, .inl mfirst)), (h 9, .inl (k.1, 256, .inl mblk)), (h 10, .inl (k.1, 256, .inl mfree)), (h 11, .inl (k.1, 2048, .inl mfnd)), (h 12, .inl (k.2, 4096, .inl msn))]) (va_runV (As := [.int (xs (x3 + 1).toNatClampNeg), .int (xs (x3 + 2).toNatClampNeg), .int (xs (x3 + 3).toNatClampNeg)]) (rest := []) hC (c_X2_put l D g k fd cd cr tr ro nw kp qu qd ql kd fm tk mr (xs (x3 + 1).toNatClampNeg) (xs (x3 + 2).toNatClampNeg) (xs (x3 + 3).toNatClampNeg) _ hw H.size) (cwV 3 hts gL_law_X2_put rfl rfl rfl (by decide +kernel) ⟨Nat.le_of_ble_eq_true rfl, Nat.le_of_ble_eq_true rfl⟩) (preV_m (va_recv hK hP (ci := 2) (q0 := 0) rfl rfl) hP hD hA hK hZ hS [0, 1, 2, 3, 4, 5, 6, 7, 8, 9, 10, 11] rfl rfl (by decide)) rfl rfl hl.1 rfl (lv_room (Nat.le_of_ble_eq_true rfl)) dL_law_204 ⟨Nat.le_of_ble_eq_true rfl, Nat.le_of_ble_eq_true rfl⟩) hP hD hA hS [0, 1, 2, 3, 4, 5, 6, 7, 8, 9, 10, 11] [12, 13, 14, 15, 16, 17, 18, 19, 20, 21, 22, 23, 24] rfl rfl (by decide) (by decide) (fun r_66 u' H locs hw hP hD hS => ?_)
          obtain ⟨tr_61, nw_62, qu_63, qd_64, ql_65⟩ := u'
          try dsimp only at hw
          have hP : va_P D vwCl (xL g h k fd cd cr tr_61 ro nw_62 kp qu_63 qd_64 ql_65 kd fm tk mr mw mk ml mq mwt mn mt mcl mcr mth mkind msort mfirst mblk mfree mfnd mfm msn) H := hP.sub [13, 14, 15, 16, 17, 18, 19, 20, 21, 22, 23, 24, 0, 1, 2, 3, 4, 5, 6, 7, 8, 9, 10, 11, 12] rfl
          have hD : va_D A (xL g h k fd cd cr tr_61 ro nw_62 kp qu_63 qd_64 ql_65 kd fm tk mr mw mk ml mq mwt mn mt mcl mcr mth mkind msort mfirst mblk mfree mfnd mfm msn) := hD.sub [13, 14, 15, 16, 17, 18, 19, 20, 21, 22, 23, 24, 0, 1, 2, 3, 4, 5, 6, 7, 8, 9, 10, 11, 12] (by decide) rfl
          refine lv_aload_n hx hb dL_law_207 rfl (lv_at hl 2 rfl) ?_
          refine lv_aload_n hx hb dL_law_208 rfl (lv_at hl 0 rfl) ?_
          refine lv_iload_n hx hb dL_law_209 rfl (lv_at hl 3 rfl) ?_
          refine lv_iconst (v := 1) hx hb dL_law_210 (by decide) ?_
          refine lv_iadd hx hb dL_law_211 ?_
          obtain ⟨h_67, hw⟩ := hw
          refine va_sld hx hb hX hbl hbA hS h_67 dL_law_212 ?_
          refine lv_aload_n hx hb dL_law_213 rfl (lv_at hl 0 rfl) ?_
          refine lv_iload_n hx hb dL_law_214 rfl (lv_at hl 3 rfl) ?_
          refine lv_iconst (v := 2) hx hb dL_law_215 (by decide) ?_
          refine lv_iadd hx hb dL_law_216 ?_
          obtain ⟨h_68, hw⟩ := hw
          refine va_sld hx hb hX hbl hbA hS h_68 dL_law_217 ?_
          refine lv_aload_n hx hb dL_law_218 rfl (lv_at hl 0 rfl) ?_
          refine lv_iload_n hx hb dL_law_219 rfl (lv_at hl 3 rfl) ?_
          refine lv_iconst (v := 3) hx hb dL_law_220 (by decide) ?_
          refine lv_iadd hx hb dL_law_221 ?_
          obtain ⟨h_69, hw⟩ := hw
          refine va_sld hx hb hX hbl hbA hS h_69 dL_law_222 ?_
          refine icall (wr := [(g 0, .inr (2, [.ref (g 2), .ref (g 7), .ref (g 1), .int fd, .int cd, .int cr, .int tr_61])), (g 1, .inl (k.1, 2040, .inl ro)), (g 2, .inr (1, [.ref (g 3), .ref (g 4), .ref (g 5), .ref (g 6), .int ql_65])), (g 3, .inl (k.1, 4096, .inl nw_62)), (g 4, .inl (k.1, 4096, .inl kp)), (g 5, .inl (k.1, 512, .inl qu_63)), (g 6, .inl (k.2, 512, .inl qd_64)), (g 7, .inr (0, [.ref (g 8), .ref (g 9), .ref (g 10), .ref (g 11)])), (g 8, .inl (k.1, 256, .inl kd)), (g 9, .inl (k.1, 256, .inl fm)), (g 10, .inl (k.1, 256, .inl tk)), (g 11, .inl (k.1, 256, .inl mr))]) (va_runV (As := [.int (xs (x3 + 1).toNatClampNeg), .int (xs (x3 + 2).toNatClampNeg), .int (xs (x3 + 3).toNatClampNeg)]) (rest := [.int r_66]) hC (c_X3_put l D h k mw mk ml mq mwt mn mt mcl mcr mth mkind msort mfirst mblk mfree mfnd mfm msn (xs (x3 + 1).toNatClampNeg) (xs (x3 + 2).toNatClampNeg) (xs (x3 + 3).toNatClampNeg) _ hw H.size) (cwV 3 hts gL_law_X3_put rfl rfl rfl (by decide +kernel) ⟨Nat.le_of_ble_eq_true rfl, Nat.le_of_ble_eq_true rfl⟩) (preV_m (va_recv hK hP (ci := 3) (q0 := 12) rfl rfl) hP hD hA hK hZ hS [12, 13, 14, 15, 16, 17, 18, 19, 20, 21, 22, 23, 24] rfl rfl (by decide)) rfl rfl hl.1 rfl (lv_room (Nat.le_of_ble_eq_true rfl)) dL_law_223 ⟨Nat.le_of_ble_eq_true rfl, Nat.le_of_ble_eq_true rfl⟩) hP hD hA hS [12, 13, 14, 15, 16, 17, 18, 19, 20, 21, 22, 23, 24] [0, 1, 2, 3, 4, 5, 6, 7, 8, 9, 10, 11] rfl rfl (by decide) (by decide) (fun r_76 u' H locs hw hP hD hS => ?_)
          obtain ⟨mw_70, mq_71, mwt_72, mn_73, mt_74, mth_75⟩ := u'
          try dsimp only at hw
          have hP : va_P D vwCl (xL g h k fd cd cr tr_61 ro nw_62 kp qu_63 qd_64 ql_65 kd fm tk mr mw_70 mk ml mq_71 mwt_72 mn_73 mt_74 mcl mcr mth_75 mkind msort mfirst mblk mfree mfnd mfm msn) H := hP.sub [0, 1, 2, 3, 4, 5, 6, 7, 8, 9, 10, 11, 12, 13, 14, 15, 16, 17, 18, 19, 20, 21, 22, 23, 24] rfl
          have hD : va_D A (xL g h k fd cd cr tr_61 ro nw_62 kp qu_63 qd_64 ql_65 kd fm tk mr mw_70 mk ml mq_71 mwt_72 mn_73 mt_74 mcl mcr mth_75 mkind msort mfirst mblk mfree mfnd mfm msn) := hD.sub [0, 1, 2, 3, 4, 5, 6, 7, 8, 9, 10, 11, 12, 13, 14, 15, 16, 17, 18, 19, 20, 21, 22, 23, 24] (by decide) rfl
          refine lv_icmp_eq (tgt := 731) hx hb dL_law_226 (by decide) (fun c_77 => ?_) (fun c_77 => ?_)
          · have hw := hw.1 c_77
            obtain ⟨x3_78, ex3_78⟩ : ∃ y : Int32, y = x3 + 4 := ⟨_, rfl⟩
            have hw := hw x3_78 ex3_78
            refine lv_iinc (v := x3_78) (lv' := [(3, .int x3_78), (0, .ref b), (1, .ref (g 0)), (2, .ref (h 0))]) hx hb dL_law_731 hl (k := 3) rfl (by rw [ex3_78]; rfl) (by decide) rfl (fun ls hl => ?_)
            refine lv_goto (tgt := 18) hx hb dL_law_734 (by decide) ?_
            exact ih x3_78 fd cd cr tr_61 ro nw_62 kp qu_63 qd_64 ql_65 kd fm tk mr mw_70 mk ml mq_71 mwt_72 mn_73 mt_74 mcl mcr mth_75 mkind msort mfirst mblk mfree mfnd mfm msn H locs hP hD hS ls (lv_sub hl [1, 2, 3, 0] rfl) hw
          · have hw := hw.2 c_77
            refine lv_iconst (v := 0) hx hb dL_law_229 (by decide) ?_
            exact hret _ _ _ _ _ hS dL_law_230 hw
        · have hw := hw.2.2.2.1 ej_7
          refine lv_tableIn (tgt := 231) hx hb dL_law_32 (by rw [ej_7]; decide) (by rw [ej_7]; decide) (by rw [ej_7]; rfl) (by decide) ?_
          refine lv_aload_n hx hb dL_law_231 rfl (lv_at hl 1 rfl) ?_
          refine lv_aload_n hx hb dL_law_232 rfl (lv_at hl 0 rfl) ?_
          refine lv_iload_n hx hb dL_law_233 rfl (lv_at hl 3 rfl) ?_
          refine lv_iconst (v := 1) hx hb dL_law_234 (by decide) ?_
          refine lv_iadd hx hb dL_law_235 ?_
          obtain ⟨h_79, hw⟩ := hw
          refine va_sld hx hb hX hbl hbA hS h_79 dL_law_236 ?_
          refine lv_aload_n hx hb dL_law_237 rfl (lv_at hl 0 rfl) ?_
          refine lv_iload_n hx hb dL_law_238 rfl (lv_at hl 3 rfl) ?_
          refine lv_iconst (v := 2) hx hb dL_law_239 (by decide) ?_
          refine lv_iadd hx hb dL_law_240 ?_
          obtain ⟨h_80, hw⟩ := hw
          refine va_sld hx hb hX hbl hbA hS h_80 dL_law_241 ?_
          refine lv_aload_n hx hb dL_law_242 rfl (lv_at hl 0 rfl) ?_
          refine lv_iload_n hx hb dL_law_243 rfl (lv_at hl 3 rfl) ?_
          refine lv_iconst (v := 3) hx hb dL_law_244 (by decide) ?_
          refine lv_iadd hx hb dL_law_245 ?_
          obtain ⟨h_81, hw⟩ := hw
          refine va_sld hx hb hX hbl hbA hS h_81 dL_law_246 ?_
          refine icall (wr := [(h 0, .inr (3, [.ref (h 1), .ref (h 2), .ref (h 3), .ref (h 4), .ref (h 5), .int mn, .int mt, .int mcl, .int mcr, .int mth, .ref (h 6), .ref (h 7), .ref (h 8), .ref (h 9), .ref (h 10), .ref (h 11), .int mfm, .ref (h 12)])), (h 1, .inl (k.1, 4096, .inl mw)), (h 2, .inl (k.1, 4096, .inl mk)), (h 3, .inl (k.2, 4096, .inl ml)), (h 4, .inl (k.2, 512, .inl mq)), (h 5, .inl (k.1, 512, .inl mwt)), (h 6, .inl (k.1, 256, .inl mkind)), (h 7, .inl (k.1, 256, .inl msort)), (h 8, .inl (k.1, 256, .inl mfirst)), (h 9, .inl (k.1, 256, .inl mblk)), (h 10, .inl (k.1, 256, .inl mfree)), (h 11, .inl (k.1, 2048, .inl mfnd)), (h 12, .inl (k.2, 4096, .inl msn))]) (va_runV (As := [.int (xs (x3 + 1).toNatClampNeg), .int (xs (x3 + 2).toNatClampNeg), .int (xs (x3 + 3).toNatClampNeg)]) (rest := []) hC (c_X2_refer l D g k fd cd cr tr ro nw kp qu qd ql kd fm tk mr (xs (x3 + 1).toNatClampNeg) (xs (x3 + 2).toNatClampNeg) (xs (x3 + 3).toNatClampNeg) _ hw H.size) (cwV 3 hts gL_law_X2_refer rfl rfl rfl (by decide +kernel) ⟨Nat.le_of_ble_eq_true rfl, Nat.le_of_ble_eq_true rfl⟩) (preV_m (va_recv hK hP (ci := 2) (q0 := 0) rfl rfl) hP hD hA hK hZ hS [0, 1, 2, 3, 4, 5, 6, 7, 8, 9, 10, 11] rfl rfl (by decide)) rfl rfl hl.1 rfl (lv_room (Nat.le_of_ble_eq_true rfl)) dL_law_247 ⟨Nat.le_of_ble_eq_true rfl, Nat.le_of_ble_eq_true rfl⟩) hP hD hA hS [0, 1, 2, 3, 4, 5, 6, 7, 8, 9, 10, 11] [12, 13, 14, 15, 16, 17, 18, 19, 20, 21, 22, 23, 24] rfl rfl (by decide) (by decide) (fun r_87 u' H locs hw hP hD hS => ?_)
          obtain ⟨tr_82, nw_83, qu_84, qd_85, ql_86⟩ := u'
          try dsimp only at hw
          have hP : va_P D vwCl (xL g h k fd cd cr tr_82 ro nw_83 kp qu_84 qd_85 ql_86 kd fm tk mr mw mk ml mq mwt mn mt mcl mcr mth mkind msort mfirst mblk mfree mfnd mfm msn) H := hP.sub [13, 14, 15, 16, 17, 18, 19, 20, 21, 22, 23, 24, 0, 1, 2, 3, 4, 5, 6, 7, 8, 9, 10, 11, 12] rfl
          have hD : va_D A (xL g h k fd cd cr tr_82 ro nw_83 kp qu_84 qd_85 ql_86 kd fm tk mr mw mk ml mq mwt mn mt mcl mcr mth mkind msort mfirst mblk mfree mfnd mfm msn) := hD.sub [13, 14, 15, 16, 17, 18, 19, 20, 21, 22, 23, 24, 0, 1, 2, 3, 4, 5, 6, 7, 8, 9, 10, 11, 12] (by decide) rfl
          refine lv_aload_n hx hb dL_law_250 rfl (lv_at hl 2 rfl) ?_
          refine lv_aload_n hx hb dL_law_251 rfl (lv_at hl 0 rfl) ?_
          refine lv_iload_n hx hb dL_law_252 rfl (lv_at hl 3 rfl) ?_
          refine lv_iconst (v := 1) hx hb dL_law_253 (by decide) ?_
          refine lv_iadd hx hb dL_law_254 ?_
          obtain ⟨h_88, hw⟩ := hw
          refine va_sld hx hb hX hbl hbA hS h_88 dL_law_255 ?_
          refine lv_aload_n hx hb dL_law_256 rfl (lv_at hl 0 rfl) ?_
          refine lv_iload_n hx hb dL_law_257 rfl (lv_at hl 3 rfl) ?_
          refine lv_iconst (v := 2) hx hb dL_law_258 (by decide) ?_
          refine lv_iadd hx hb dL_law_259 ?_
          obtain ⟨h_89, hw⟩ := hw
          refine va_sld hx hb hX hbl hbA hS h_89 dL_law_260 ?_
          refine lv_aload_n hx hb dL_law_261 rfl (lv_at hl 0 rfl) ?_
          refine lv_iload_n hx hb dL_law_262 rfl (lv_at hl 3 rfl) ?_
          refine lv_iconst (v := 3) hx hb dL_law_263 (by decide) ?_
          refine lv_iadd hx hb dL_law_264 ?_
          obtain ⟨h_90, hw⟩ := hw
          refine va_sld hx hb hX hbl hbA hS h_90 dL_law_265 ?_
          refine icall (wr := [(g 0, .inr (2, [.ref (g 2), .ref (g 7), .ref (g 1), .int fd, .int cd, .int cr, .int tr_82])), (g 1, .inl (k.1, 2040, .inl ro)), (g 2, .inr (1, [.ref (g 3), .ref (g 4), .ref (g 5), .ref (g 6), .int ql_86])), (g 3, .inl (k.1, 4096, .inl nw_83)), (g 4, .inl (k.1, 4096, .inl kp)), (g 5, .inl (k.1, 512, .inl qu_84)), (g 6, .inl (k.2, 512, .inl qd_85)), (g 7, .inr (0, [.ref (g 8), .ref (g 9), .ref (g 10), .ref (g 11)])), (g 8, .inl (k.1, 256, .inl kd)), (g 9, .inl (k.1, 256, .inl fm)), (g 10, .inl (k.1, 256, .inl tk)), (g 11, .inl (k.1, 256, .inl mr))]) (va_runV (As := [.int (xs (x3 + 1).toNatClampNeg), .int (xs (x3 + 2).toNatClampNeg), .int (xs (x3 + 3).toNatClampNeg)]) (rest := [.int r_87]) hC (c_X3_refer l D h k mw mk ml mq mwt mn mt mcl mcr mth mkind msort mfirst mblk mfree mfnd mfm msn (xs (x3 + 1).toNatClampNeg) (xs (x3 + 2).toNatClampNeg) (xs (x3 + 3).toNatClampNeg) _ hw H.size) (cwV 3 hts gL_law_X3_refer rfl rfl rfl (by decide +kernel) ⟨Nat.le_of_ble_eq_true rfl, Nat.le_of_ble_eq_true rfl⟩) (preV_m (va_recv hK hP (ci := 3) (q0 := 12) rfl rfl) hP hD hA hK hZ hS [12, 13, 14, 15, 16, 17, 18, 19, 20, 21, 22, 23, 24] rfl rfl (by decide)) rfl rfl hl.1 rfl (lv_room (Nat.le_of_ble_eq_true rfl)) dL_law_266 ⟨Nat.le_of_ble_eq_true rfl, Nat.le_of_ble_eq_true rfl⟩) hP hD hA hS [12, 13, 14, 15, 16, 17, 18, 19, 20, 21, 22, 23, 24] [0, 1, 2, 3, 4, 5, 6, 7, 8, 9, 10, 11] rfl rfl (by decide) (by decide) (fun r_97 u' H locs hw hP hD hS => ?_)
          obtain ⟨mw_91, mq_92, mwt_93, mn_94, mt_95, mth_96⟩ := u'
          try dsimp only at hw
          have hP : va_P D vwCl (xL g h k fd cd cr tr_82 ro nw_83 kp qu_84 qd_85 ql_86 kd fm tk mr mw_91 mk ml mq_92 mwt_93 mn_94 mt_95 mcl mcr mth_96 mkind msort mfirst mblk mfree mfnd mfm msn) H := hP.sub [0, 1, 2, 3, 4, 5, 6, 7, 8, 9, 10, 11, 12, 13, 14, 15, 16, 17, 18, 19, 20, 21, 22, 23, 24] rfl
          have hD : va_D A (xL g h k fd cd cr tr_82 ro nw_83 kp qu_84 qd_85 ql_86 kd fm tk mr mw_91 mk ml mq_92 mwt_93 mn_94 mt_95 mcl mcr mth_96 mkind msort mfirst mblk mfree mfnd mfm msn) := hD.sub [0, 1, 2, 3, 4, 5, 6, 7, 8, 9, 10, 11, 12, 13, 14, 15, 16, 17, 18, 19, 20, 21, 22, 23, 24] (by decide) rfl
          refine lv_icmp_eq (tgt := 731) hx hb dL_law_269 (by decide) (fun c_98 => ?_) (fun c_98 => ?_)
          · have hw := hw.1 c_98
            obtain ⟨x3_99, ex3_99⟩ : ∃ y : Int32, y = x3 + 4 := ⟨_, rfl⟩
            have hw := hw x3_99 ex3_99
            refine lv_iinc (v := x3_99) (lv' := [(3, .int x3_99), (0, .ref b), (1, .ref (g 0)), (2, .ref (h 0))]) hx hb dL_law_731 hl (k := 3) rfl (by rw [ex3_99]; rfl) (by decide) rfl (fun ls hl => ?_)
            refine lv_goto (tgt := 18) hx hb dL_law_734 (by decide) ?_
            exact ih x3_99 fd cd cr tr_82 ro nw_83 kp qu_84 qd_85 ql_86 kd fm tk mr mw_91 mk ml mq_92 mwt_93 mn_94 mt_95 mcl mcr mth_96 mkind msort mfirst mblk mfree mfnd mfm msn H locs hP hD hS ls (lv_sub hl [1, 2, 3, 0] rfl) hw
          · have hw := hw.2 c_98
            refine lv_iconst (v := 0) hx hb dL_law_272 (by decide) ?_
            exact hret _ _ _ _ _ hS dL_law_273 hw
        · have hw := hw.2.2.2.2.1 ej_7
          refine lv_tableIn (tgt := 274) hx hb dL_law_32 (by rw [ej_7]; decide) (by rw [ej_7]; decide) (by rw [ej_7]; rfl) (by decide) ?_
          refine lv_aload_n hx hb dL_law_274 rfl (lv_at hl 1 rfl) ?_
          refine lv_aload_n hx hb dL_law_275 rfl (lv_at hl 0 rfl) ?_
          refine lv_iload_n hx hb dL_law_276 rfl (lv_at hl 3 rfl) ?_
          refine lv_iconst (v := 1) hx hb dL_law_277 (by decide) ?_
          refine lv_iadd hx hb dL_law_278 ?_
          obtain ⟨h_100, hw⟩ := hw
          refine va_sld hx hb hX hbl hbA hS h_100 dL_law_279 ?_
          refine lv_aload_n hx hb dL_law_280 rfl (lv_at hl 0 rfl) ?_
          refine lv_iload_n hx hb dL_law_281 rfl (lv_at hl 3 rfl) ?_
          refine lv_iconst (v := 2) hx hb dL_law_282 (by decide) ?_
          refine lv_iadd hx hb dL_law_283 ?_
          obtain ⟨h_101, hw⟩ := hw
          refine va_sld hx hb hX hbl hbA hS h_101 dL_law_284 ?_
          refine pcall (va_runV (As := [.int (xs (x3 + 1).toNatClampNeg), .int (xs (x3 + 2).toNatClampNeg)]) (rest := []) hC (c_X2_get l D g k fd cd cr tr ro nw kp qu qd ql kd fm tk mr (xs (x3 + 1).toNatClampNeg) (xs (x3 + 2).toNatClampNeg) _ hw H) (cwV 2 hts gL_law_X2_get rfl rfl rfl (by decide +kernel) ⟨Nat.le_of_ble_eq_true rfl, Nat.le_of_ble_eq_true rfl⟩) (preV_p (va_recv hK hP (ci := 2) (q0 := 0) rfl rfl) (hP.sub [0, 1, 2, 3, 4, 5, 6, 7, 8, 9, 10, 11] rfl) hK hZ hS) rfl rfl hl.1 rfl (lv_room (Nat.le_of_ble_eq_true rfl)) dL_law_285 ⟨Nat.le_of_ble_eq_true rfl, Nat.le_of_ble_eq_true rfl⟩) (fun r_102 hw => ?_)
          refine lv_aload_n hx hb dL_law_288 rfl (lv_at hl 2 rfl) ?_
          refine lv_aload_n hx hb dL_law_289 rfl (lv_at hl 0 rfl) ?_
          refine lv_iload_n hx hb dL_law_290 rfl (lv_at hl 3 rfl) ?_
          refine lv_iconst (v := 1) hx hb dL_law_291 (by decide) ?_
          refine lv_iadd hx hb dL_law_292 ?_
          obtain ⟨h_103, hw⟩ := hw
          refine va_sld hx hb hX hbl hbA hS h_103 dL_law_293 ?_
          refine lv_aload_n hx hb dL_law_294 rfl (lv_at hl 0 rfl) ?_
          refine lv_iload_n hx hb dL_law_295 rfl (lv_at hl 3 rfl) ?_
          refine lv_iconst (v := 2) hx hb dL_law_296 (by decide) ?_
          refine lv_iadd hx hb dL_law_297 ?_
          obtain ⟨h_104, hw⟩ := hw
          refine va_sld hx hb hX hbl hbA hS h_104 dL_law_298 ?_
          refine icall (wr := [(g 0, .inr (2, [.ref (g 2), .ref (g 7), .ref (g 1), .int fd, .int cd, .int cr, .int tr])), (g 1, .inl (k.1, 2040, .inl ro)), (g 2, .inr (1, [.ref (g 3), .ref (g 4), .ref (g 5), .ref (g 6), .int ql])), (g 3, .inl (k.1, 4096, .inl nw)), (g 4, .inl (k.1, 4096, .inl kp)), (g 5, .inl (k.1, 512, .inl qu)), (g 6, .inl (k.2, 512, .inl qd)), (g 7, .inr (0, [.ref (g 8), .ref (g 9), .ref (g 10), .ref (g 11)])), (g 8, .inl (k.1, 256, .inl kd)), (g 9, .inl (k.1, 256, .inl fm)), (g 10, .inl (k.1, 256, .inl tk)), (g 11, .inl (k.1, 256, .inl mr))]) (va_runV (As := [.int (xs (x3 + 1).toNatClampNeg), .int (xs (x3 + 2).toNatClampNeg)]) (rest := [.int r_102]) hC (c_X3_get l D h k mw mk ml mq mwt mn mt mcl mcr mth mkind msort mfirst mblk mfree mfnd mfm msn (xs (x3 + 1).toNatClampNeg) (xs (x3 + 2).toNatClampNeg) _ hw H.size) (cwV 2 hts gL_law_X3_get rfl rfl rfl (by decide +kernel) ⟨Nat.le_of_ble_eq_true rfl, Nat.le_of_ble_eq_true rfl⟩) (preV_m (va_recv hK hP (ci := 3) (q0 := 12) rfl rfl) hP hD hA hK hZ hS [12, 13, 14, 15, 16, 17, 18, 19, 20, 21, 22, 23, 24] rfl rfl (by decide)) rfl rfl hl.1 rfl (lv_room (Nat.le_of_ble_eq_true rfl)) dL_law_299 ⟨Nat.le_of_ble_eq_true rfl, Nat.le_of_ble_eq_true rfl⟩) hP hD hA hS [12, 13, 14, 15, 16, 17, 18, 19, 20, 21, 22, 23, 24] [0, 1, 2, 3, 4, 5, 6, 7, 8, 9, 10, 11] rfl rfl (by decide) (by decide) (fun r_106 u' H locs hw hP hD hS => ?_)
          obtain ⟨mth_105, rfl⟩ : ∃ z, z = u' := ⟨_, rfl⟩
          try dsimp only at hw
          have hP : va_P D vwCl (xL g h k fd cd cr tr ro nw kp qu qd ql kd fm tk mr mw mk ml mq mwt mn mt mcl mcr mth_105 mkind msort mfirst mblk mfree mfnd mfm msn) H := hP.sub [0, 1, 2, 3, 4, 5, 6, 7, 8, 9, 10, 11, 12, 13, 14, 15, 16, 17, 18, 19, 20, 21, 22, 23, 24] rfl
          have hD : va_D A (xL g h k fd cd cr tr ro nw kp qu qd ql kd fm tk mr mw mk ml mq mwt mn mt mcl mcr mth_105 mkind msort mfirst mblk mfree mfnd mfm msn) := hD.sub [0, 1, 2, 3, 4, 5, 6, 7, 8, 9, 10, 11, 12, 13, 14, 15, 16, 17, 18, 19, 20, 21, 22, 23, 24] (by decide) rfl
          refine lv_icmp_eq (tgt := 731) hx hb dL_law_302 (by decide) (fun c_107 => ?_) (fun c_107 => ?_)
          · have hw := hw.1 c_107
            obtain ⟨x3_108, ex3_108⟩ : ∃ y : Int32, y = x3 + 4 := ⟨_, rfl⟩
            have hw := hw x3_108 ex3_108
            refine lv_iinc (v := x3_108) (lv' := [(3, .int x3_108), (0, .ref b), (1, .ref (g 0)), (2, .ref (h 0))]) hx hb dL_law_731 hl (k := 3) rfl (by rw [ex3_108]; rfl) (by decide) rfl (fun ls hl => ?_)
            refine lv_goto (tgt := 18) hx hb dL_law_734 (by decide) ?_
            exact ih x3_108 fd cd cr tr ro nw kp qu qd ql kd fm tk mr mw mk ml mq mwt mn mt mcl mcr mth_105 mkind msort mfirst mblk mfree mfnd mfm msn H locs hP hD hS ls (lv_sub hl [1, 2, 3, 0] rfl) hw
          · have hw := hw.2 c_107
            refine lv_iconst (v := 0) hx hb dL_law_305 (by decide) ?_
            exact hret _ _ _ _ _ hS dL_law_306 hw
        · have hw := hw.2.2.2.2.2.1 ej_7
          refine lv_tableIn (tgt := 307) hx hb dL_law_32 (by rw [ej_7]; decide) (by rw [ej_7]; decide) (by rw [ej_7]; rfl) (by decide) ?_
          refine lv_aload_n hx hb dL_law_307 rfl (lv_at hl 1 rfl) ?_
          refine lv_aload_n hx hb dL_law_308 rfl (lv_at hl 0 rfl) ?_
          refine lv_iload_n hx hb dL_law_309 rfl (lv_at hl 3 rfl) ?_
          refine lv_iconst (v := 1) hx hb dL_law_310 (by decide) ?_
          refine lv_iadd hx hb dL_law_311 ?_
          obtain ⟨h_109, hw⟩ := hw
          refine va_sld hx hb hX hbl hbA hS h_109 dL_law_312 ?_
          refine lv_aload_n hx hb dL_law_313 rfl (lv_at hl 0 rfl) ?_
          refine lv_iload_n hx hb dL_law_314 rfl (lv_at hl 3 rfl) ?_
          refine lv_iconst (v := 2) hx hb dL_law_315 (by decide) ?_
          refine lv_iadd hx hb dL_law_316 ?_
          obtain ⟨h_110, hw⟩ := hw
          refine va_sld hx hb hX hbl hbA hS h_110 dL_law_317 ?_
          refine icall (wr := [(h 0, .inr (3, [.ref (h 1), .ref (h 2), .ref (h 3), .ref (h 4), .ref (h 5), .int mn, .int mt, .int mcl, .int mcr, .int mth, .ref (h 6), .ref (h 7), .ref (h 8), .ref (h 9), .ref (h 10), .ref (h 11), .int mfm, .ref (h 12)])), (h 1, .inl (k.1, 4096, .inl mw)), (h 2, .inl (k.1, 4096, .inl mk)), (h 3, .inl (k.2, 4096, .inl ml)), (h 4, .inl (k.2, 512, .inl mq)), (h 5, .inl (k.1, 512, .inl mwt)), (h 6, .inl (k.1, 256, .inl mkind)), (h 7, .inl (k.1, 256, .inl msort)), (h 8, .inl (k.1, 256, .inl mfirst)), (h 9, .inl (k.1, 256, .inl mblk)), (h 10, .inl (k.1, 256, .inl mfree)), (h 11, .inl (k.1, 2048, .inl mfnd)), (h 12, .inl (k.2, 4096, .inl msn))]) (va_runV (As := [.int (xs (x3 + 1).toNatClampNeg), .int (xs (x3 + 2).toNatClampNeg)]) (rest := []) hC (c_X2_root l D g k fd cd cr tr ro nw kp qu qd ql kd fm tk mr (xs (x3 + 1).toNatClampNeg) (xs (x3 + 2).toNatClampNeg) _ hw H.size) (cwV 2 hts gL_law_X2_root rfl rfl rfl (by decide +kernel) ⟨Nat.le_of_ble_eq_true rfl, Nat.le_of_ble_eq_true rfl⟩) (preV_m (va_recv hK hP (ci := 2) (q0 := 0) rfl rfl) hP hD hA hK hZ hS [0, 1, 2, 3, 4, 5, 6, 7, 8, 9, 10, 11] rfl rfl (by decide)) rfl rfl hl.1 rfl (lv_room (Nat.le_of_ble_eq_true rfl)) dL_law_318 ⟨Nat.le_of_ble_eq_true rfl, Nat.le_of_ble_eq_true rfl⟩) hP hD hA hS [0, 1, 2, 3, 4, 5, 6, 7, 8, 9, 10, 11] [12, 13, 14, 15, 16, 17, 18, 19, 20, 21, 22, 23, 24] rfl rfl (by decide) (by decide) (fun r_116 u' H locs hw hP hD hS => ?_)
          obtain ⟨tr_111, nw_112, qu_113, qd_114, ql_115⟩ := u'
          try dsimp only at hw
          have hP : va_P D vwCl (xL g h k fd cd cr tr_111 ro nw_112 kp qu_113 qd_114 ql_115 kd fm tk mr mw mk ml mq mwt mn mt mcl mcr mth mkind msort mfirst mblk mfree mfnd mfm msn) H := hP.sub [13, 14, 15, 16, 17, 18, 19, 20, 21, 22, 23, 24, 0, 1, 2, 3, 4, 5, 6, 7, 8, 9, 10, 11, 12] rfl
          have hD : va_D A (xL g h k fd cd cr tr_111 ro nw_112 kp qu_113 qd_114 ql_115 kd fm tk mr mw mk ml mq mwt mn mt mcl mcr mth mkind msort mfirst mblk mfree mfnd mfm msn) := hD.sub [13, 14, 15, 16, 17, 18, 19, 20, 21, 22, 23, 24, 0, 1, 2, 3, 4, 5, 6, 7, 8, 9, 10, 11, 12] (by decide) rfl
          refine lv_aload_n hx hb dL_law_321 rfl (lv_at hl 2 rfl) ?_
          refine lv_aload_n hx hb dL_law_322 rfl (lv_at hl 0 rfl) ?_
          refine lv_iload_n hx hb dL_law_323 rfl (lv_at hl 3 rfl) ?_
          refine lv_iconst (v := 1) hx hb dL_law_324 (by decide) ?_
          refine lv_iadd hx hb dL_law_325 ?_
          obtain ⟨h_117, hw⟩ := hw
          refine va_sld hx hb hX hbl hbA hS h_117 dL_law_326 ?_
          refine lv_aload_n hx hb dL_law_327 rfl (lv_at hl 0 rfl) ?_
          refine lv_iload_n hx hb dL_law_328 rfl (lv_at hl 3 rfl) ?_
          refine lv_iconst (v := 2) hx hb dL_law_329 (by decide) ?_
          refine lv_iadd hx hb dL_law_330 ?_
          obtain ⟨h_118, hw⟩ := hw
          refine va_sld hx hb hX hbl hbA hS h_118 dL_law_331 ?_
          refine icall (wr := [(g 0, .inr (2, [.ref (g 2), .ref (g 7), .ref (g 1), .int fd, .int cd, .int cr, .int tr_111])), (g 1, .inl (k.1, 2040, .inl ro)), (g 2, .inr (1, [.ref (g 3), .ref (g 4), .ref (g 5), .ref (g 6), .int ql_115])), (g 3, .inl (k.1, 4096, .inl nw_112)), (g 4, .inl (k.1, 4096, .inl kp)), (g 5, .inl (k.1, 512, .inl qu_113)), (g 6, .inl (k.2, 512, .inl qd_114)), (g 7, .inr (0, [.ref (g 8), .ref (g 9), .ref (g 10), .ref (g 11)])), (g 8, .inl (k.1, 256, .inl kd)), (g 9, .inl (k.1, 256, .inl fm)), (g 10, .inl (k.1, 256, .inl tk)), (g 11, .inl (k.1, 256, .inl mr))]) (va_runV (As := [.int (xs (x3 + 1).toNatClampNeg), .int (xs (x3 + 2).toNatClampNeg)]) (rest := [.int r_116]) hC (c_X3_root l D h k mw mk ml mq mwt mn mt mcl mcr mth mkind msort mfirst mblk mfree mfnd mfm msn (xs (x3 + 1).toNatClampNeg) (xs (x3 + 2).toNatClampNeg) _ hw H.size) (cwV 2 hts gL_law_X3_root rfl rfl rfl (by decide +kernel) ⟨Nat.le_of_ble_eq_true rfl, Nat.le_of_ble_eq_true rfl⟩) (preV_m (va_recv hK hP (ci := 3) (q0 := 12) rfl rfl) hP hD hA hK hZ hS [12, 13, 14, 15, 16, 17, 18, 19, 20, 21, 22, 23, 24] rfl rfl (by decide)) rfl rfl hl.1 rfl (lv_room (Nat.le_of_ble_eq_true rfl)) dL_law_332 ⟨Nat.le_of_ble_eq_true rfl, Nat.le_of_ble_eq_true rfl⟩) hP hD hA hS [12, 13, 14, 15, 16, 17, 18, 19, 20, 21, 22, 23, 24] [0, 1, 2, 3, 4, 5, 6, 7, 8, 9, 10, 11] rfl rfl (by decide) (by decide) (fun r_125 u' H locs hw hP hD hS => ?_)
          obtain ⟨mw_119, mq_120, mwt_121, mn_122, mt_123, mth_124⟩ := u'
          try dsimp only at hw
          have hP : va_P D vwCl (xL g h k fd cd cr tr_111 ro nw_112 kp qu_113 qd_114 ql_115 kd fm tk mr mw_119 mk ml mq_120 mwt_121 mn_122 mt_123 mcl mcr mth_124 mkind msort mfirst mblk mfree mfnd mfm msn) H := hP.sub [0, 1, 2, 3, 4, 5, 6, 7, 8, 9, 10, 11, 12, 13, 14, 15, 16, 17, 18, 19, 20, 21, 22, 23, 24] rfl
          have hD : va_D A (xL g h k fd cd cr tr_111 ro nw_112 kp qu_113 qd_114 ql_115 kd fm tk mr mw_119 mk ml mq_120 mwt_121 mn_122 mt_123 mcl mcr mth_124 mkind msort mfirst mblk mfree mfnd mfm msn) := hD.sub [0, 1, 2, 3, 4, 5, 6, 7, 8, 9, 10, 11, 12, 13, 14, 15, 16, 17, 18, 19, 20, 21, 22, 23, 24] (by decide) rfl
          refine lv_icmp_eq (tgt := 731) hx hb dL_law_335 (by decide) (fun c_126 => ?_) (fun c_126 => ?_)
          · have hw := hw.1 c_126
            obtain ⟨x3_127, ex3_127⟩ : ∃ y : Int32, y = x3 + 4 := ⟨_, rfl⟩
            have hw := hw x3_127 ex3_127
            refine lv_iinc (v := x3_127) (lv' := [(3, .int x3_127), (0, .ref b), (1, .ref (g 0)), (2, .ref (h 0))]) hx hb dL_law_731 hl (k := 3) rfl (by rw [ex3_127]; rfl) (by decide) rfl (fun ls hl => ?_)
            refine lv_goto (tgt := 18) hx hb dL_law_734 (by decide) ?_
            exact ih x3_127 fd cd cr tr_111 ro nw_112 kp qu_113 qd_114 ql_115 kd fm tk mr mw_119 mk ml mq_120 mwt_121 mn_122 mt_123 mcl mcr mth_124 mkind msort mfirst mblk mfree mfnd mfm msn H locs hP hD hS ls (lv_sub hl [1, 2, 3, 0] rfl) hw
          · have hw := hw.2 c_126
            refine lv_iconst (v := 0) hx hb dL_law_338 (by decide) ?_
            exact hret _ _ _ _ _ hS dL_law_339 hw
        · have hw := hw.2.2.2.2.2.2.1 ej_7
          refine lv_tableIn (tgt := 340) hx hb dL_law_32 (by rw [ej_7]; decide) (by rw [ej_7]; decide) (by rw [ej_7]; rfl) (by decide) ?_
          refine lv_aload_n hx hb dL_law_340 rfl (lv_at hl 1 rfl) ?_
          refine lv_aload_n hx hb dL_law_341 rfl (lv_at hl 0 rfl) ?_
          refine lv_iload_n hx hb dL_law_342 rfl (lv_at hl 3 rfl) ?_
          refine lv_iconst (v := 1) hx hb dL_law_343 (by decide) ?_
          refine lv_iadd hx hb dL_law_344 ?_
          obtain ⟨h_128, hw⟩ := hw
          refine va_sld hx hb hX hbl hbA hS h_128 dL_law_345 ?_
          refine pcall (va_runV (As := [.int (xs (x3 + 1).toNatClampNeg)]) (rest := []) hC (c_X2_rootOf l D g k fd cd cr tr ro nw kp qu qd ql kd fm tk mr (xs (x3 + 1).toNatClampNeg) _ hw H) (cwV 1 hts gL_law_X2_rootOf rfl rfl rfl (by decide +kernel) ⟨Nat.le_of_ble_eq_true rfl, Nat.le_of_ble_eq_true rfl⟩) (preV_p (va_recv hK hP (ci := 2) (q0 := 0) rfl rfl) (hP.sub [0, 1, 2, 3, 4, 5, 6, 7, 8, 9, 10, 11] rfl) hK hZ hS) rfl rfl hl.1 rfl (lv_room (Nat.le_of_ble_eq_true rfl)) dL_law_346 ⟨Nat.le_of_ble_eq_true rfl, Nat.le_of_ble_eq_true rfl⟩) (fun r_129 hw => ?_)
          refine lv_aload_n hx hb dL_law_349 rfl (lv_at hl 2 rfl) ?_
          refine lv_aload_n hx hb dL_law_350 rfl (lv_at hl 0 rfl) ?_
          refine lv_iload_n hx hb dL_law_351 rfl (lv_at hl 3 rfl) ?_
          refine lv_iconst (v := 1) hx hb dL_law_352 (by decide) ?_
          refine lv_iadd hx hb dL_law_353 ?_
          obtain ⟨h_130, hw⟩ := hw
          refine va_sld hx hb hX hbl hbA hS h_130 dL_law_354 ?_
          refine icall (wr := [(g 0, .inr (2, [.ref (g 2), .ref (g 7), .ref (g 1), .int fd, .int cd, .int cr, .int tr])), (g 1, .inl (k.1, 2040, .inl ro)), (g 2, .inr (1, [.ref (g 3), .ref (g 4), .ref (g 5), .ref (g 6), .int ql])), (g 3, .inl (k.1, 4096, .inl nw)), (g 4, .inl (k.1, 4096, .inl kp)), (g 5, .inl (k.1, 512, .inl qu)), (g 6, .inl (k.2, 512, .inl qd)), (g 7, .inr (0, [.ref (g 8), .ref (g 9), .ref (g 10), .ref (g 11)])), (g 8, .inl (k.1, 256, .inl kd)), (g 9, .inl (k.1, 256, .inl fm)), (g 10, .inl (k.1, 256, .inl tk)), (g 11, .inl (k.1, 256, .inl mr))]) (va_runV (As := [.int (xs (x3 + 1).toNatClampNeg)]) (rest := [.int r_129]) hC (c_X3_rootOf l D h k mw mk ml mq mwt mn mt mcl mcr mth mkind msort mfirst mblk mfree mfnd mfm msn (xs (x3 + 1).toNatClampNeg) _ hw H.size) (cwV 1 hts gL_law_X3_rootOf rfl rfl rfl (by decide +kernel) ⟨Nat.le_of_ble_eq_true rfl, Nat.le_of_ble_eq_true rfl⟩) (preV_m (va_recv hK hP (ci := 3) (q0 := 12) rfl rfl) hP hD hA hK hZ hS [12, 13, 14, 15, 16, 17, 18, 19, 20, 21, 22, 23, 24] rfl rfl (by decide)) rfl rfl hl.1 rfl (lv_room (Nat.le_of_ble_eq_true rfl)) dL_law_355 ⟨Nat.le_of_ble_eq_true rfl, Nat.le_of_ble_eq_true rfl⟩) hP hD hA hS [12, 13, 14, 15, 16, 17, 18, 19, 20, 21, 22, 23, 24] [0, 1, 2, 3, 4, 5, 6, 7, 8, 9, 10, 11] rfl rfl (by decide) (by decide) (fun r_132 u' H locs hw hP hD hS => ?_)
          obtain ⟨mth_131, rfl⟩ : ∃ z, z = u' := ⟨_, rfl⟩
          try dsimp only at hw
          have hP : va_P D vwCl (xL g h k fd cd cr tr ro nw kp qu qd ql kd fm tk mr mw mk ml mq mwt mn mt mcl mcr mth_131 mkind msort mfirst mblk mfree mfnd mfm msn) H := hP.sub [0, 1, 2, 3, 4, 5, 6, 7, 8, 9, 10, 11, 12, 13, 14, 15, 16, 17, 18, 19, 20, 21, 22, 23, 24] rfl
          have hD : va_D A (xL g h k fd cd cr tr ro nw kp qu qd ql kd fm tk mr mw mk ml mq mwt mn mt mcl mcr mth_131 mkind msort mfirst mblk mfree mfnd mfm msn) := hD.sub [0, 1, 2, 3, 4, 5, 6, 7, 8, 9, 10, 11, 12, 13, 14, 15, 16, 17, 18, 19, 20, 21, 22, 23, 24] (by decide) rfl
          refine lv_icmp_eq (tgt := 731) hx hb dL_law_358 (by decide) (fun c_133 => ?_) (fun c_133 => ?_)
          · have hw := hw.1 c_133
            obtain ⟨x3_134, ex3_134⟩ : ∃ y : Int32, y = x3 + 4 := ⟨_, rfl⟩
            have hw := hw x3_134 ex3_134
            refine lv_iinc (v := x3_134) (lv' := [(3, .int x3_134), (0, .ref b), (1, .ref (g 0)), (2, .ref (h 0))]) hx hb dL_law_731 hl (k := 3) rfl (by rw [ex3_134]; rfl) (by decide) rfl (fun ls hl => ?_)
            refine lv_goto (tgt := 18) hx hb dL_law_734 (by decide) ?_
            exact ih x3_134 fd cd cr tr ro nw kp qu qd ql kd fm tk mr mw mk ml mq mwt mn mt mcl mcr mth_131 mkind msort mfirst mblk mfree mfnd mfm msn H locs hP hD hS ls (lv_sub hl [1, 2, 3, 0] rfl) hw
          · have hw := hw.2 c_133
            refine lv_iconst (v := 0) hx hb dL_law_361 (by decide) ?_
            exact hret _ _ _ _ _ hS dL_law_362 hw
        · have hw := hw.2.2.2.2.2.2.2.1 ej_7
          refine lv_tableIn (tgt := 363) hx hb dL_law_32 (by rw [ej_7]; decide) (by rw [ej_7]; decide) (by rw [ej_7]; rfl) (by decide) ?_
          refine lv_aload_n hx hb dL_law_363 rfl (lv_at hl 1 rfl) ?_
          refine icall (wr := [(h 0, .inr (3, [.ref (h 1), .ref (h 2), .ref (h 3), .ref (h 4), .ref (h 5), .int mn, .int mt, .int mcl, .int mcr, .int mth, .ref (h 6), .ref (h 7), .ref (h 8), .ref (h 9), .ref (h 10), .ref (h 11), .int mfm, .ref (h 12)])), (h 1, .inl (k.1, 4096, .inl mw)), (h 2, .inl (k.1, 4096, .inl mk)), (h 3, .inl (k.2, 4096, .inl ml)), (h 4, .inl (k.2, 512, .inl mq)), (h 5, .inl (k.1, 512, .inl mwt)), (h 6, .inl (k.1, 256, .inl mkind)), (h 7, .inl (k.1, 256, .inl msort)), (h 8, .inl (k.1, 256, .inl mfirst)), (h 9, .inl (k.1, 256, .inl mblk)), (h 10, .inl (k.1, 256, .inl mfree)), (h 11, .inl (k.1, 2048, .inl mfnd)), (h 12, .inl (k.2, 4096, .inl msn))]) (va_runV (As := []) (rest := []) hC (c_X2_fence l D g k fd cd cr tr ro nw kp qu qd ql kd fm tk mr _ hw H.size) (cwV 0 hts gL_law_X2_fence rfl rfl rfl (by decide +kernel) ⟨Nat.le_of_ble_eq_true rfl, Nat.le_of_ble_eq_true rfl⟩) (preV_m (va_recv hK hP (ci := 2) (q0 := 0) rfl rfl) hP hD hA hK hZ hS [0, 1, 2, 3, 4, 5, 6, 7, 8, 9, 10, 11] rfl rfl (by decide)) rfl rfl hl.1 rfl (lv_room (Nat.le_of_ble_eq_true rfl)) dL_law_364 ⟨Nat.le_of_ble_eq_true rfl, Nat.le_of_ble_eq_true rfl⟩) hP hD hA hS [0, 1, 2, 3, 4, 5, 6, 7, 8, 9, 10, 11] [12, 13, 14, 15, 16, 17, 18, 19, 20, 21, 22, 23, 24] rfl rfl (by decide) (by decide) (fun r_139 u' H locs hw hP hD hS => ?_)
          obtain ⟨nw_135, kp_136, qd_137, ql_138⟩ := u'
          try dsimp only at hw
          have hP : va_P D vwCl (xL g h k fd cd cr tr ro nw_135 kp_136 qu qd_137 ql_138 kd fm tk mr mw mk ml mq mwt mn mt mcl mcr mth mkind msort mfirst mblk mfree mfnd mfm msn) H := hP.sub [13, 14, 15, 16, 17, 18, 19, 20, 21, 22, 23, 24, 0, 1, 2, 3, 4, 5, 6, 7, 8, 9, 10, 11, 12] rfl
          have hD : va_D A (xL g h k fd cd cr tr ro nw_135 kp_136 qu qd_137 ql_138 kd fm tk mr mw mk ml mq mwt mn mt mcl mcr mth mkind msort mfirst mblk mfree mfnd mfm msn) := hD.sub [13, 14, 15, 16, 17, 18, 19, 20, 21, 22, 23, 24, 0, 1, 2, 3, 4, 5, 6, 7, 8, 9, 10, 11, 12] (by decide) rfl
          refine lv_aload_n hx hb dL_law_367 rfl (lv_at hl 2 rfl) ?_
          refine icall (wr := [(g 0, .inr (2, [.ref (g 2), .ref (g 7), .ref (g 1), .int fd, .int cd, .int cr, .int tr])), (g 1, .inl (k.1, 2040, .inl ro)), (g 2, .inr (1, [.ref (g 3), .ref (g 4), .ref (g 5), .ref (g 6), .int ql_138])), (g 3, .inl (k.1, 4096, .inl nw_135)), (g 4, .inl (k.1, 4096, .inl kp_136)), (g 5, .inl (k.1, 512, .inl qu)), (g 6, .inl (k.2, 512, .inl qd_137)), (g 7, .inr (0, [.ref (g 8), .ref (g 9), .ref (g 10), .ref (g 11)])), (g 8, .inl (k.1, 256, .inl kd)), (g 9, .inl (k.1, 256, .inl fm)), (g 10, .inl (k.1, 256, .inl tk)), (g 11, .inl (k.1, 256, .inl mr))]) (va_runV (As := []) (rest := [.int r_139]) hC (c_X3_fence l D h k mw mk ml mq mwt mn mt mcl mcr mth mkind msort mfirst mblk mfree mfnd mfm msn _ hw H.size) (cwV 0 hts gL_law_X3_fence rfl rfl rfl (by decide +kernel) ⟨Nat.le_of_ble_eq_true rfl, Nat.le_of_ble_eq_true rfl⟩) (preV_m (va_recv hK hP (ci := 3) (q0 := 12) rfl rfl) hP hD hA hK hZ hS [12, 13, 14, 15, 16, 17, 18, 19, 20, 21, 22, 23, 24] rfl rfl (by decide)) rfl rfl hl.1 rfl (lv_room (Nat.le_of_ble_eq_true rfl)) dL_law_368 ⟨Nat.le_of_ble_eq_true rfl, Nat.le_of_ble_eq_true rfl⟩) hP hD hA hS [12, 13, 14, 15, 16, 17, 18, 19, 20, 21, 22, 23, 24] [0, 1, 2, 3, 4, 5, 6, 7, 8, 9, 10, 11] rfl rfl (by decide) (by decide) (fun r_144 u' H locs hw hP hD hS => ?_)
          obtain ⟨mk_140, mq_141, mn_142, mth_143⟩ := u'
          try dsimp only at hw
          have hP : va_P D vwCl (xL g h k fd cd cr tr ro nw_135 kp_136 qu qd_137 ql_138 kd fm tk mr mw mk_140 ml mq_141 mwt mn_142 mt mcl mcr mth_143 mkind msort mfirst mblk mfree mfnd mfm msn) H := hP.sub [0, 1, 2, 3, 4, 5, 6, 7, 8, 9, 10, 11, 12, 13, 14, 15, 16, 17, 18, 19, 20, 21, 22, 23, 24] rfl
          have hD : va_D A (xL g h k fd cd cr tr ro nw_135 kp_136 qu qd_137 ql_138 kd fm tk mr mw mk_140 ml mq_141 mwt mn_142 mt mcl mcr mth_143 mkind msort mfirst mblk mfree mfnd mfm msn) := hD.sub [0, 1, 2, 3, 4, 5, 6, 7, 8, 9, 10, 11, 12, 13, 14, 15, 16, 17, 18, 19, 20, 21, 22, 23, 24] (by decide) rfl
          refine lv_icmp_eq (tgt := 731) hx hb dL_law_371 (by decide) (fun c_145 => ?_) (fun c_145 => ?_)
          · have hw := hw.1 c_145
            obtain ⟨x3_146, ex3_146⟩ : ∃ y : Int32, y = x3 + 4 := ⟨_, rfl⟩
            have hw := hw x3_146 ex3_146
            refine lv_iinc (v := x3_146) (lv' := [(3, .int x3_146), (0, .ref b), (1, .ref (g 0)), (2, .ref (h 0))]) hx hb dL_law_731 hl (k := 3) rfl (by rw [ex3_146]; rfl) (by decide) rfl (fun ls hl => ?_)
            refine lv_goto (tgt := 18) hx hb dL_law_734 (by decide) ?_
            exact ih x3_146 fd cd cr tr ro nw_135 kp_136 qu qd_137 ql_138 kd fm tk mr mw mk_140 ml mq_141 mwt mn_142 mt mcl mcr mth_143 mkind msort mfirst mblk mfree mfnd mfm msn H locs hP hD hS ls (lv_sub hl [1, 2, 3, 0] rfl) hw
          · have hw := hw.2 c_145
            refine lv_iconst (v := 0) hx hb dL_law_374 (by decide) ?_
            exact hret _ _ _ _ _ hS dL_law_375 hw
        · have hw := hw.2.2.2.2.2.2.2.2.1 ej_7
          refine lv_tableIn (tgt := 376) hx hb dL_law_32 (by rw [ej_7]; decide) (by rw [ej_7]; decide) (by rw [ej_7]; rfl) (by decide) ?_
          refine lv_aload_n hx hb dL_law_376 rfl (lv_at hl 1 rfl) ?_
          refine lv_aload_n hx hb dL_law_377 rfl (lv_at hl 0 rfl) ?_
          refine lv_iload_n hx hb dL_law_378 rfl (lv_at hl 3 rfl) ?_
          refine lv_iconst (v := 1) hx hb dL_law_379 (by decide) ?_
          refine lv_iadd hx hb dL_law_380 ?_
          obtain ⟨h_147, hw⟩ := hw
          refine va_sld hx hb hX hbl hbA hS h_147 dL_law_381 ?_
          refine icall (wr := [(h 0, .inr (3, [.ref (h 1), .ref (h 2), .ref (h 3), .ref (h 4), .ref (h 5), .int mn, .int mt, .int mcl, .int mcr, .int mth, .ref (h 6), .ref (h 7), .ref (h 8), .ref (h 9), .ref (h 10), .ref (h 11), .int mfm, .ref (h 12)])), (h 1, .inl (k.1, 4096, .inl mw)), (h 2, .inl (k.1, 4096, .inl mk)), (h 3, .inl (k.2, 4096, .inl ml)), (h 4, .inl (k.2, 512, .inl mq)), (h 5, .inl (k.1, 512, .inl mwt)), (h 6, .inl (k.1, 256, .inl mkind)), (h 7, .inl (k.1, 256, .inl msort)), (h 8, .inl (k.1, 256, .inl mfirst)), (h 9, .inl (k.1, 256, .inl mblk)), (h 10, .inl (k.1, 256, .inl mfree)), (h 11, .inl (k.1, 2048, .inl mfnd)), (h 12, .inl (k.2, 4096, .inl msn))]) (va_runV (As := [.int (xs (x3 + 1).toNatClampNeg)]) (rest := []) hC (c_X2_crash l D g k fd cd cr tr ro nw kp qu qd ql kd fm tk mr (xs (x3 + 1).toNatClampNeg) _ hw H.size) (cwV 1 hts gL_law_X2_crash rfl rfl rfl (by decide +kernel) ⟨Nat.le_of_ble_eq_true rfl, Nat.le_of_ble_eq_true rfl⟩) (preV_m (va_recv hK hP (ci := 2) (q0 := 0) rfl rfl) hP hD hA hK hZ hS [0, 1, 2, 3, 4, 5, 6, 7, 8, 9, 10, 11] rfl rfl (by decide)) rfl rfl hl.1 rfl (lv_room (Nat.le_of_ble_eq_true rfl)) dL_law_382 ⟨Nat.le_of_ble_eq_true rfl, Nat.le_of_ble_eq_true rfl⟩) hP hD hA hS [0, 1, 2, 3, 4, 5, 6, 7, 8, 9, 10, 11] [12, 13, 14, 15, 16, 17, 18, 19, 20, 21, 22, 23, 24] rfl rfl (by decide) (by decide) (fun r_160 u' H locs hw hP hD hS => ?_)
          obtain ⟨fd_148, cd_149, cr_150, ro_151, nw_152, kp_153, qu_154, qd_155, ql_156, kd_157, fm_158, tk_159⟩ := u'
          try dsimp only at hw
          have hP : va_P D vwCl (xL g h k fd_148 cd_149 cr_150 tr ro_151 nw_152 kp_153 qu_154 qd_155 ql_156 kd_157 fm_158 tk_159 mr mw mk ml mq mwt mn mt mcl mcr mth mkind msort mfirst mblk mfree mfnd mfm msn) H := hP.sub [13, 14, 15, 16, 17, 18, 19, 20, 21, 22, 23, 24, 0, 1, 2, 3, 4, 5, 6, 7, 8, 9, 10, 11, 12] rfl
          have hD : va_D A (xL g h k fd_148 cd_149 cr_150 tr ro_151 nw_152 kp_153 qu_154 qd_155 ql_156 kd_157 fm_158 tk_159 mr mw mk ml mq mwt mn mt mcl mcr mth mkind msort mfirst mblk mfree mfnd mfm msn) := hD.sub [13, 14, 15, 16, 17, 18, 19, 20, 21, 22, 23, 24, 0, 1, 2, 3, 4, 5, 6, 7, 8, 9, 10, 11, 12] (by decide) rfl
          refine lv_aload_n hx hb dL_law_385 rfl (lv_at hl 2 rfl) ?_
          refine lv_aload_n hx hb dL_law_386 rfl (lv_at hl 0 rfl) ?_
          refine lv_iload_n hx hb dL_law_387 rfl (lv_at hl 3 rfl) ?_
          refine lv_iconst (v := 1) hx hb dL_law_388 (by decide) ?_
          refine lv_iadd hx hb dL_law_389 ?_
          obtain ⟨h_161, hw⟩ := hw
          refine va_sld hx hb hX hbl hbA hS h_161 dL_law_390 ?_
          refine icall (wr := [(g 0, .inr (2, [.ref (g 2), .ref (g 7), .ref (g 1), .int fd_148, .int cd_149, .int cr_150, .int tr])), (g 1, .inl (k.1, 2040, .inl ro_151)), (g 2, .inr (1, [.ref (g 3), .ref (g 4), .ref (g 5), .ref (g 6), .int ql_156])), (g 3, .inl (k.1, 4096, .inl nw_152)), (g 4, .inl (k.1, 4096, .inl kp_153)), (g 5, .inl (k.1, 512, .inl qu_154)), (g 6, .inl (k.2, 512, .inl qd_155)), (g 7, .inr (0, [.ref (g 8), .ref (g 9), .ref (g 10), .ref (g 11)])), (g 8, .inl (k.1, 256, .inl kd_157)), (g 9, .inl (k.1, 256, .inl fm_158)), (g 10, .inl (k.1, 256, .inl tk_159)), (g 11, .inl (k.1, 256, .inl mr))]) (va_runV (As := [.int (xs (x3 + 1).toNatClampNeg)]) (rest := [.int r_160]) hC (c_X3_crash l D h k mw mk ml mq mwt mn mt mcl mcr mth mkind msort mfirst mblk mfree mfnd mfm msn (xs (x3 + 1).toNatClampNeg) _ hw H.size) (cwV 1 hts gL_law_X3_crash rfl rfl rfl (by decide +kernel) ⟨Nat.le_of_ble_eq_true rfl, Nat.le_of_ble_eq_true rfl⟩) (preV_m (va_recv hK hP (ci := 3) (q0 := 12) rfl rfl) hP hD hA hK hZ hS [12, 13, 14, 15, 16, 17, 18, 19, 20, 21, 22, 23, 24] rfl rfl (by decide)) rfl rfl hl.1 rfl (lv_room (Nat.le_of_ble_eq_true rfl)) dL_law_391 ⟨Nat.le_of_ble_eq_true rfl, Nat.le_of_ble_eq_true rfl⟩) hP hD hA hS [12, 13, 14, 15, 16, 17, 18, 19, 20, 21, 22, 23, 24] [0, 1, 2, 3, 4, 5, 6, 7, 8, 9, 10, 11] rfl rfl (by decide) (by decide) (fun r_178 u' H locs hw hP hD hS => ?_)
          obtain ⟨mw_162, mk_163, ml_164, mq_165, mwt_166, mn_167, mcl_168, mcr_169, mth_170, mkind_171, msort_172, mfirst_173, mblk_174, mfree_175, mfnd_176, mfm_177⟩ := u'
          try dsimp only at hw
          have hP : va_P D vwCl (xL g h k fd_148 cd_149 cr_150 tr ro_151 nw_152 kp_153 qu_154 qd_155 ql_156 kd_157 fm_158 tk_159 mr mw_162 mk_163 ml_164 mq_165 mwt_166 mn_167 mt mcl_168 mcr_169 mth_170 mkind_171 msort_172 mfirst_173 mblk_174 mfree_175 mfnd_176 mfm_177 msn) H := hP.sub [0, 1, 2, 3, 4, 5, 6, 7, 8, 9, 10, 11, 12, 13, 14, 15, 16, 17, 18, 19, 20, 21, 22, 23, 24] rfl
          have hD : va_D A (xL g h k fd_148 cd_149 cr_150 tr ro_151 nw_152 kp_153 qu_154 qd_155 ql_156 kd_157 fm_158 tk_159 mr mw_162 mk_163 ml_164 mq_165 mwt_166 mn_167 mt mcl_168 mcr_169 mth_170 mkind_171 msort_172 mfirst_173 mblk_174 mfree_175 mfnd_176 mfm_177 msn) := hD.sub [0, 1, 2, 3, 4, 5, 6, 7, 8, 9, 10, 11, 12, 13, 14, 15, 16, 17, 18, 19, 20, 21, 22, 23, 24] (by decide) rfl
          refine lv_icmp_eq (tgt := 731) hx hb dL_law_394 (by decide) (fun c_179 => ?_) (fun c_179 => ?_)
          · have hw := hw.1 c_179
            obtain ⟨x3_180, ex3_180⟩ : ∃ y : Int32, y = x3 + 4 := ⟨_, rfl⟩
            have hw := hw x3_180 ex3_180
            refine lv_iinc (v := x3_180) (lv' := [(3, .int x3_180), (0, .ref b), (1, .ref (g 0)), (2, .ref (h 0))]) hx hb dL_law_731 hl (k := 3) rfl (by rw [ex3_180]; rfl) (by decide) rfl (fun ls hl => ?_)
            refine lv_goto (tgt := 18) hx hb dL_law_734 (by decide) ?_
            exact ih x3_180 fd_148 cd_149 cr_150 tr ro_151 nw_152 kp_153 qu_154 qd_155 ql_156 kd_157 fm_158 tk_159 mr mw_162 mk_163 ml_164 mq_165 mwt_166 mn_167 mt mcl_168 mcr_169 mth_170 mkind_171 msort_172 mfirst_173 mblk_174 mfree_175 mfnd_176 mfm_177 msn H locs hP hD hS ls (lv_sub hl [1, 2, 3, 0] rfl) hw
          · have hw := hw.2 c_179
            refine lv_iconst (v := 0) hx hb dL_law_397 (by decide) ?_
            exact hret _ _ _ _ _ hS dL_law_398 hw
        · have hw := hw.2.2.2.2.2.2.2.2.2.1 ej_7
          refine lv_tableIn (tgt := 399) hx hb dL_law_32 (by rw [ej_7]; decide) (by rw [ej_7]; decide) (by rw [ej_7]; rfl) (by decide) ?_
          refine lv_aload_n hx hb dL_law_399 rfl (lv_at hl 1 rfl) ?_
          refine icall (wr := [(h 0, .inr (3, [.ref (h 1), .ref (h 2), .ref (h 3), .ref (h 4), .ref (h 5), .int mn, .int mt, .int mcl, .int mcr, .int mth, .ref (h 6), .ref (h 7), .ref (h 8), .ref (h 9), .ref (h 10), .ref (h 11), .int mfm, .ref (h 12)])), (h 1, .inl (k.1, 4096, .inl mw)), (h 2, .inl (k.1, 4096, .inl mk)), (h 3, .inl (k.2, 4096, .inl ml)), (h 4, .inl (k.2, 512, .inl mq)), (h 5, .inl (k.1, 512, .inl mwt)), (h 6, .inl (k.1, 256, .inl mkind)), (h 7, .inl (k.1, 256, .inl msort)), (h 8, .inl (k.1, 256, .inl mfirst)), (h 9, .inl (k.1, 256, .inl mblk)), (h 10, .inl (k.1, 256, .inl mfree)), (h 11, .inl (k.1, 2048, .inl mfnd)), (h 12, .inl (k.2, 4096, .inl msn))]) (va_runV (As := []) (rest := []) hC (c_X2_collect l D g k fd cd cr tr ro nw kp qu qd ql kd fm tk mr _ hw H.size) (cwV 0 hts gL_law_X2_collect rfl rfl rfl (by decide +kernel) ⟨Nat.le_of_ble_eq_true rfl, Nat.le_of_ble_eq_true rfl⟩) (preV_m (va_recv hK hP (ci := 2) (q0 := 0) rfl rfl) hP hD hA hK hZ hS [0, 1, 2, 3, 4, 5, 6, 7, 8, 9, 10, 11] rfl rfl (by decide)) rfl rfl hl.1 rfl (lv_room (Nat.le_of_ble_eq_true rfl)) dL_law_400 ⟨Nat.le_of_ble_eq_true rfl, Nat.le_of_ble_eq_true rfl⟩) hP hD hA hS [0, 1, 2, 3, 4, 5, 6, 7, 8, 9, 10, 11] [12, 13, 14, 15, 16, 17, 18, 19, 20, 21, 22, 23, 24] rfl rfl (by decide) (by decide) (fun r_191 u' H locs hw hP hD hS => ?_)
          obtain ⟨fd_181, ro_182, nw_183, qu_184, qd_185, ql_186, kd_187, fm_188, tk_189, mr_190⟩ := u'
          try dsimp only at hw
          have hP : va_P D vwCl (xL g h k fd_181 cd cr tr ro_182 nw_183 kp qu_184 qd_185 ql_186 kd_187 fm_188 tk_189 mr_190 mw mk ml mq mwt mn mt mcl mcr mth mkind msort mfirst mblk mfree mfnd mfm msn) H := hP.sub [13, 14, 15, 16, 17, 18, 19, 20, 21, 22, 23, 24, 0, 1, 2, 3, 4, 5, 6, 7, 8, 9, 10, 11, 12] rfl
          have hD : va_D A (xL g h k fd_181 cd cr tr ro_182 nw_183 kp qu_184 qd_185 ql_186 kd_187 fm_188 tk_189 mr_190 mw mk ml mq mwt mn mt mcl mcr mth mkind msort mfirst mblk mfree mfnd mfm msn) := hD.sub [13, 14, 15, 16, 17, 18, 19, 20, 21, 22, 23, 24, 0, 1, 2, 3, 4, 5, 6, 7, 8, 9, 10, 11, 12] (by decide) rfl
          refine lv_aload_n hx hb dL_law_403 rfl (lv_at hl 2 rfl) ?_
          refine icall (wr := [(g 0, .inr (2, [.ref (g 2), .ref (g 7), .ref (g 1), .int fd_181, .int cd, .int cr, .int tr])), (g 1, .inl (k.1, 2040, .inl ro_182)), (g 2, .inr (1, [.ref (g 3), .ref (g 4), .ref (g 5), .ref (g 6), .int ql_186])), (g 3, .inl (k.1, 4096, .inl nw_183)), (g 4, .inl (k.1, 4096, .inl kp)), (g 5, .inl (k.1, 512, .inl qu_184)), (g 6, .inl (k.2, 512, .inl qd_185)), (g 7, .inr (0, [.ref (g 8), .ref (g 9), .ref (g 10), .ref (g 11)])), (g 8, .inl (k.1, 256, .inl kd_187)), (g 9, .inl (k.1, 256, .inl fm_188)), (g 10, .inl (k.1, 256, .inl tk_189)), (g 11, .inl (k.1, 256, .inl mr_190))]) (va_runV (As := []) (rest := [.int r_191]) hC (c_X3_collect l D h k mw mk ml mq mwt mn mt mcl mcr mth mkind msort mfirst mblk mfree mfnd mfm msn _ hw H.size) (cwV 0 hts gL_law_X3_collect rfl rfl rfl (by decide +kernel) ⟨Nat.le_of_ble_eq_true rfl, Nat.le_of_ble_eq_true rfl⟩) (preV_m (va_recv hK hP (ci := 3) (q0 := 12) rfl rfl) hP hD hA hK hZ hS [12, 13, 14, 15, 16, 17, 18, 19, 20, 21, 22, 23, 24] rfl rfl (by decide)) rfl rfl hl.1 rfl (lv_room (Nat.le_of_ble_eq_true rfl)) dL_law_404 ⟨Nat.le_of_ble_eq_true rfl, Nat.le_of_ble_eq_true rfl⟩) hP hD hA hS [12, 13, 14, 15, 16, 17, 18, 19, 20, 21, 22, 23, 24] [0, 1, 2, 3, 4, 5, 6, 7, 8, 9, 10, 11] rfl rfl (by decide) (by decide) (fun r_201 u' H locs hw hP hD hS => ?_)
          obtain ⟨mw_192, ml_193, mq_194, mwt_195, mn_196, mth_197, mfnd_198, mfm_199, msn_200⟩ := u'
          try dsimp only at hw
          have hP : va_P D vwCl (xL g h k fd_181 cd cr tr ro_182 nw_183 kp qu_184 qd_185 ql_186 kd_187 fm_188 tk_189 mr_190 mw_192 mk ml_193 mq_194 mwt_195 mn_196 mt mcl mcr mth_197 mkind msort mfirst mblk mfree mfnd_198 mfm_199 msn_200) H := hP.sub [0, 1, 2, 3, 4, 5, 6, 7, 8, 9, 10, 11, 12, 13, 14, 15, 16, 17, 18, 19, 20, 21, 22, 23, 24] rfl
          have hD : va_D A (xL g h k fd_181 cd cr tr ro_182 nw_183 kp qu_184 qd_185 ql_186 kd_187 fm_188 tk_189 mr_190 mw_192 mk ml_193 mq_194 mwt_195 mn_196 mt mcl mcr mth_197 mkind msort mfirst mblk mfree mfnd_198 mfm_199 msn_200) := hD.sub [0, 1, 2, 3, 4, 5, 6, 7, 8, 9, 10, 11, 12, 13, 14, 15, 16, 17, 18, 19, 20, 21, 22, 23, 24] (by decide) rfl
          refine lv_icmp_eq (tgt := 731) hx hb dL_law_407 (by decide) (fun c_202 => ?_) (fun c_202 => ?_)
          · have hw := hw.1 c_202
            obtain ⟨x3_203, ex3_203⟩ : ∃ y : Int32, y = x3 + 4 := ⟨_, rfl⟩
            have hw := hw x3_203 ex3_203
            refine lv_iinc (v := x3_203) (lv' := [(3, .int x3_203), (0, .ref b), (1, .ref (g 0)), (2, .ref (h 0))]) hx hb dL_law_731 hl (k := 3) rfl (by rw [ex3_203]; rfl) (by decide) rfl (fun ls hl => ?_)
            refine lv_goto (tgt := 18) hx hb dL_law_734 (by decide) ?_
            exact ih x3_203 fd_181 cd cr tr ro_182 nw_183 kp qu_184 qd_185 ql_186 kd_187 fm_188 tk_189 mr_190 mw_192 mk ml_193 mq_194 mwt_195 mn_196 mt mcl mcr mth_197 mkind msort mfirst mblk mfree mfnd_198 mfm_199 msn_200 H locs hP hD hS ls (lv_sub hl [1, 2, 3, 0] rfl) hw
          · have hw := hw.2 c_202
            refine lv_iconst (v := 0) hx hb dL_law_410 (by decide) ?_
            exact hret _ _ _ _ _ hS dL_law_411 hw
        · have hw := hw.2.2.2.2.2.2.2.2.2.2.1 ej_7
          refine lv_tableIn (tgt := 412) hx hb dL_law_32 (by rw [ej_7]; decide) (by rw [ej_7]; decide) (by rw [ej_7]; rfl) (by decide) ?_
          refine lv_aload_n hx hb dL_law_412 rfl (lv_at hl 1 rfl) ?_
          refine lv_aload_n hx hb dL_law_413 rfl (lv_at hl 0 rfl) ?_
          refine lv_iload_n hx hb dL_law_414 rfl (lv_at hl 3 rfl) ?_
          refine lv_iconst (v := 1) hx hb dL_law_415 (by decide) ?_
          refine lv_iadd hx hb dL_law_416 ?_
          obtain ⟨h_204, hw⟩ := hw
          refine va_sld hx hb hX hbl hbA hS h_204 dL_law_417 ?_
          refine lv_aload_n hx hb dL_law_418 rfl (lv_at hl 0 rfl) ?_
          refine lv_iload_n hx hb dL_law_419 rfl (lv_at hl 3 rfl) ?_
          refine lv_iconst (v := 2) hx hb dL_law_420 (by decide) ?_
          refine lv_iadd hx hb dL_law_421 ?_
          obtain ⟨h_205, hw⟩ := hw
          refine va_sld hx hb hX hbl hbA hS h_205 dL_law_422 ?_
          refine lv_if_eq (tgt := 430) hx hb dL_law_423 (by decide) (fun c_206 => ?_) (fun c_206 => ?_)
          · have hw := hw.1 c_206
            refine lv_iconst (v := 0) hx hb dL_law_430 (by decide) ?_
            exact B431 (wL_law_18 post L xs n) ih x3 0 (xs (x3 + 1).toNatClampNeg) fd cd cr tr ro nw kp qu qd ql kd fm tk mr mw mk ml mq mwt mn mt mcl mcr mth mkind msort mfirst mblk mfree mfnd mfm msn H locs hP hD hS ls (lv_sub hl [0, 1, 2, 3] rfl) hw
          · have hw := hw.2 c_206
            refine lv_iconst (v := 1) hx hb dL_law_426 (by decide) ?_
            refine lv_goto (tgt := 431) hx hb dL_law_427 (by decide) ?_
            exact B431 (wL_law_18 post L xs n) ih x3 1 (xs (x3 + 1).toNatClampNeg) fd cd cr tr ro nw kp qu qd ql kd fm tk mr mw mk ml mq mwt mn mt mcl mcr mth mkind msort mfirst mblk mfree mfnd mfm msn H locs hP hD hS ls (lv_sub hl [0, 1, 2, 3] rfl) hw
        · have hw := hw.2.2.2.2.2.2.2.2.2.2.2.1 ej_7
          refine lv_tableIn (tgt := 461) hx hb dL_law_32 (by rw [ej_7]; decide) (by rw [ej_7]; decide) (by rw [ej_7]; rfl) (by decide) ?_
          refine lv_aload_n hx hb dL_law_461 rfl (lv_at hl 1 rfl) ?_
          refine lv_aload_n hx hb dL_law_462 rfl (lv_at hl 0 rfl) ?_
          refine lv_iload_n hx hb dL_law_463 rfl (lv_at hl 3 rfl) ?_
          refine lv_iconst (v := 1) hx hb dL_law_464 (by decide) ?_
          refine lv_iadd hx hb dL_law_465 ?_
          obtain ⟨h_215, hw⟩ := hw
          refine va_sld hx hb hX hbl hbA hS h_215 dL_law_466 ?_
          refine lv_aload_n hx hb dL_law_467 rfl (lv_at hl 0 rfl) ?_
          refine lv_iload_n hx hb dL_law_468 rfl (lv_at hl 3 rfl) ?_
          refine lv_iconst (v := 2) hx hb dL_law_469 (by decide) ?_
          refine lv_iadd hx hb dL_law_470 ?_
          obtain ⟨h_216, hw⟩ := hw
          refine va_sld hx hb hX hbl hbA hS h_216 dL_law_471 ?_
          refine icall (wr := [(h 0, .inr (3, [.ref (h 1), .ref (h 2), .ref (h 3), .ref (h 4), .ref (h 5), .int mn, .int mt, .int mcl, .int mcr, .int mth, .ref (h 6), .ref (h 7), .ref (h 8), .ref (h 9), .ref (h 10), .ref (h 11), .int mfm, .ref (h 12)])), (h 1, .inl (k.1, 4096, .inl mw)), (h 2, .inl (k.1, 4096, .inl mk)), (h 3, .inl (k.2, 4096, .inl ml)), (h 4, .inl (k.2, 512, .inl mq)), (h 5, .inl (k.1, 512, .inl mwt)), (h 6, .inl (k.1, 256, .inl mkind)), (h 7, .inl (k.1, 256, .inl msort)), (h 8, .inl (k.1, 256, .inl mfirst)), (h 9, .inl (k.1, 256, .inl mblk)), (h 10, .inl (k.1, 256, .inl mfree)), (h 11, .inl (k.1, 2048, .inl mfnd)), (h 12, .inl (k.2, 4096, .inl msn))]) (va_runV (As := [.int (xs (x3 + 1).toNatClampNeg), .int (xs (x3 + 2).toNatClampNeg)]) (rest := []) hC (c_X2_scribble l D g k fd cd cr tr ro nw kp qu qd ql kd fm tk mr (xs (x3 + 1).toNatClampNeg) (xs (x3 + 2).toNatClampNeg) _ hw H.size) (cwV 2 hts gL_law_X2_scribble rfl rfl rfl (by decide +kernel) ⟨Nat.le_of_ble_eq_true rfl, Nat.le_of_ble_eq_true rfl⟩) (preV_m (va_recv hK hP (ci := 2) (q0 := 0) rfl rfl) hP hD hA hK hZ hS [0, 1, 2, 3, 4, 5, 6, 7, 8, 9, 10, 11] rfl rfl (by decide)) rfl rfl hl.1 rfl (lv_room (Nat.le_of_ble_eq_true rfl)) dL_law_472 ⟨Nat.le_of_ble_eq_true rfl, Nat.le_of_ble_eq_true rfl⟩) hP hD hA hS [0, 1, 2, 3, 4, 5, 6, 7, 8, 9, 10, 11] [12, 13, 14, 15, 16, 17, 18, 19, 20, 21, 22, 23, 24] rfl rfl (by decide) (by decide) (fun r_222 u' H locs hw hP hD hS => ?_)
          obtain ⟨tr_217, nw_218, qu_219, qd_220, ql_221⟩ := u'
          try dsimp only at hw
          have hP : va_P D vwCl (xL g h k fd cd cr tr_217 ro nw_218 kp qu_219 qd_220 ql_221 kd fm tk mr mw mk ml mq mwt mn mt mcl mcr mth mkind msort mfirst mblk mfree mfnd mfm msn) H := hP.sub [13, 14, 15, 16, 17, 18, 19, 20, 21, 22, 23, 24, 0, 1, 2, 3, 4, 5, 6, 7, 8, 9, 10, 11, 12] rfl
          have hD : va_D A (xL g h k fd cd cr tr_217 ro nw_218 kp qu_219 qd_220 ql_221 kd fm tk mr mw mk ml mq mwt mn mt mcl mcr mth mkind msort mfirst mblk mfree mfnd mfm msn) := hD.sub [13, 14, 15, 16, 17, 18, 19, 20, 21, 22, 23, 24, 0, 1, 2, 3, 4, 5, 6, 7, 8, 9, 10, 11, 12] (by decide) rfl
          refine lv_aload_n hx hb dL_law_475 rfl (lv_at hl 2 rfl) ?_
          refine lv_aload_n hx hb dL_law_476 rfl (lv_at hl 0 rfl) ?_
          refine lv_iload_n hx hb dL_law_477 rfl (lv_at hl 3 rfl) ?_
          refine lv_iconst (v := 1) hx hb dL_law_478 (by decide) ?_
          refine lv_iadd hx hb dL_law_479 ?_
          obtain ⟨h_223, hw⟩ := hw
          refine va_sld hx hb hX hbl hbA hS h_223 dL_law_480 ?_
          refine lv_aload_n hx hb dL_law_481 rfl (lv_at hl 0 rfl) ?_
          refine lv_iload_n hx hb dL_law_482 rfl (lv_at hl 3 rfl) ?_
          refine lv_iconst (v := 2) hx hb dL_law_483 (by decide) ?_
          refine lv_iadd hx hb dL_law_484 ?_
          obtain ⟨h_224, hw⟩ := hw
          refine va_sld hx hb hX hbl hbA hS h_224 dL_law_485 ?_
          refine icall (wr := [(g 0, .inr (2, [.ref (g 2), .ref (g 7), .ref (g 1), .int fd, .int cd, .int cr, .int tr_217])), (g 1, .inl (k.1, 2040, .inl ro)), (g 2, .inr (1, [.ref (g 3), .ref (g 4), .ref (g 5), .ref (g 6), .int ql_221])), (g 3, .inl (k.1, 4096, .inl nw_218)), (g 4, .inl (k.1, 4096, .inl kp)), (g 5, .inl (k.1, 512, .inl qu_219)), (g 6, .inl (k.2, 512, .inl qd_220)), (g 7, .inr (0, [.ref (g 8), .ref (g 9), .ref (g 10), .ref (g 11)])), (g 8, .inl (k.1, 256, .inl kd)), (g 9, .inl (k.1, 256, .inl fm)), (g 10, .inl (k.1, 256, .inl tk)), (g 11, .inl (k.1, 256, .inl mr))]) (va_runV (As := [.int (xs (x3 + 1).toNatClampNeg), .int (xs (x3 + 2).toNatClampNeg)]) (rest := [.int r_222]) hC (c_X3_scribble l D h k mw mk ml mq mwt mn mt mcl mcr mth mkind msort mfirst mblk mfree mfnd mfm msn (xs (x3 + 1).toNatClampNeg) (xs (x3 + 2).toNatClampNeg) _ hw H.size) (cwV 2 hts gL_law_X3_scribble rfl rfl rfl (by decide +kernel) ⟨Nat.le_of_ble_eq_true rfl, Nat.le_of_ble_eq_true rfl⟩) (preV_m (va_recv hK hP (ci := 3) (q0 := 12) rfl rfl) hP hD hA hK hZ hS [12, 13, 14, 15, 16, 17, 18, 19, 20, 21, 22, 23, 24] rfl rfl (by decide)) rfl rfl hl.1 rfl (lv_room (Nat.le_of_ble_eq_true rfl)) dL_law_486 ⟨Nat.le_of_ble_eq_true rfl, Nat.le_of_ble_eq_true rfl⟩) hP hD hA hS [12, 13, 14, 15, 16, 17, 18, 19, 20, 21, 22, 23, 24] [0, 1, 2, 3, 4, 5, 6, 7, 8, 9, 10, 11] rfl rfl (by decide) (by decide) (fun r_231 u' H locs hw hP hD hS => ?_)
          obtain ⟨mw_225, mq_226, mwt_227, mn_228, mt_229, mth_230⟩ := u'
          try dsimp only at hw
          have hP : va_P D vwCl (xL g h k fd cd cr tr_217 ro nw_218 kp qu_219 qd_220 ql_221 kd fm tk mr mw_225 mk ml mq_226 mwt_227 mn_228 mt_229 mcl mcr mth_230 mkind msort mfirst mblk mfree mfnd mfm msn) H := hP.sub [0, 1, 2, 3, 4, 5, 6, 7, 8, 9, 10, 11, 12, 13, 14, 15, 16, 17, 18, 19, 20, 21, 22, 23, 24] rfl
          have hD : va_D A (xL g h k fd cd cr tr_217 ro nw_218 kp qu_219 qd_220 ql_221 kd fm tk mr mw_225 mk ml mq_226 mwt_227 mn_228 mt_229 mcl mcr mth_230 mkind msort mfirst mblk mfree mfnd mfm msn) := hD.sub [0, 1, 2, 3, 4, 5, 6, 7, 8, 9, 10, 11, 12, 13, 14, 15, 16, 17, 18, 19, 20, 21, 22, 23, 24] (by decide) rfl
          refine lv_icmp_eq (tgt := 731) hx hb dL_law_489 (by decide) (fun c_232 => ?_) (fun c_232 => ?_)
          · have hw := hw.1 c_232
            obtain ⟨x3_233, ex3_233⟩ : ∃ y : Int32, y = x3 + 4 := ⟨_, rfl⟩
            have hw := hw x3_233 ex3_233
            refine lv_iinc (v := x3_233) (lv' := [(3, .int x3_233), (0, .ref b), (1, .ref (g 0)), (2, .ref (h 0))]) hx hb dL_law_731 hl (k := 3) rfl (by rw [ex3_233]; rfl) (by decide) rfl (fun ls hl => ?_)
            refine lv_goto (tgt := 18) hx hb dL_law_734 (by decide) ?_
            exact ih x3_233 fd cd cr tr_217 ro nw_218 kp qu_219 qd_220 ql_221 kd fm tk mr mw_225 mk ml mq_226 mwt_227 mn_228 mt_229 mcl mcr mth_230 mkind msort mfirst mblk mfree mfnd mfm msn H locs hP hD hS ls (lv_sub hl [1, 2, 3, 0] rfl) hw
          · have hw := hw.2 c_232
            refine lv_iconst (v := 0) hx hb dL_law_492 (by decide) ?_
            exact hret _ _ _ _ _ hS dL_law_493 hw
        · have hw := hw.2.2.2.2.2.2.2.2.2.2.2.2.1 ej_7
          refine lv_tableIn (tgt := 494) hx hb dL_law_32 (by rw [ej_7]; decide) (by rw [ej_7]; decide) (by rw [ej_7]; rfl) (by decide) ?_
          refine lv_aload_n hx hb dL_law_494 rfl (lv_at hl 1 rfl) ?_
          refine lv_aload_n hx hb dL_law_495 rfl (lv_at hl 0 rfl) ?_
          refine lv_iload_n hx hb dL_law_496 rfl (lv_at hl 3 rfl) ?_
          refine lv_iconst (v := 1) hx hb dL_law_497 (by decide) ?_
          refine lv_iadd hx hb dL_law_498 ?_
          obtain ⟨h_234, hw⟩ := hw
          refine va_sld hx hb hX hbl hbA hS h_234 dL_law_499 ?_
          refine lv_aload_n hx hb dL_law_500 rfl (lv_at hl 0 rfl) ?_
          refine lv_iload_n hx hb dL_law_501 rfl (lv_at hl 3 rfl) ?_
          refine lv_iconst (v := 2) hx hb dL_law_502 (by decide) ?_
          refine lv_iadd hx hb dL_law_503 ?_
          obtain ⟨h_235, hw⟩ := hw
          refine va_sld hx hb hX hbl hbA hS h_235 dL_law_504 ?_
          refine icall (wr := [(h 0, .inr (3, [.ref (h 1), .ref (h 2), .ref (h 3), .ref (h 4), .ref (h 5), .int mn, .int mt, .int mcl, .int mcr, .int mth, .ref (h 6), .ref (h 7), .ref (h 8), .ref (h 9), .ref (h 10), .ref (h 11), .int mfm, .ref (h 12)])), (h 1, .inl (k.1, 4096, .inl mw)), (h 2, .inl (k.1, 4096, .inl mk)), (h 3, .inl (k.2, 4096, .inl ml)), (h 4, .inl (k.2, 512, .inl mq)), (h 5, .inl (k.1, 512, .inl mwt)), (h 6, .inl (k.1, 256, .inl mkind)), (h 7, .inl (k.1, 256, .inl msort)), (h 8, .inl (k.1, 256, .inl mfirst)), (h 9, .inl (k.1, 256, .inl mblk)), (h 10, .inl (k.1, 256, .inl mfree)), (h 11, .inl (k.1, 2048, .inl mfnd)), (h 12, .inl (k.2, 4096, .inl msn))]) (va_runV (As := [.int (xs (x3 + 1).toNatClampNeg), .int (xs (x3 + 2).toNatClampNeg)]) (rest := []) hC (c_X2_block l D g k fd cd cr tr ro nw kp qu qd ql kd fm tk mr (xs (x3 + 1).toNatClampNeg) (xs (x3 + 2).toNatClampNeg) _ hw H.size) (cwV 2 hts gL_law_X2_block rfl rfl rfl (by decide +kernel) ⟨Nat.le_of_ble_eq_true rfl, Nat.le_of_ble_eq_true rfl⟩) (preV_m (va_recv hK hP (ci := 2) (q0 := 0) rfl rfl) hP hD hA hK hZ hS [0, 1, 2, 3, 4, 5, 6, 7, 8, 9, 10, 11] rfl rfl (by decide)) rfl rfl hl.1 rfl (lv_room (Nat.le_of_ble_eq_true rfl)) dL_law_505 ⟨Nat.le_of_ble_eq_true rfl, Nat.le_of_ble_eq_true rfl⟩) hP hD hA hS [0, 1, 2, 3, 4, 5, 6, 7, 8, 9, 10, 11] [12, 13, 14, 15, 16, 17, 18, 19, 20, 21, 22, 23, 24] rfl rfl (by decide) (by decide) (fun r_237 u' H locs hw hP hD hS => ?_)
          obtain ⟨ro_236, rfl⟩ : ∃ z, z = u' := ⟨_, rfl⟩
          try dsimp only at hw
          have hP : va_P D vwCl (xL g h k fd cd cr tr ro_236 nw kp qu qd ql kd fm tk mr mw mk ml mq mwt mn mt mcl mcr mth mkind msort mfirst mblk mfree mfnd mfm msn) H := hP.sub [13, 14, 15, 16, 17, 18, 19, 20, 21, 22, 23, 24, 0, 1, 2, 3, 4, 5, 6, 7, 8, 9, 10, 11, 12] rfl
          have hD : va_D A (xL g h k fd cd cr tr ro_236 nw kp qu qd ql kd fm tk mr mw mk ml mq mwt mn mt mcl mcr mth mkind msort mfirst mblk mfree mfnd mfm msn) := hD.sub [13, 14, 15, 16, 17, 18, 19, 20, 21, 22, 23, 24, 0, 1, 2, 3, 4, 5, 6, 7, 8, 9, 10, 11, 12] (by decide) rfl
          refine lv_aload_n hx hb dL_law_508 rfl (lv_at hl 2 rfl) ?_
          refine lv_aload_n hx hb dL_law_509 rfl (lv_at hl 0 rfl) ?_
          refine lv_iload_n hx hb dL_law_510 rfl (lv_at hl 3 rfl) ?_
          refine lv_iconst (v := 1) hx hb dL_law_511 (by decide) ?_
          refine lv_iadd hx hb dL_law_512 ?_
          obtain ⟨h_238, hw⟩ := hw
          refine va_sld hx hb hX hbl hbA hS h_238 dL_law_513 ?_
          refine lv_aload_n hx hb dL_law_514 rfl (lv_at hl 0 rfl) ?_
          refine lv_iload_n hx hb dL_law_515 rfl (lv_at hl 3 rfl) ?_
          refine lv_iconst (v := 2) hx hb dL_law_516 (by decide) ?_
          refine lv_iadd hx hb dL_law_517 ?_
          obtain ⟨h_239, hw⟩ := hw
          refine va_sld hx hb hX hbl hbA hS h_239 dL_law_518 ?_
          refine icall (wr := [(g 0, .inr (2, [.ref (g 2), .ref (g 7), .ref (g 1), .int fd, .int cd, .int cr, .int tr])), (g 1, .inl (k.1, 2040, .inl ro_236)), (g 2, .inr (1, [.ref (g 3), .ref (g 4), .ref (g 5), .ref (g 6), .int ql])), (g 3, .inl (k.1, 4096, .inl nw)), (g 4, .inl (k.1, 4096, .inl kp)), (g 5, .inl (k.1, 512, .inl qu)), (g 6, .inl (k.2, 512, .inl qd)), (g 7, .inr (0, [.ref (g 8), .ref (g 9), .ref (g 10), .ref (g 11)])), (g 8, .inl (k.1, 256, .inl kd)), (g 9, .inl (k.1, 256, .inl fm)), (g 10, .inl (k.1, 256, .inl tk)), (g 11, .inl (k.1, 256, .inl mr))]) (va_runV (As := [.int (xs (x3 + 1).toNatClampNeg), .int (xs (x3 + 2).toNatClampNeg)]) (rest := [.int r_237]) hC (c_X3_block l D h k mw mk ml mq mwt mn mt mcl mcr mth mkind msort mfirst mblk mfree mfnd mfm msn (xs (x3 + 1).toNatClampNeg) (xs (x3 + 2).toNatClampNeg) _ hw H.size) (cwV 2 hts gL_law_X3_block rfl rfl rfl (by decide +kernel) ⟨Nat.le_of_ble_eq_true rfl, Nat.le_of_ble_eq_true rfl⟩) (preV_m (va_recv hK hP (ci := 3) (q0 := 12) rfl rfl) hP hD hA hK hZ hS [12, 13, 14, 15, 16, 17, 18, 19, 20, 21, 22, 23, 24] rfl rfl (by decide)) rfl rfl hl.1 rfl (lv_room (Nat.le_of_ble_eq_true rfl)) dL_law_519 ⟨Nat.le_of_ble_eq_true rfl, Nat.le_of_ble_eq_true rfl⟩) hP hD hA hS [12, 13, 14, 15, 16, 17, 18, 19, 20, 21, 22, 23, 24] [0, 1, 2, 3, 4, 5, 6, 7, 8, 9, 10, 11] rfl rfl (by decide) (by decide) (fun r_241 u' H locs hw hP hD hS => ?_)
          obtain ⟨mth_240, rfl⟩ : ∃ z, z = u' := ⟨_, rfl⟩
          try dsimp only at hw
          have hP : va_P D vwCl (xL g h k fd cd cr tr ro_236 nw kp qu qd ql kd fm tk mr mw mk ml mq mwt mn mt mcl mcr mth_240 mkind msort mfirst mblk mfree mfnd mfm msn) H := hP.sub [0, 1, 2, 3, 4, 5, 6, 7, 8, 9, 10, 11, 12, 13, 14, 15, 16, 17, 18, 19, 20, 21, 22, 23, 24] rfl
          have hD : va_D A (xL g h k fd cd cr tr ro_236 nw kp qu qd ql kd fm tk mr mw mk ml mq mwt mn mt mcl mcr mth_240 mkind msort mfirst mblk mfree mfnd mfm msn) := hD.sub [0, 1, 2, 3, 4, 5, 6, 7, 8, 9, 10, 11, 12, 13, 14, 15, 16, 17, 18, 19, 20, 21, 22, 23, 24] (by decide) rfl
          refine lv_icmp_eq (tgt := 731) hx hb dL_law_522 (by decide) (fun c_242 => ?_) (fun c_242 => ?_)
          · have hw := hw.1 c_242
            obtain ⟨x3_243, ex3_243⟩ : ∃ y : Int32, y = x3 + 4 := ⟨_, rfl⟩
            have hw := hw x3_243 ex3_243
            refine lv_iinc (v := x3_243) (lv' := [(3, .int x3_243), (0, .ref b), (1, .ref (g 0)), (2, .ref (h 0))]) hx hb dL_law_731 hl (k := 3) rfl (by rw [ex3_243]; rfl) (by decide) rfl (fun ls hl => ?_)
            refine lv_goto (tgt := 18) hx hb dL_law_734 (by decide) ?_
            exact ih x3_243 fd cd cr tr ro_236 nw kp qu qd ql kd fm tk mr mw mk ml mq mwt mn mt mcl mcr mth_240 mkind msort mfirst mblk mfree mfnd mfm msn H locs hP hD hS ls (lv_sub hl [1, 2, 3, 0] rfl) hw
          · have hw := hw.2 c_242
            refine lv_iconst (v := 0) hx hb dL_law_525 (by decide) ?_
            exact hret _ _ _ _ _ hS dL_law_526 hw
        · have hw := hw.2.2.2.2.2.2.2.2.2.2.2.2.2.1 ej_7
          refine lv_tableIn (tgt := 527) hx hb dL_law_32 (by rw [ej_7]; decide) (by rw [ej_7]; decide) (by rw [ej_7]; rfl) (by decide) ?_
          refine lv_aload_n hx hb dL_law_527 rfl (lv_at hl 1 rfl) ?_
          refine lv_aload_n hx hb dL_law_528 rfl (lv_at hl 0 rfl) ?_
          refine lv_iload_n hx hb dL_law_529 rfl (lv_at hl 3 rfl) ?_
          refine lv_iconst (v := 1) hx hb dL_law_530 (by decide) ?_
          refine lv_iadd hx hb dL_law_531 ?_
          obtain ⟨h_244, hw⟩ := hw
          refine va_sld hx hb hX hbl hbA hS h_244 dL_law_532 ?_
          refine icall (wr := [(h 0, .inr (3, [.ref (h 1), .ref (h 2), .ref (h 3), .ref (h 4), .ref (h 5), .int mn, .int mt, .int mcl, .int mcr, .int mth, .ref (h 6), .ref (h 7), .ref (h 8), .ref (h 9), .ref (h 10), .ref (h 11), .int mfm, .ref (h 12)])), (h 1, .inl (k.1, 4096, .inl mw)), (h 2, .inl (k.1, 4096, .inl mk)), (h 3, .inl (k.2, 4096, .inl ml)), (h 4, .inl (k.2, 512, .inl mq)), (h 5, .inl (k.1, 512, .inl mwt)), (h 6, .inl (k.1, 256, .inl mkind)), (h 7, .inl (k.1, 256, .inl msort)), (h 8, .inl (k.1, 256, .inl mfirst)), (h 9, .inl (k.1, 256, .inl mblk)), (h 10, .inl (k.1, 256, .inl mfree)), (h 11, .inl (k.1, 2048, .inl mfnd)), (h 12, .inl (k.2, 4096, .inl msn))]) (va_runV (As := [.int (xs (x3 + 1).toNatClampNeg)]) (rest := []) hC (c_X2_live l D g k fd cd cr tr ro nw kp qu qd ql kd fm tk mr (xs (x3 + 1).toNatClampNeg) _ hw H.size) (cwV 1 hts gL_law_X2_live rfl rfl rfl (by decide +kernel) ⟨Nat.le_of_ble_eq_true rfl, Nat.le_of_ble_eq_true rfl⟩) (preV_m (va_recv hK hP (ci := 2) (q0 := 0) rfl rfl) hP hD hA hK hZ hS [0, 1, 2, 3, 4, 5, 6, 7, 8, 9, 10, 11] rfl rfl (by decide)) rfl rfl hl.1 rfl (lv_room (Nat.le_of_ble_eq_true rfl)) dL_law_533 ⟨Nat.le_of_ble_eq_true rfl, Nat.le_of_ble_eq_true rfl⟩) hP hD hA hS [0, 1, 2, 3, 4, 5, 6, 7, 8, 9, 10, 11] [12, 13, 14, 15, 16, 17, 18, 19, 20, 21, 22, 23, 24] rfl rfl (by decide) (by decide) (fun r_246 u' H locs hw hP hD hS => ?_)
          obtain ⟨ro_245, rfl⟩ : ∃ z, z = u' := ⟨_, rfl⟩
          try dsimp only at hw
          have hP : va_P D vwCl (xL g h k fd cd cr tr ro_245 nw kp qu qd ql kd fm tk mr mw mk ml mq mwt mn mt mcl mcr mth mkind msort mfirst mblk mfree mfnd mfm msn) H := hP.sub [13, 14, 15, 16, 17, 18, 19, 20, 21, 22, 23, 24, 0, 1, 2, 3, 4, 5, 6, 7, 8, 9, 10, 11, 12] rfl
          have hD : va_D A (xL g h k fd cd cr tr ro_245 nw kp qu qd ql kd fm tk mr mw mk ml mq mwt mn mt mcl mcr mth mkind msort mfirst mblk mfree mfnd mfm msn) := hD.sub [13, 14, 15, 16, 17, 18, 19, 20, 21, 22, 23, 24, 0, 1, 2, 3, 4, 5, 6, 7, 8, 9, 10, 11, 12] (by decide) rfl
          refine lv_aload_n hx hb dL_law_536 rfl (lv_at hl 2 rfl) ?_
          refine lv_aload_n hx hb dL_law_537 rfl (lv_at hl 0 rfl) ?_
          refine lv_iload_n hx hb dL_law_538 rfl (lv_at hl 3 rfl) ?_
          refine lv_iconst (v := 1) hx hb dL_law_539 (by decide) ?_
          refine lv_iadd hx hb dL_law_540 ?_
          obtain ⟨h_247, hw⟩ := hw
          refine va_sld hx hb hX hbl hbA hS h_247 dL_law_541 ?_
          refine icall (wr := [(g 0, .inr (2, [.ref (g 2), .ref (g 7), .ref (g 1), .int fd, .int cd, .int cr, .int tr])), (g 1, .inl (k.1, 2040, .inl ro_245)), (g 2, .inr (1, [.ref (g 3), .ref (g 4), .ref (g 5), .ref (g 6), .int ql])), (g 3, .inl (k.1, 4096, .inl nw)), (g 4, .inl (k.1, 4096, .inl kp)), (g 5, .inl (k.1, 512, .inl qu)), (g 6, .inl (k.2, 512, .inl qd)), (g 7, .inr (0, [.ref (g 8), .ref (g 9), .ref (g 10), .ref (g 11)])), (g 8, .inl (k.1, 256, .inl kd)), (g 9, .inl (k.1, 256, .inl fm)), (g 10, .inl (k.1, 256, .inl tk)), (g 11, .inl (k.1, 256, .inl mr))]) (va_runV (As := [.int (xs (x3 + 1).toNatClampNeg)]) (rest := [.int r_246]) hC (c_X3_live l D h k mw mk ml mq mwt mn mt mcl mcr mth mkind msort mfirst mblk mfree mfnd mfm msn (xs (x3 + 1).toNatClampNeg) _ hw H.size) (cwV 1 hts gL_law_X3_live rfl rfl rfl (by decide +kernel) ⟨Nat.le_of_ble_eq_true rfl, Nat.le_of_ble_eq_true rfl⟩) (preV_m (va_recv hK hP (ci := 3) (q0 := 12) rfl rfl) hP hD hA hK hZ hS [12, 13, 14, 15, 16, 17, 18, 19, 20, 21, 22, 23, 24] rfl rfl (by decide)) rfl rfl hl.1 rfl (lv_room (Nat.le_of_ble_eq_true rfl)) dL_law_542 ⟨Nat.le_of_ble_eq_true rfl, Nat.le_of_ble_eq_true rfl⟩) hP hD hA hS [12, 13, 14, 15, 16, 17, 18, 19, 20, 21, 22, 23, 24] [0, 1, 2, 3, 4, 5, 6, 7, 8, 9, 10, 11] rfl rfl (by decide) (by decide) (fun r_249 u' H locs hw hP hD hS => ?_)
          obtain ⟨mth_248, rfl⟩ : ∃ z, z = u' := ⟨_, rfl⟩
          try dsimp only at hw
          have hP : va_P D vwCl (xL g h k fd cd cr tr ro_245 nw kp qu qd ql kd fm tk mr mw mk ml mq mwt mn mt mcl mcr mth_248 mkind msort mfirst mblk mfree mfnd mfm msn) H := hP.sub [0, 1, 2, 3, 4, 5, 6, 7, 8, 9, 10, 11, 12, 13, 14, 15, 16, 17, 18, 19, 20, 21, 22, 23, 24] rfl
          have hD : va_D A (xL g h k fd cd cr tr ro_245 nw kp qu qd ql kd fm tk mr mw mk ml mq mwt mn mt mcl mcr mth_248 mkind msort mfirst mblk mfree mfnd mfm msn) := hD.sub [0, 1, 2, 3, 4, 5, 6, 7, 8, 9, 10, 11, 12, 13, 14, 15, 16, 17, 18, 19, 20, 21, 22, 23, 24] (by decide) rfl
          refine lv_icmp_eq (tgt := 731) hx hb dL_law_545 (by decide) (fun c_250 => ?_) (fun c_250 => ?_)
          · have hw := hw.1 c_250
            obtain ⟨x3_251, ex3_251⟩ : ∃ y : Int32, y = x3 + 4 := ⟨_, rfl⟩
            have hw := hw x3_251 ex3_251
            refine lv_iinc (v := x3_251) (lv' := [(3, .int x3_251), (0, .ref b), (1, .ref (g 0)), (2, .ref (h 0))]) hx hb dL_law_731 hl (k := 3) rfl (by rw [ex3_251]; rfl) (by decide) rfl (fun ls hl => ?_)
            refine lv_goto (tgt := 18) hx hb dL_law_734 (by decide) ?_
            exact ih x3_251 fd cd cr tr ro_245 nw kp qu qd ql kd fm tk mr mw mk ml mq mwt mn mt mcl mcr mth_248 mkind msort mfirst mblk mfree mfnd mfm msn H locs hP hD hS ls (lv_sub hl [1, 2, 3, 0] rfl) hw
          · have hw := hw.2 c_250
            refine lv_iconst (v := 0) hx hb dL_law_548 (by decide) ?_
            exact hret _ _ _ _ _ hS dL_law_549 hw
        · have hw := hw.2.2.2.2.2.2.2.2.2.2.2.2.2.2.1 ej_7
          refine lv_tableIn (tgt := 550) hx hb dL_law_32 (by rw [ej_7]; decide) (by rw [ej_7]; decide) (by rw [ej_7]; rfl) (by decide) ?_
          refine lv_aload_n hx hb dL_law_550 rfl (lv_at hl 1 rfl) ?_
          refine lv_aload_n hx hb dL_law_551 rfl (lv_at hl 0 rfl) ?_
          refine lv_iload_n hx hb dL_law_552 rfl (lv_at hl 3 rfl) ?_
          refine lv_iconst (v := 1) hx hb dL_law_553 (by decide) ?_
          refine lv_iadd hx hb dL_law_554 ?_
          obtain ⟨h_252, hw⟩ := hw
          refine va_sld hx hb hX hbl hbA hS h_252 dL_law_555 ?_
          refine lv_aload_n hx hb dL_law_556 rfl (lv_at hl 0 rfl) ?_
          refine lv_iload_n hx hb dL_law_557 rfl (lv_at hl 3 rfl) ?_
          refine lv_iconst (v := 2) hx hb dL_law_558 (by decide) ?_
          refine lv_iadd hx hb dL_law_559 ?_
          obtain ⟨h_253, hw⟩ := hw
          refine va_sld hx hb hX hbl hbA hS h_253 dL_law_560 ?_
          refine pcall (va_runV (As := [.int (xs (x3 + 1).toNatClampNeg), .int (xs (x3 + 2).toNatClampNeg)]) (rest := []) hC (c_X2_page l D g k fd cd cr tr ro nw kp qu qd ql kd fm tk mr (xs (x3 + 1).toNatClampNeg) (xs (x3 + 2).toNatClampNeg) _ hw H) (cwV 2 hts gL_law_X2_page rfl rfl rfl (by decide +kernel) ⟨Nat.le_of_ble_eq_true rfl, Nat.le_of_ble_eq_true rfl⟩) (preV_p (va_recv hK hP (ci := 2) (q0 := 0) rfl rfl) (hP.sub [0, 1, 2, 3, 4, 5, 6, 7, 8, 9, 10, 11] rfl) hK hZ hS) rfl rfl hl.1 rfl (lv_room (Nat.le_of_ble_eq_true rfl)) dL_law_561 ⟨Nat.le_of_ble_eq_true rfl, Nat.le_of_ble_eq_true rfl⟩) (fun r_254 hw => ?_)
          refine lv_aload_n hx hb dL_law_564 rfl (lv_at hl 2 rfl) ?_
          refine lv_aload_n hx hb dL_law_565 rfl (lv_at hl 0 rfl) ?_
          refine lv_iload_n hx hb dL_law_566 rfl (lv_at hl 3 rfl) ?_
          refine lv_iconst (v := 1) hx hb dL_law_567 (by decide) ?_
          refine lv_iadd hx hb dL_law_568 ?_
          obtain ⟨h_255, hw⟩ := hw
          refine va_sld hx hb hX hbl hbA hS h_255 dL_law_569 ?_
          refine lv_aload_n hx hb dL_law_570 rfl (lv_at hl 0 rfl) ?_
          refine lv_iload_n hx hb dL_law_571 rfl (lv_at hl 3 rfl) ?_
          refine lv_iconst (v := 2) hx hb dL_law_572 (by decide) ?_
          refine lv_iadd hx hb dL_law_573 ?_
          obtain ⟨h_256, hw⟩ := hw
          refine va_sld hx hb hX hbl hbA hS h_256 dL_law_574 ?_
          refine icall (wr := [(g 0, .inr (2, [.ref (g 2), .ref (g 7), .ref (g 1), .int fd, .int cd, .int cr, .int tr])), (g 1, .inl (k.1, 2040, .inl ro)), (g 2, .inr (1, [.ref (g 3), .ref (g 4), .ref (g 5), .ref (g 6), .int ql])), (g 3, .inl (k.1, 4096, .inl nw)), (g 4, .inl (k.1, 4096, .inl kp)), (g 5, .inl (k.1, 512, .inl qu)), (g 6, .inl (k.2, 512, .inl qd)), (g 7, .inr (0, [.ref (g 8), .ref (g 9), .ref (g 10), .ref (g 11)])), (g 8, .inl (k.1, 256, .inl kd)), (g 9, .inl (k.1, 256, .inl fm)), (g 10, .inl (k.1, 256, .inl tk)), (g 11, .inl (k.1, 256, .inl mr))]) (va_runV (As := [.int (xs (x3 + 1).toNatClampNeg), .int (xs (x3 + 2).toNatClampNeg)]) (rest := [.int r_254]) hC (c_X3_page l D h k mw mk ml mq mwt mn mt mcl mcr mth mkind msort mfirst mblk mfree mfnd mfm msn (xs (x3 + 1).toNatClampNeg) (xs (x3 + 2).toNatClampNeg) _ hw H.size) (cwV 2 hts gL_law_X3_page rfl rfl rfl (by decide +kernel) ⟨Nat.le_of_ble_eq_true rfl, Nat.le_of_ble_eq_true rfl⟩) (preV_m (va_recv hK hP (ci := 3) (q0 := 12) rfl rfl) hP hD hA hK hZ hS [12, 13, 14, 15, 16, 17, 18, 19, 20, 21, 22, 23, 24] rfl rfl (by decide)) rfl rfl hl.1 rfl (lv_room (Nat.le_of_ble_eq_true rfl)) dL_law_575 ⟨Nat.le_of_ble_eq_true rfl, Nat.le_of_ble_eq_true rfl⟩) hP hD hA hS [12, 13, 14, 15, 16, 17, 18, 19, 20, 21, 22, 23, 24] [0, 1, 2, 3, 4, 5, 6, 7, 8, 9, 10, 11] rfl rfl (by decide) (by decide) (fun r_263 u' H locs hw hP hD hS => ?_)
          obtain ⟨mth_257, mkind_258, msort_259, mfirst_260, mblk_261, mfree_262⟩ := u'
          try dsimp only at hw
          have hP : va_P D vwCl (xL g h k fd cd cr tr ro nw kp qu qd ql kd fm tk mr mw mk ml mq mwt mn mt mcl mcr mth_257 mkind_258 msort_259 mfirst_260 mblk_261 mfree_262 mfnd mfm msn) H := hP.sub [0, 1, 2, 3, 4, 5, 6, 7, 8, 9, 10, 11, 12, 13, 14, 15, 16, 17, 18, 19, 20, 21, 22, 23, 24] rfl
          have hD : va_D A (xL g h k fd cd cr tr ro nw kp qu qd ql kd fm tk mr mw mk ml mq mwt mn mt mcl mcr mth_257 mkind_258 msort_259 mfirst_260 mblk_261 mfree_262 mfnd mfm msn) := hD.sub [0, 1, 2, 3, 4, 5, 6, 7, 8, 9, 10, 11, 12, 13, 14, 15, 16, 17, 18, 19, 20, 21, 22, 23, 24] (by decide) rfl
          refine lv_icmp_eq (tgt := 731) hx hb dL_law_578 (by decide) (fun c_264 => ?_) (fun c_264 => ?_)
          · have hw := hw.1 c_264
            obtain ⟨x3_265, ex3_265⟩ : ∃ y : Int32, y = x3 + 4 := ⟨_, rfl⟩
            have hw := hw x3_265 ex3_265
            refine lv_iinc (v := x3_265) (lv' := [(3, .int x3_265), (0, .ref b), (1, .ref (g 0)), (2, .ref (h 0))]) hx hb dL_law_731 hl (k := 3) rfl (by rw [ex3_265]; rfl) (by decide) rfl (fun ls hl => ?_)
            refine lv_goto (tgt := 18) hx hb dL_law_734 (by decide) ?_
            exact ih x3_265 fd cd cr tr ro nw kp qu qd ql kd fm tk mr mw mk ml mq mwt mn mt mcl mcr mth_257 mkind_258 msort_259 mfirst_260 mblk_261 mfree_262 mfnd mfm msn H locs hP hD hS ls (lv_sub hl [1, 2, 3, 0] rfl) hw
          · have hw := hw.2 c_264
            refine lv_iconst (v := 0) hx hb dL_law_581 (by decide) ?_
            exact hret _ _ _ _ _ hS dL_law_582 hw
        · have hw := hw.2.2.2.2.2.2.2.2.2.2.2.2.2.2.2.1 ej_7
          refine lv_tableIn (tgt := 583) hx hb dL_law_32 (by rw [ej_7]; decide) (by rw [ej_7]; decide) (by rw [ej_7]; rfl) (by decide) ?_
          refine lv_aload_n hx hb dL_law_583 rfl (lv_at hl 1 rfl) ?_
          refine lv_aload_n hx hb dL_law_584 rfl (lv_at hl 0 rfl) ?_
          refine lv_iload_n hx hb dL_law_585 rfl (lv_at hl 3 rfl) ?_
          refine lv_iconst (v := 1) hx hb dL_law_586 (by decide) ?_
          refine lv_iadd hx hb dL_law_587 ?_
          obtain ⟨h_266, hw⟩ := hw
          refine va_sld hx hb hX hbl hbA hS h_266 dL_law_588 ?_
          refine pcall (va_runV (As := [.int (xs (x3 + 1).toNatClampNeg)]) (rest := []) hC (c_X2_extents l D g k fd cd cr tr ro nw kp qu qd ql kd fm tk mr (xs (x3 + 1).toNatClampNeg) _ hw H) (cwV 1 hts gL_law_X2_extents rfl rfl rfl (by decide +kernel) ⟨Nat.le_of_ble_eq_true rfl, Nat.le_of_ble_eq_true rfl⟩) (preV_p (va_recv hK hP (ci := 2) (q0 := 0) rfl rfl) (hP.sub [0, 1, 2, 3, 4, 5, 6, 7, 8, 9, 10, 11] rfl) hK hZ hS) rfl rfl hl.1 rfl (lv_room (Nat.le_of_ble_eq_true rfl)) dL_law_589 ⟨Nat.le_of_ble_eq_true rfl, Nat.le_of_ble_eq_true rfl⟩) (fun r_267 hw => ?_)
          refine lv_aload_n hx hb dL_law_592 rfl (lv_at hl 2 rfl) ?_
          refine lv_aload_n hx hb dL_law_593 rfl (lv_at hl 0 rfl) ?_
          refine lv_iload_n hx hb dL_law_594 rfl (lv_at hl 3 rfl) ?_
          refine lv_iconst (v := 1) hx hb dL_law_595 (by decide) ?_
          refine lv_iadd hx hb dL_law_596 ?_
          obtain ⟨h_268, hw⟩ := hw
          refine va_sld hx hb hX hbl hbA hS h_268 dL_law_597 ?_
          refine icall (wr := [(g 0, .inr (2, [.ref (g 2), .ref (g 7), .ref (g 1), .int fd, .int cd, .int cr, .int tr])), (g 1, .inl (k.1, 2040, .inl ro)), (g 2, .inr (1, [.ref (g 3), .ref (g 4), .ref (g 5), .ref (g 6), .int ql])), (g 3, .inl (k.1, 4096, .inl nw)), (g 4, .inl (k.1, 4096, .inl kp)), (g 5, .inl (k.1, 512, .inl qu)), (g 6, .inl (k.2, 512, .inl qd)), (g 7, .inr (0, [.ref (g 8), .ref (g 9), .ref (g 10), .ref (g 11)])), (g 8, .inl (k.1, 256, .inl kd)), (g 9, .inl (k.1, 256, .inl fm)), (g 10, .inl (k.1, 256, .inl tk)), (g 11, .inl (k.1, 256, .inl mr))]) (va_runV (As := [.int (xs (x3 + 1).toNatClampNeg)]) (rest := [.int r_267]) hC (c_X3_extents l D h k mw mk ml mq mwt mn mt mcl mcr mth mkind msort mfirst mblk mfree mfnd mfm msn (xs (x3 + 1).toNatClampNeg) _ hw H.size) (cwV 1 hts gL_law_X3_extents rfl rfl rfl (by decide +kernel) ⟨Nat.le_of_ble_eq_true rfl, Nat.le_of_ble_eq_true rfl⟩) (preV_m (va_recv hK hP (ci := 3) (q0 := 12) rfl rfl) hP hD hA hK hZ hS [12, 13, 14, 15, 16, 17, 18, 19, 20, 21, 22, 23, 24] rfl rfl (by decide)) rfl rfl hl.1 rfl (lv_room (Nat.le_of_ble_eq_true rfl)) dL_law_598 ⟨Nat.le_of_ble_eq_true rfl, Nat.le_of_ble_eq_true rfl⟩) hP hD hA hS [12, 13, 14, 15, 16, 17, 18, 19, 20, 21, 22, 23, 24] [0, 1, 2, 3, 4, 5, 6, 7, 8, 9, 10, 11] rfl rfl (by decide) (by decide) (fun r_275 u' H locs hw hP hD hS => ?_)
          obtain ⟨mth_269, mkind_270, msort_271, mfirst_272, mblk_273, mfree_274⟩ := u'
          try dsimp only at hw
          have hP : va_P D vwCl (xL g h k fd cd cr tr ro nw kp qu qd ql kd fm tk mr mw mk ml mq mwt mn mt mcl mcr mth_269 mkind_270 msort_271 mfirst_272 mblk_273 mfree_274 mfnd mfm msn) H := hP.sub [0, 1, 2, 3, 4, 5, 6, 7, 8, 9, 10, 11, 12, 13, 14, 15, 16, 17, 18, 19, 20, 21, 22, 23, 24] rfl
          have hD : va_D A (xL g h k fd cd cr tr ro nw kp qu qd ql kd fm tk mr mw mk ml mq mwt mn mt mcl mcr mth_269 mkind_270 msort_271 mfirst_272 mblk_273 mfree_274 mfnd mfm msn) := hD.sub [0, 1, 2, 3, 4, 5, 6, 7, 8, 9, 10, 11, 12, 13, 14, 15, 16, 17, 18, 19, 20, 21, 22, 23, 24] (by decide) rfl
          refine lv_icmp_eq (tgt := 731) hx hb dL_law_601 (by decide) (fun c_276 => ?_) (fun c_276 => ?_)
          · have hw := hw.1 c_276
            obtain ⟨x3_277, ex3_277⟩ : ∃ y : Int32, y = x3 + 4 := ⟨_, rfl⟩
            have hw := hw x3_277 ex3_277
            refine lv_iinc (v := x3_277) (lv' := [(3, .int x3_277), (0, .ref b), (1, .ref (g 0)), (2, .ref (h 0))]) hx hb dL_law_731 hl (k := 3) rfl (by rw [ex3_277]; rfl) (by decide) rfl (fun ls hl => ?_)
            refine lv_goto (tgt := 18) hx hb dL_law_734 (by decide) ?_
            exact ih x3_277 fd cd cr tr ro nw kp qu qd ql kd fm tk mr mw mk ml mq mwt mn mt mcl mcr mth_269 mkind_270 msort_271 mfirst_272 mblk_273 mfree_274 mfnd mfm msn H locs hP hD hS ls (lv_sub hl [1, 2, 3, 0] rfl) hw
          · have hw := hw.2 c_276
            refine lv_iconst (v := 0) hx hb dL_law_604 (by decide) ?_
            exact hret _ _ _ _ _ hS dL_law_605 hw
        · have hw := hw.2.2.2.2.2.2.2.2.2.2.2.2.2.2.2.2.1 ej_7
          refine lv_tableIn (tgt := 606) hx hb dL_law_32 (by rw [ej_7]; decide) (by rw [ej_7]; decide) (by rw [ej_7]; rfl) (by decide) ?_
          refine lv_aload_n hx hb dL_law_606 rfl (lv_at hl 1 rfl) ?_
          refine lv_aload_n hx hb dL_law_607 rfl (lv_at hl 0 rfl) ?_
          refine lv_iload_n hx hb dL_law_608 rfl (lv_at hl 3 rfl) ?_
          refine lv_iconst (v := 1) hx hb dL_law_609 (by decide) ?_
          refine lv_iadd hx hb dL_law_610 ?_
          obtain ⟨h_278, hw⟩ := hw
          refine va_sld hx hb hX hbl hbA hS h_278 dL_law_611 ?_
          refine pcall (va_runV (As := [.int (xs (x3 + 1).toNatClampNeg)]) (rest := []) hC (c_X2_next l D g k fd cd cr tr ro nw kp qu qd ql kd fm tk mr (xs (x3 + 1).toNatClampNeg) _ hw H) (cwV 1 hts gL_law_X2_next rfl rfl rfl (by decide +kernel) ⟨Nat.le_of_ble_eq_true rfl, Nat.le_of_ble_eq_true rfl⟩) (preV_p (va_recv hK hP (ci := 2) (q0 := 0) rfl rfl) (hP.sub [0, 1, 2, 3, 4, 5, 6, 7, 8, 9, 10, 11] rfl) hK hZ hS) rfl rfl hl.1 rfl (lv_room (Nat.le_of_ble_eq_true rfl)) dL_law_612 ⟨Nat.le_of_ble_eq_true rfl, Nat.le_of_ble_eq_true rfl⟩) (fun r_279 hw => ?_)
          refine lv_aload_n hx hb dL_law_615 rfl (lv_at hl 2 rfl) ?_
          refine lv_aload_n hx hb dL_law_616 rfl (lv_at hl 0 rfl) ?_
          refine lv_iload_n hx hb dL_law_617 rfl (lv_at hl 3 rfl) ?_
          refine lv_iconst (v := 1) hx hb dL_law_618 (by decide) ?_
          refine lv_iadd hx hb dL_law_619 ?_
          obtain ⟨h_280, hw⟩ := hw
          refine va_sld hx hb hX hbl hbA hS h_280 dL_law_620 ?_
          refine icall (wr := [(g 0, .inr (2, [.ref (g 2), .ref (g 7), .ref (g 1), .int fd, .int cd, .int cr, .int tr])), (g 1, .inl (k.1, 2040, .inl ro)), (g 2, .inr (1, [.ref (g 3), .ref (g 4), .ref (g 5), .ref (g 6), .int ql])), (g 3, .inl (k.1, 4096, .inl nw)), (g 4, .inl (k.1, 4096, .inl kp)), (g 5, .inl (k.1, 512, .inl qu)), (g 6, .inl (k.2, 512, .inl qd)), (g 7, .inr (0, [.ref (g 8), .ref (g 9), .ref (g 10), .ref (g 11)])), (g 8, .inl (k.1, 256, .inl kd)), (g 9, .inl (k.1, 256, .inl fm)), (g 10, .inl (k.1, 256, .inl tk)), (g 11, .inl (k.1, 256, .inl mr))]) (va_runV (As := [.int (xs (x3 + 1).toNatClampNeg)]) (rest := [.int r_279]) hC (c_X3_next l D h k mw mk ml mq mwt mn mt mcl mcr mth mkind msort mfirst mblk mfree mfnd mfm msn (xs (x3 + 1).toNatClampNeg) _ hw H.size) (cwV 1 hts gL_law_X3_next rfl rfl rfl (by decide +kernel) ⟨Nat.le_of_ble_eq_true rfl, Nat.le_of_ble_eq_true rfl⟩) (preV_m (va_recv hK hP (ci := 3) (q0 := 12) rfl rfl) hP hD hA hK hZ hS [12, 13, 14, 15, 16, 17, 18, 19, 20, 21, 22, 23, 24] rfl rfl (by decide)) rfl rfl hl.1 rfl (lv_room (Nat.le_of_ble_eq_true rfl)) dL_law_621 ⟨Nat.le_of_ble_eq_true rfl, Nat.le_of_ble_eq_true rfl⟩) hP hD hA hS [12, 13, 14, 15, 16, 17, 18, 19, 20, 21, 22, 23, 24] [0, 1, 2, 3, 4, 5, 6, 7, 8, 9, 10, 11] rfl rfl (by decide) (by decide) (fun r_287 u' H locs hw hP hD hS => ?_)
          obtain ⟨mth_281, mkind_282, msort_283, mfirst_284, mblk_285, mfree_286⟩ := u'
          try dsimp only at hw
          have hP : va_P D vwCl (xL g h k fd cd cr tr ro nw kp qu qd ql kd fm tk mr mw mk ml mq mwt mn mt mcl mcr mth_281 mkind_282 msort_283 mfirst_284 mblk_285 mfree_286 mfnd mfm msn) H := hP.sub [0, 1, 2, 3, 4, 5, 6, 7, 8, 9, 10, 11, 12, 13, 14, 15, 16, 17, 18, 19, 20, 21, 22, 23, 24] rfl
          have hD : va_D A (xL g h k fd cd cr tr ro nw kp qu qd ql kd fm tk mr mw mk ml mq mwt mn mt mcl mcr mth_281 mkind_282 msort_283 mfirst_284 mblk_285 mfree_286 mfnd mfm msn) := hD.sub [0, 1, 2, 3, 4, 5, 6, 7, 8, 9, 10, 11, 12, 13, 14, 15, 16, 17, 18, 19, 20, 21, 22, 23, 24] (by decide) rfl
          refine lv_icmp_eq (tgt := 731) hx hb dL_law_624 (by decide) (fun c_288 => ?_) (fun c_288 => ?_)
          · have hw := hw.1 c_288
            obtain ⟨x3_289, ex3_289⟩ : ∃ y : Int32, y = x3 + 4 := ⟨_, rfl⟩
            have hw := hw x3_289 ex3_289
            refine lv_iinc (v := x3_289) (lv' := [(3, .int x3_289), (0, .ref b), (1, .ref (g 0)), (2, .ref (h 0))]) hx hb dL_law_731 hl (k := 3) rfl (by rw [ex3_289]; rfl) (by decide) rfl (fun ls hl => ?_)
            refine lv_goto (tgt := 18) hx hb dL_law_734 (by decide) ?_
            exact ih x3_289 fd cd cr tr ro nw kp qu qd ql kd fm tk mr mw mk ml mq mwt mn mt mcl mcr mth_281 mkind_282 msort_283 mfirst_284 mblk_285 mfree_286 mfnd mfm msn H locs hP hD hS ls (lv_sub hl [1, 2, 3, 0] rfl) hw
          · have hw := hw.2 c_288
            refine lv_iconst (v := 0) hx hb dL_law_627 (by decide) ?_
            exact hret _ _ _ _ _ hS dL_law_628 hw
        · have hw := hw.2.2.2.2.2.2.2.2.2.2.2.2.2.2.2.2.2.1 ej_7
          refine lv_tableIn (tgt := 629) hx hb dL_law_32 (by rw [ej_7]; decide) (by rw [ej_7]; decide) (by rw [ej_7]; rfl) (by decide) ?_
          refine lv_aload_n hx hb dL_law_629 rfl (lv_at hl 1 rfl) ?_
          refine lv_aload_n hx hb dL_law_630 rfl (lv_at hl 0 rfl) ?_
          refine lv_iload_n hx hb dL_law_631 rfl (lv_at hl 3 rfl) ?_
          refine lv_iconst (v := 1) hx hb dL_law_632 (by decide) ?_
          refine lv_iadd hx hb dL_law_633 ?_
          obtain ⟨h_290, hw⟩ := hw
          refine va_sld hx hb hX hbl hbA hS h_290 dL_law_634 ?_
          refine icall (wr := [(h 0, .inr (3, [.ref (h 1), .ref (h 2), .ref (h 3), .ref (h 4), .ref (h 5), .int mn, .int mt, .int mcl, .int mcr, .int mth, .ref (h 6), .ref (h 7), .ref (h 8), .ref (h 9), .ref (h 10), .ref (h 11), .int mfm, .ref (h 12)])), (h 1, .inl (k.1, 4096, .inl mw)), (h 2, .inl (k.1, 4096, .inl mk)), (h 3, .inl (k.2, 4096, .inl ml)), (h 4, .inl (k.2, 512, .inl mq)), (h 5, .inl (k.1, 512, .inl mwt)), (h 6, .inl (k.1, 256, .inl mkind)), (h 7, .inl (k.1, 256, .inl msort)), (h 8, .inl (k.1, 256, .inl mfirst)), (h 9, .inl (k.1, 256, .inl mblk)), (h 10, .inl (k.1, 256, .inl mfree)), (h 11, .inl (k.1, 2048, .inl mfnd)), (h 12, .inl (k.2, 4096, .inl msn))]) (va_runV (As := [.int (xs (x3 + 1).toNatClampNeg)]) (rest := []) hC (c_X2_count l D g k fd cd cr tr ro nw kp qu qd ql kd fm tk mr (xs (x3 + 1).toNatClampNeg) _ hw H.size) (cwV 1 hts gL_law_X2_count rfl rfl rfl (by decide +kernel) ⟨Nat.le_of_ble_eq_true rfl, Nat.le_of_ble_eq_true rfl⟩) (preV_m (va_recv hK hP (ci := 2) (q0 := 0) rfl rfl) hP hD hA hK hZ hS [0, 1, 2, 3, 4, 5, 6, 7, 8, 9, 10, 11] rfl rfl (by decide)) rfl rfl hl.1 rfl (lv_room (Nat.le_of_ble_eq_true rfl)) dL_law_635 ⟨Nat.le_of_ble_eq_true rfl, Nat.le_of_ble_eq_true rfl⟩) hP hD hA hS [0, 1, 2, 3, 4, 5, 6, 7, 8, 9, 10, 11] [12, 13, 14, 15, 16, 17, 18, 19, 20, 21, 22, 23, 24] rfl rfl (by decide) (by decide) (fun r_292 u' H locs hw hP hD hS => ?_)
          obtain ⟨ro_291, rfl⟩ : ∃ z, z = u' := ⟨_, rfl⟩
          try dsimp only at hw
          have hP : va_P D vwCl (xL g h k fd cd cr tr ro_291 nw kp qu qd ql kd fm tk mr mw mk ml mq mwt mn mt mcl mcr mth mkind msort mfirst mblk mfree mfnd mfm msn) H := hP.sub [13, 14, 15, 16, 17, 18, 19, 20, 21, 22, 23, 24, 0, 1, 2, 3, 4, 5, 6, 7, 8, 9, 10, 11, 12] rfl
          have hD : va_D A (xL g h k fd cd cr tr ro_291 nw kp qu qd ql kd fm tk mr mw mk ml mq mwt mn mt mcl mcr mth mkind msort mfirst mblk mfree mfnd mfm msn) := hD.sub [13, 14, 15, 16, 17, 18, 19, 20, 21, 22, 23, 24, 0, 1, 2, 3, 4, 5, 6, 7, 8, 9, 10, 11, 12] (by decide) rfl
          refine lv_aload_n hx hb dL_law_638 rfl (lv_at hl 2 rfl) ?_
          refine lv_aload_n hx hb dL_law_639 rfl (lv_at hl 0 rfl) ?_
          refine lv_iload_n hx hb dL_law_640 rfl (lv_at hl 3 rfl) ?_
          refine lv_iconst (v := 1) hx hb dL_law_641 (by decide) ?_
          refine lv_iadd hx hb dL_law_642 ?_
          obtain ⟨h_293, hw⟩ := hw
          refine va_sld hx hb hX hbl hbA hS h_293 dL_law_643 ?_
          refine icall (wr := [(g 0, .inr (2, [.ref (g 2), .ref (g 7), .ref (g 1), .int fd, .int cd, .int cr, .int tr])), (g 1, .inl (k.1, 2040, .inl ro_291)), (g 2, .inr (1, [.ref (g 3), .ref (g 4), .ref (g 5), .ref (g 6), .int ql])), (g 3, .inl (k.1, 4096, .inl nw)), (g 4, .inl (k.1, 4096, .inl kp)), (g 5, .inl (k.1, 512, .inl qu)), (g 6, .inl (k.2, 512, .inl qd)), (g 7, .inr (0, [.ref (g 8), .ref (g 9), .ref (g 10), .ref (g 11)])), (g 8, .inl (k.1, 256, .inl kd)), (g 9, .inl (k.1, 256, .inl fm)), (g 10, .inl (k.1, 256, .inl tk)), (g 11, .inl (k.1, 256, .inl mr))]) (va_runV (As := [.int (xs (x3 + 1).toNatClampNeg)]) (rest := [.int r_292]) hC (c_X3_count l D h k mw mk ml mq mwt mn mt mcl mcr mth mkind msort mfirst mblk mfree mfnd mfm msn (xs (x3 + 1).toNatClampNeg) _ hw H.size) (cwV 1 hts gL_law_X3_count rfl rfl rfl (by decide +kernel) ⟨Nat.le_of_ble_eq_true rfl, Nat.le_of_ble_eq_true rfl⟩) (preV_m (va_recv hK hP (ci := 3) (q0 := 12) rfl rfl) hP hD hA hK hZ hS [12, 13, 14, 15, 16, 17, 18, 19, 20, 21, 22, 23, 24] rfl rfl (by decide)) rfl rfl hl.1 rfl (lv_room (Nat.le_of_ble_eq_true rfl)) dL_law_644 ⟨Nat.le_of_ble_eq_true rfl, Nat.le_of_ble_eq_true rfl⟩) hP hD hA hS [12, 13, 14, 15, 16, 17, 18, 19, 20, 21, 22, 23, 24] [0, 1, 2, 3, 4, 5, 6, 7, 8, 9, 10, 11] rfl rfl (by decide) (by decide) (fun r_300 u' H locs hw hP hD hS => ?_)
          obtain ⟨mth_294, mkind_295, msort_296, mfirst_297, mblk_298, mfree_299⟩ := u'
          try dsimp only at hw
          have hP : va_P D vwCl (xL g h k fd cd cr tr ro_291 nw kp qu qd ql kd fm tk mr mw mk ml mq mwt mn mt mcl mcr mth_294 mkind_295 msort_296 mfirst_297 mblk_298 mfree_299 mfnd mfm msn) H := hP.sub [0, 1, 2, 3, 4, 5, 6, 7, 8, 9, 10, 11, 12, 13, 14, 15, 16, 17, 18, 19, 20, 21, 22, 23, 24] rfl
          have hD : va_D A (xL g h k fd cd cr tr ro_291 nw kp qu qd ql kd fm tk mr mw mk ml mq mwt mn mt mcl mcr mth_294 mkind_295 msort_296 mfirst_297 mblk_298 mfree_299 mfnd mfm msn) := hD.sub [0, 1, 2, 3, 4, 5, 6, 7, 8, 9, 10, 11, 12, 13, 14, 15, 16, 17, 18, 19, 20, 21, 22, 23, 24] (by decide) rfl
          refine lv_icmp_eq (tgt := 731) hx hb dL_law_647 (by decide) (fun c_301 => ?_) (fun c_301 => ?_)
          · have hw := hw.1 c_301
            obtain ⟨x3_302, ex3_302⟩ : ∃ y : Int32, y = x3 + 4 := ⟨_, rfl⟩
            have hw := hw x3_302 ex3_302
            refine lv_iinc (v := x3_302) (lv' := [(3, .int x3_302), (0, .ref b), (1, .ref (g 0)), (2, .ref (h 0))]) hx hb dL_law_731 hl (k := 3) rfl (by rw [ex3_302]; rfl) (by decide) rfl (fun ls hl => ?_)
            refine lv_goto (tgt := 18) hx hb dL_law_734 (by decide) ?_
            exact ih x3_302 fd cd cr tr ro_291 nw kp qu qd ql kd fm tk mr mw mk ml mq mwt mn mt mcl mcr mth_294 mkind_295 msort_296 mfirst_297 mblk_298 mfree_299 mfnd mfm msn H locs hP hD hS ls (lv_sub hl [1, 2, 3, 0] rfl) hw
          · have hw := hw.2 c_301
            refine lv_iconst (v := 0) hx hb dL_law_650 (by decide) ?_
            exact hret _ _ _ _ _ hS dL_law_651 hw
        · have hw := hw.2.2.2.2.2.2.2.2.2.2.2.2.2.2.2.2.2.2.1 ej_7
          refine lv_tableIn (tgt := 652) hx hb dL_law_32 (by rw [ej_7]; decide) (by rw [ej_7]; decide) (by rw [ej_7]; rfl) (by decide) ?_
          refine lv_aload_n hx hb dL_law_652 rfl (lv_at hl 1 rfl) ?_
          refine lv_aload_n hx hb dL_law_653 rfl (lv_at hl 0 rfl) ?_
          refine lv_iload_n hx hb dL_law_654 rfl (lv_at hl 3 rfl) ?_
          refine lv_iconst (v := 1) hx hb dL_law_655 (by decide) ?_
          refine lv_iadd hx hb dL_law_656 ?_
          obtain ⟨h_303, hw⟩ := hw
          refine va_sld hx hb hX hbl hbA hS h_303 dL_law_657 ?_
          refine lv_aload_n hx hb dL_law_658 rfl (lv_at hl 0 rfl) ?_
          refine lv_iload_n hx hb dL_law_659 rfl (lv_at hl 3 rfl) ?_
          refine lv_iconst (v := 2) hx hb dL_law_660 (by decide) ?_
          refine lv_iadd hx hb dL_law_661 ?_
          obtain ⟨h_304, hw⟩ := hw
          refine va_sld hx hb hX hbl hbA hS h_304 dL_law_662 ?_
          refine lv_aload_n hx hb dL_law_663 rfl (lv_at hl 0 rfl) ?_
          refine lv_iload_n hx hb dL_law_664 rfl (lv_at hl 3 rfl) ?_
          refine lv_iconst (v := 3) hx hb dL_law_665 (by decide) ?_
          refine lv_iadd hx hb dL_law_666 ?_
          obtain ⟨h_305, hw⟩ := hw
          refine va_sld hx hb hX hbl hbA hS h_305 dL_law_667 ?_
          refine pcall (va_runV (As := [.int (xs (x3 + 1).toNatClampNeg), .int (xs (x3 + 2).toNatClampNeg), .int (xs (x3 + 3).toNatClampNeg)]) (rest := []) hC (c_X2_head l D g k fd cd cr tr ro nw kp qu qd ql kd fm tk mr (xs (x3 + 1).toNatClampNeg) (xs (x3 + 2).toNatClampNeg) (xs (x3 + 3).toNatClampNeg) _ hw H) (cwV 3 hts gL_law_X2_head rfl rfl rfl (by decide +kernel) ⟨Nat.le_of_ble_eq_true rfl, Nat.le_of_ble_eq_true rfl⟩) (preV_p (va_recv hK hP (ci := 2) (q0 := 0) rfl rfl) (hP.sub [0, 1, 2, 3, 4, 5, 6, 7, 8, 9, 10, 11] rfl) hK hZ hS) rfl rfl hl.1 rfl (lv_room (Nat.le_of_ble_eq_true rfl)) dL_law_668 ⟨Nat.le_of_ble_eq_true rfl, Nat.le_of_ble_eq_true rfl⟩) (fun r_306 hw => ?_)
          refine lv_aload_n hx hb dL_law_671 rfl (lv_at hl 2 rfl) ?_
          refine lv_aload_n hx hb dL_law_672 rfl (lv_at hl 0 rfl) ?_
          refine lv_iload_n hx hb dL_law_673 rfl (lv_at hl 3 rfl) ?_
          refine lv_iconst (v := 1) hx hb dL_law_674 (by decide) ?_
          refine lv_iadd hx hb dL_law_675 ?_
          obtain ⟨h_307, hw⟩ := hw
          refine va_sld hx hb hX hbl hbA hS h_307 dL_law_676 ?_
          refine lv_aload_n hx hb dL_law_677 rfl (lv_at hl 0 rfl) ?_
          refine lv_iload_n hx hb dL_law_678 rfl (lv_at hl 3 rfl) ?_
          refine lv_iconst (v := 2) hx hb dL_law_679 (by decide) ?_
          refine lv_iadd hx hb dL_law_680 ?_
          obtain ⟨h_308, hw⟩ := hw
          refine va_sld hx hb hX hbl hbA hS h_308 dL_law_681 ?_
          refine lv_aload_n hx hb dL_law_682 rfl (lv_at hl 0 rfl) ?_
          refine lv_iload_n hx hb dL_law_683 rfl (lv_at hl 3 rfl) ?_
          refine lv_iconst (v := 3) hx hb dL_law_684 (by decide) ?_
          refine lv_iadd hx hb dL_law_685 ?_
          obtain ⟨h_309, hw⟩ := hw
          refine va_sld hx hb hX hbl hbA hS h_309 dL_law_686 ?_
          refine icall (wr := [(g 0, .inr (2, [.ref (g 2), .ref (g 7), .ref (g 1), .int fd, .int cd, .int cr, .int tr])), (g 1, .inl (k.1, 2040, .inl ro)), (g 2, .inr (1, [.ref (g 3), .ref (g 4), .ref (g 5), .ref (g 6), .int ql])), (g 3, .inl (k.1, 4096, .inl nw)), (g 4, .inl (k.1, 4096, .inl kp)), (g 5, .inl (k.1, 512, .inl qu)), (g 6, .inl (k.2, 512, .inl qd)), (g 7, .inr (0, [.ref (g 8), .ref (g 9), .ref (g 10), .ref (g 11)])), (g 8, .inl (k.1, 256, .inl kd)), (g 9, .inl (k.1, 256, .inl fm)), (g 10, .inl (k.1, 256, .inl tk)), (g 11, .inl (k.1, 256, .inl mr))]) (va_runV (As := [.int (xs (x3 + 1).toNatClampNeg), .int (xs (x3 + 2).toNatClampNeg), .int (xs (x3 + 3).toNatClampNeg)]) (rest := [.int r_306]) hC (c_X3_head l D h k mw mk ml mq mwt mn mt mcl mcr mth mkind msort mfirst mblk mfree mfnd mfm msn (xs (x3 + 1).toNatClampNeg) (xs (x3 + 2).toNatClampNeg) (xs (x3 + 3).toNatClampNeg) _ hw H.size) (cwV 3 hts gL_law_X3_head rfl rfl rfl (by decide +kernel) ⟨Nat.le_of_ble_eq_true rfl, Nat.le_of_ble_eq_true rfl⟩) (preV_m (va_recv hK hP (ci := 3) (q0 := 12) rfl rfl) hP hD hA hK hZ hS [12, 13, 14, 15, 16, 17, 18, 19, 20, 21, 22, 23, 24] rfl rfl (by decide)) rfl rfl hl.1 rfl (lv_room (Nat.le_of_ble_eq_true rfl)) dL_law_687 ⟨Nat.le_of_ble_eq_true rfl, Nat.le_of_ble_eq_true rfl⟩) hP hD hA hS [12, 13, 14, 15, 16, 17, 18, 19, 20, 21, 22, 23, 24] [0, 1, 2, 3, 4, 5, 6, 7, 8, 9, 10, 11] rfl rfl (by decide) (by decide) (fun r_311 u' H locs hw hP hD hS => ?_)
          obtain ⟨mth_310, rfl⟩ : ∃ z, z = u' := ⟨_, rfl⟩
          try dsimp only at hw
          have hP : va_P D vwCl (xL g h k fd cd cr tr ro nw kp qu qd ql kd fm tk mr mw mk ml mq mwt mn mt mcl mcr mth_310 mkind msort mfirst mblk mfree mfnd mfm msn) H := hP.sub [0, 1, 2, 3, 4, 5, 6, 7, 8, 9, 10, 11, 12, 13, 14, 15, 16, 17, 18, 19, 20, 21, 22, 23, 24] rfl
          have hD : va_D A (xL g h k fd cd cr tr ro nw kp qu qd ql kd fm tk mr mw mk ml mq mwt mn mt mcl mcr mth_310 mkind msort mfirst mblk mfree mfnd mfm msn) := hD.sub [0, 1, 2, 3, 4, 5, 6, 7, 8, 9, 10, 11, 12, 13, 14, 15, 16, 17, 18, 19, 20, 21, 22, 23, 24] (by decide) rfl
          refine lv_icmp_eq (tgt := 731) hx hb dL_law_690 (by decide) (fun c_312 => ?_) (fun c_312 => ?_)
          · have hw := hw.1 c_312
            obtain ⟨x3_313, ex3_313⟩ : ∃ y : Int32, y = x3 + 4 := ⟨_, rfl⟩
            have hw := hw x3_313 ex3_313
            refine lv_iinc (v := x3_313) (lv' := [(3, .int x3_313), (0, .ref b), (1, .ref (g 0)), (2, .ref (h 0))]) hx hb dL_law_731 hl (k := 3) rfl (by rw [ex3_313]; rfl) (by decide) rfl (fun ls hl => ?_)
            refine lv_goto (tgt := 18) hx hb dL_law_734 (by decide) ?_
            exact ih x3_313 fd cd cr tr ro nw kp qu qd ql kd fm tk mr mw mk ml mq mwt mn mt mcl mcr mth_310 mkind msort mfirst mblk mfree mfnd mfm msn H locs hP hD hS ls (lv_sub hl [1, 2, 3, 0] rfl) hw
          · have hw := hw.2 c_312
            refine lv_iconst (v := 0) hx hb dL_law_693 (by decide) ?_
            exact hret _ _ _ _ _ hS dL_law_694 hw
        · have hw := hw.2.2.2.2.2.2.2.2.2.2.2.2.2.2.2.2.2.2.2.1 ej_7
          refine lv_tableIn (tgt := 695) hx hb dL_law_32 (by rw [ej_7]; decide) (by rw [ej_7]; decide) (by rw [ej_7]; rfl) (by decide) ?_
          refine lv_aload_n hx hb dL_law_695 rfl (lv_at hl 1 rfl) ?_
          refine lv_aload_n hx hb dL_law_696 rfl (lv_at hl 0 rfl) ?_
          refine lv_iload_n hx hb dL_law_697 rfl (lv_at hl 3 rfl) ?_
          refine lv_iconst (v := 1) hx hb dL_law_698 (by decide) ?_
          refine lv_iadd hx hb dL_law_699 ?_
          obtain ⟨h_314, hw⟩ := hw
          refine va_sld hx hb hX hbl hbA hS h_314 dL_law_700 ?_
          refine pcall (va_runV (As := [.int (xs (x3 + 1).toNatClampNeg)]) (rest := []) hC (c_X2_waits l D g k fd cd cr tr ro nw kp qu qd ql kd fm tk mr (xs (x3 + 1).toNatClampNeg) _ hw H) (cwV 1 hts gL_law_X2_waits rfl rfl rfl (by decide +kernel) ⟨Nat.le_of_ble_eq_true rfl, Nat.le_of_ble_eq_true rfl⟩) (preV_p (va_recv hK hP (ci := 2) (q0 := 0) rfl rfl) (hP.sub [0, 1, 2, 3, 4, 5, 6, 7, 8, 9, 10, 11] rfl) hK hZ hS) rfl rfl hl.1 rfl (lv_room (Nat.le_of_ble_eq_true rfl)) dL_law_701 ⟨Nat.le_of_ble_eq_true rfl, Nat.le_of_ble_eq_true rfl⟩) (fun r_315 hw => ?_)
          refine lv_aload_n hx hb dL_law_704 rfl (lv_at hl 2 rfl) ?_
          refine lv_aload_n hx hb dL_law_705 rfl (lv_at hl 0 rfl) ?_
          refine lv_iload_n hx hb dL_law_706 rfl (lv_at hl 3 rfl) ?_
          refine lv_iconst (v := 1) hx hb dL_law_707 (by decide) ?_
          refine lv_iadd hx hb dL_law_708 ?_
          obtain ⟨h_316, hw⟩ := hw
          refine va_sld hx hb hX hbl hbA hS h_316 dL_law_709 ?_
          refine icall (wr := [(g 0, .inr (2, [.ref (g 2), .ref (g 7), .ref (g 1), .int fd, .int cd, .int cr, .int tr])), (g 1, .inl (k.1, 2040, .inl ro)), (g 2, .inr (1, [.ref (g 3), .ref (g 4), .ref (g 5), .ref (g 6), .int ql])), (g 3, .inl (k.1, 4096, .inl nw)), (g 4, .inl (k.1, 4096, .inl kp)), (g 5, .inl (k.1, 512, .inl qu)), (g 6, .inl (k.2, 512, .inl qd)), (g 7, .inr (0, [.ref (g 8), .ref (g 9), .ref (g 10), .ref (g 11)])), (g 8, .inl (k.1, 256, .inl kd)), (g 9, .inl (k.1, 256, .inl fm)), (g 10, .inl (k.1, 256, .inl tk)), (g 11, .inl (k.1, 256, .inl mr))]) (va_runV (As := [.int (xs (x3 + 1).toNatClampNeg)]) (rest := [.int r_315]) hC (c_X3_waits l D h k mw mk ml mq mwt mn mt mcl mcr mth mkind msort mfirst mblk mfree mfnd mfm msn (xs (x3 + 1).toNatClampNeg) _ hw H.size) (cwV 1 hts gL_law_X3_waits rfl rfl rfl (by decide +kernel) ⟨Nat.le_of_ble_eq_true rfl, Nat.le_of_ble_eq_true rfl⟩) (preV_m (va_recv hK hP (ci := 3) (q0 := 12) rfl rfl) hP hD hA hK hZ hS [12, 13, 14, 15, 16, 17, 18, 19, 20, 21, 22, 23, 24] rfl rfl (by decide)) rfl rfl hl.1 rfl (lv_room (Nat.le_of_ble_eq_true rfl)) dL_law_710 ⟨Nat.le_of_ble_eq_true rfl, Nat.le_of_ble_eq_true rfl⟩) hP hD hA hS [12, 13, 14, 15, 16, 17, 18, 19, 20, 21, 22, 23, 24] [0, 1, 2, 3, 4, 5, 6, 7, 8, 9, 10, 11] rfl rfl (by decide) (by decide) (fun r_318 u' H locs hw hP hD hS => ?_)
          obtain ⟨mth_317, rfl⟩ : ∃ z, z = u' := ⟨_, rfl⟩
          try dsimp only at hw
          have hP : va_P D vwCl (xL g h k fd cd cr tr ro nw kp qu qd ql kd fm tk mr mw mk ml mq mwt mn mt mcl mcr mth_317 mkind msort mfirst mblk mfree mfnd mfm msn) H := hP.sub [0, 1, 2, 3, 4, 5, 6, 7, 8, 9, 10, 11, 12, 13, 14, 15, 16, 17, 18, 19, 20, 21, 22, 23, 24] rfl
          have hD : va_D A (xL g h k fd cd cr tr ro nw kp qu qd ql kd fm tk mr mw mk ml mq mwt mn mt mcl mcr mth_317 mkind msort mfirst mblk mfree mfnd mfm msn) := hD.sub [0, 1, 2, 3, 4, 5, 6, 7, 8, 9, 10, 11, 12, 13, 14, 15, 16, 17, 18, 19, 20, 21, 22, 23, 24] (by decide) rfl
          refine lv_icmp_eq (tgt := 731) hx hb dL_law_713 (by decide) (fun c_319 => ?_) (fun c_319 => ?_)
          · have hw := hw.1 c_319
            obtain ⟨x3_320, ex3_320⟩ : ∃ y : Int32, y = x3 + 4 := ⟨_, rfl⟩
            have hw := hw x3_320 ex3_320
            refine lv_iinc (v := x3_320) (lv' := [(3, .int x3_320), (0, .ref b), (1, .ref (g 0)), (2, .ref (h 0))]) hx hb dL_law_731 hl (k := 3) rfl (by rw [ex3_320]; rfl) (by decide) rfl (fun ls hl => ?_)
            refine lv_goto (tgt := 18) hx hb dL_law_734 (by decide) ?_
            exact ih x3_320 fd cd cr tr ro nw kp qu qd ql kd fm tk mr mw mk ml mq mwt mn mt mcl mcr mth_317 mkind msort mfirst mblk mfree mfnd mfm msn H locs hP hD hS ls (lv_sub hl [1, 2, 3, 0] rfl) hw
          · have hw := hw.2 c_319
            refine lv_iconst (v := 0) hx hb dL_law_716 (by decide) ?_
            exact hret _ _ _ _ _ hS dL_law_717 hw
        · have hw := hw.2.2.2.2.2.2.2.2.2.2.2.2.2.2.2.2.2.2.2.2 ej_7
          refine lv_tableIn (tgt := 718) hx hb dL_law_32 (by rw [ej_7]; decide) (by rw [ej_7]; decide) (by rw [ej_7]; rfl) (by decide) ?_
          refine lv_aload_n hx hb dL_law_718 rfl (lv_at hl 1 rfl) ?_
          refine pcall (va_runV (As := []) (rest := []) hC (c_X2_trouble l D g k fd cd cr tr ro nw kp qu qd ql kd fm tk mr _ hw H) (cwV 0 hts gL_law_X2_trouble rfl rfl rfl (by decide +kernel) ⟨Nat.le_of_ble_eq_true rfl, Nat.le_of_ble_eq_true rfl⟩) (preV_p (va_recv hK hP (ci := 2) (q0 := 0) rfl rfl) (hP.sub [0, 1, 2, 3, 4, 5, 6, 7, 8, 9, 10, 11] rfl) hK hZ hS) rfl rfl hl.1 rfl (lv_room (Nat.le_of_ble_eq_true rfl)) dL_law_719 ⟨Nat.le_of_ble_eq_true rfl, Nat.le_of_ble_eq_true rfl⟩) (fun r_321 hw => ?_)
          refine lv_aload_n hx hb dL_law_722 rfl (lv_at hl 2 rfl) ?_
          refine icall (wr := [(g 0, .inr (2, [.ref (g 2), .ref (g 7), .ref (g 1), .int fd, .int cd, .int cr, .int tr])), (g 1, .inl (k.1, 2040, .inl ro)), (g 2, .inr (1, [.ref (g 3), .ref (g 4), .ref (g 5), .ref (g 6), .int ql])), (g 3, .inl (k.1, 4096, .inl nw)), (g 4, .inl (k.1, 4096, .inl kp)), (g 5, .inl (k.1, 512, .inl qu)), (g 6, .inl (k.2, 512, .inl qd)), (g 7, .inr (0, [.ref (g 8), .ref (g 9), .ref (g 10), .ref (g 11)])), (g 8, .inl (k.1, 256, .inl kd)), (g 9, .inl (k.1, 256, .inl fm)), (g 10, .inl (k.1, 256, .inl tk)), (g 11, .inl (k.1, 256, .inl mr))]) (va_runV (As := []) (rest := [.int r_321]) hC (c_X3_trouble l D h k mw mk ml mq mwt mn mt mcl mcr mth mkind msort mfirst mblk mfree mfnd mfm msn _ hw H.size) (cwV 0 hts gL_law_X3_trouble rfl rfl rfl (by decide +kernel) ⟨Nat.le_of_ble_eq_true rfl, Nat.le_of_ble_eq_true rfl⟩) (preV_m (va_recv hK hP (ci := 3) (q0 := 12) rfl rfl) hP hD hA hK hZ hS [12, 13, 14, 15, 16, 17, 18, 19, 20, 21, 22, 23, 24] rfl rfl (by decide)) rfl rfl hl.1 rfl (lv_room (Nat.le_of_ble_eq_true rfl)) dL_law_723 ⟨Nat.le_of_ble_eq_true rfl, Nat.le_of_ble_eq_true rfl⟩) hP hD hA hS [12, 13, 14, 15, 16, 17, 18, 19, 20, 21, 22, 23, 24] [0, 1, 2, 3, 4, 5, 6, 7, 8, 9, 10, 11] rfl rfl (by decide) (by decide) (fun r_323 u' H locs hw hP hD hS => ?_)
          obtain ⟨mth_322, rfl⟩ : ∃ z, z = u' := ⟨_, rfl⟩
          try dsimp only at hw
          have hP : va_P D vwCl (xL g h k fd cd cr tr ro nw kp qu qd ql kd fm tk mr mw mk ml mq mwt mn mt mcl mcr mth_322 mkind msort mfirst mblk mfree mfnd mfm msn) H := hP.sub [0, 1, 2, 3, 4, 5, 6, 7, 8, 9, 10, 11, 12, 13, 14, 15, 16, 17, 18, 19, 20, 21, 22, 23, 24] rfl
          have hD : va_D A (xL g h k fd cd cr tr ro nw kp qu qd ql kd fm tk mr mw mk ml mq mwt mn mt mcl mcr mth_322 mkind msort mfirst mblk mfree mfnd mfm msn) := hD.sub [0, 1, 2, 3, 4, 5, 6, 7, 8, 9, 10, 11, 12, 13, 14, 15, 16, 17, 18, 19, 20, 21, 22, 23, 24] (by decide) rfl
          refine lv_icmp_eq (tgt := 731) hx hb dL_law_726 (by decide) (fun c_324 => ?_) (fun c_324 => ?_)
          · have hw := hw.1 c_324
            obtain ⟨x3_325, ex3_325⟩ : ∃ y : Int32, y = x3 + 4 := ⟨_, rfl⟩
            have hw := hw x3_325 ex3_325
            refine lv_iinc (v := x3_325) (lv' := [(3, .int x3_325), (0, .ref b), (1, .ref (g 0)), (2, .ref (h 0))]) hx hb dL_law_731 hl (k := 3) rfl (by rw [ex3_325]; rfl) (by decide) rfl (fun ls hl => ?_)
            refine lv_goto (tgt := 18) hx hb dL_law_734 (by decide) ?_
            exact ih x3_325 fd cd cr tr ro nw kp qu qd ql kd fm tk mr mw mk ml mq mwt mn mt mcl mcr mth_322 mkind msort mfirst mblk mfree mfnd mfm msn H locs hP hD hS ls (lv_sub hl [1, 2, 3, 0] rfl) hw
          · have hw := hw.2 c_324
            refine lv_iconst (v := 0) hx hb dL_law_729 (by decide) ?_
            exact hret _ _ _ _ _ hS dL_law_730 hw
  unfold wL_law at hw
  refine lv_iconst (v := 0) hx hb dL_law_16 (by decide) ?_
  refine lv_istore_n (lv' := [(3, .int 0), (2, .ref (h 0)), (1, .ref (g 0)), (0, .ref b)]) hx hb dL_law_17 rfl hl (by decide) rfl (fun ls hl => ?_)
  obtain ⟨fu_326, hw⟩ := hw
  exact B18  fu_326 0 fd cd cr tr ro nw kp qu qd ql kd fm tk mr mw mk ml mq mwt mn mt mcl mcr mth mkind msort mfirst mblk mfree mfnd mfm msn H locs hP hD hS ls (lv_sub hl [3, 2, 1, 0] rfl) hw
