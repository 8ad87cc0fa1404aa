-- X2_put
abbrev rmX2_put : Room := { frames := 4, cells := 0, slots := 0, locals := 86 }
set_option maxHeartbeats 4000000 in
set_option maxRecDepth 100000 in
theorem c_X2_put (l : Launch) (D : va_G) (g : Nat → Nat) (k : xC) (fd : Int32) (cd : Int32) (cr : Int32) (tr : Int32) (ro : Nat → Int32) (nw : Nat → Int32) (kp : Nat → Int32) (qu : Nat → Int32) (qd : Nat → Int32) (ql : Int32) (kd : Nat → Int32) (fm : Nat → Int32) (tk : Nat → Int32) (mr : Nat → Int32) (x1 : Int32) (x2 : Int32) (x3 : Int32) (post : Int32 → Int32 → (Nat → Int32) → (Nat → Int32) → (Nat → Int32) → Int32 → Prop) (hw : wX2_put post tr nw qu qd ql kd fm tk x1 x2 x3) : CMi l yX2_put wsX2_put rmX2_put D k [.ref (g 0), .int x1, .int x2, .int x3] (fun v : Int32 × (Nat → Int32) × (Nat → Int32) × (Nat → Int32) × Int32 => (xS g k fd cd cr (v.1) ro (v.2.1) kp (v.2.2.1) (v.2.2.2.1) (v.2.2.2.2) kd fm tk mr)) (tr, nw, qu, qd, ql) (fun r v => post r (v.1) (v.2.1) (v.2.2.1) (v.2.2.2.1) (v.2.2.2.2)) := by
  refine met_mz (cc := cX2_put) (nL := 4) (by decide) rfl (Nat.le_of_ble_eq_true rfl) ?_
  intro p e s m args below meth c Q A ls hC hP hD hA hK hZ hS hl hret
  obtain ⟨hx, hb, hml, hown, hts⟩ := id hC
  have hC : CallFix p m c cX2_put 4 s args wsX2_put RX2 := hC
  have hown : s.vm.findClass RX2 = some m.cls := hown
  have hl : lv_has ls 4 [(0, .ref (g 0)), (1, .int x1), (2, .int x2), (3, .int x3)] := hl
  have hP : va_P D vwCl (xS g k fd cd cr tr ro nw kp qu qd ql kd fm tk mr) s.heap := hP
  have hD : va_D A (xS g k fd cd cr tr ro nw kp qu qd ql kd fm tk mr) := hD
  have hinX2 : ∀ w ∈ wsX20, w ∈ wsX2_put := fun _ h => List.mem_cons_of_mem _ (List.mem_append_left _ (List.mem_append_left _ (List.mem_append_right _ h)))
  have B18 : ∀ (tr : Int32), ∀ (nw : Nat → Int32), ∀ (qu : Nat → Int32), ∀ (qd : Nat → Int32), ∀ (ql : Int32), ∀ (H : Heap) (locs : List Loc), va_P D vwCl (xS g k fd cd cr tr ro nw kp qu qd ql kd fm tk mr) H → va_D A (xS g k fd cd cr tr ro nw kp qu qd ql kd fm tk mr) → va_S A s.heap H locs → ∀ (ls : Array Slot), lv_has ls 4 [(0, .ref (g 0))] → wX2_put_18 post kd fm tk tr nw qu qd ql → W p l e rmX2_put s m args below meth c H locs 0 0 Q (F0 m 18 ls []) := by
    intro  tr nw qu qd ql H locs hP hD hS ls hl hw
    unfold wX2_put_18 at hw
    refine lv_aload_n hx hb dX2_put_18 rfl (lv_at hl 0 rfl) ?_
    refine lv_iconst (v := 2) hx hb dX2_put_19 (by decide) ?_
    refine icall (wr := []) (va_runV (As := [.int 2]) (rest := []) hC (c_X2_settle l D g k fd cd cr tr ro nw kp qu qd ql kd fm tk mr 2 _ hw H.size) (cwV 1 hts gX2_put_X2_settle rfl rfl rfl (by decide +kernel) ⟨Nat.le_of_ble_eq_true rfl, Nat.le_of_ble_eq_true rfl⟩) (preV_m (va_recv hK hP (ci := 2) (q0 := 0) rfl rfl) hP hD hA hK hZ hS [0, 1, 2, 3, 4, 5, 6, 7, 8, 9, 10, 11] rfl rfl (by decide)) rfl rfl hl.1 rfl (lv_room (Nat.le_of_ble_eq_true rfl)) dX2_put_20 ⟨Nat.le_of_ble_eq_true rfl, Nat.le_of_ble_eq_true rfl⟩) hP hD hA hS [0, 1, 2, 3, 4, 5, 6, 7, 8, 9, 10, 11] [] rfl rfl (by decide) (by decide) (fun r_4 u' H locs hw hP hD hS => ?_)
    obtain ⟨tr_3, rfl⟩ : ∃ z, z = u' := ⟨_, rfl⟩
    try dsimp only at hw
    have hP : va_P D vwCl (xS g k fd cd cr tr_3 ro nw kp qu qd ql kd fm tk mr) H := hP
    have hD : va_D A (xS g k fd cd cr tr_3 ro nw kp qu qd ql kd fm tk mr) := hD
    obtain ⟨h_5, hw⟩ := hw
    exact hret _ _ _ (tr_3, nw, qu, qd, ql) _ _ hP hD hS dX2_put_23 h_5 hw
  unfold wX2_put at hw
  suffices main : ∀ (H : Heap) (locs : List Loc), va_P D vwCl (xS g k fd cd cr tr ro nw kp qu qd ql kd fm tk mr) H → va_D A (xS g k fd cd cr tr ro nw kp qu qd ql kd fm tk mr) → va_S A s.heap H locs → W p l e rmX2_put s m args below meth c H locs 0 0 Q (F0 m 0 ls []) from main _ _ hP hD hS
  intro H locs hP hD hS
  refine lv_aload_n hx hb dX2_put_0 rfl (lv_at hl 0 rfl) ?_
  refine lv_iload_n hx hb dX2_put_1 rfl (lv_at hl 1 rfl) ?_
  refine lv_iload_n hx hb dX2_put_2 rfl (lv_at hl 2 rfl) ?_
  refine pcall (va_runV (As := [.int x1, .int x2]) (rest := []) hC (c_X2_hasWord l D g k fd cd cr tr ro nw kp qu qd ql kd fm tk mr x1 x2 _ hw H) (cwV 2 hts gX2_put_X2_hasWord rfl rfl rfl (by decide +kernel) ⟨Nat.le_of_ble_eq_true rfl, Nat.le_of_ble_eq_true rfl⟩) (preV_p (va_recv hK hP (ci := 2) (q0 := 0) rfl rfl) hP hK hZ hS) rfl rfl hl.1 rfl (lv_room (Nat.le_of_ble_eq_true rfl)) dX2_put_3 ⟨Nat.le_of_ble_eq_true rfl, Nat.le_of_ble_eq_true rfl⟩) (fun r_1 hw => ?_)
  refine lv_if_eq (tgt := 18) hx hb dX2_put_6 (by decide) (fun c_2 => ?_) (fun c_2 => ?_)
  · have hw := hw.1 c_2
    exact B18  tr nw qu qd ql H locs hP hD hS ls (lv_sub hl [0] rfl) hw
  · have hw := hw.2 c_2
    refine lv_iload_n hx hb dX2_put_9 rfl (lv_at hl 2 rfl) ?_
    refine lv_aload_n hx hb dX2_put_10 rfl (lv_at hl 0 rfl) ?_
    refine lv_iload_n hx hb dX2_put_11 rfl (lv_at hl 1 rfl) ?_
    refine pcall (va_runV (As := [.int x1]) (rest := [.int x2]) hC (c_X2_refsOf l D g k fd cd cr tr ro nw kp qu qd ql kd fm tk mr x1 _ hw H) (cwV 1 hts gX2_put_X2_refsOf rfl rfl rfl (by decide +kernel) ⟨Nat.le_of_ble_eq_true rfl, Nat.le_of_ble_eq_true rfl⟩) (preV_p (va_recv hK hP (ci := 2) (q0 := 0) rfl rfl) hP hK hZ hS) rfl rfl hl.1 rfl (lv_room (Nat.le_of_ble_eq_true rfl)) dX2_put_12 ⟨Nat.le_of_ble_eq_true rfl, Nat.le_of_ble_eq_true rfl⟩) (fun r_6 hw => ?_)
    refine lv_icmp_ge (tgt := 24) hx hb dX2_put_15 (by decide) (fun c_7 => ?_) (fun c_7 => ?_)
    · have hw := hw.1 c_7
      refine lv_aload_n hx hb dX2_put_24 rfl (lv_at hl 0 rfl) ?_
      refine va_get (D := D) (ci := 2) (v := .ref (g 2)) (C := RX2) (T := TX2) (N := 7) hx hb hts hinX2 hown hK hP 0 rfl rfl 0 (by decide) (hts (.fieldLink RX2 10 "SlabHeap" "words" "LSlabHeap$Words;") (by decide +kernel)) (fun _ h9 => h9) rfl dX2_put_25 ?_
      refine lv_iload_n hx hb dX2_put_28 rfl (lv_at hl 1 rfl) ?_
      refine lv_iload_n hx hb dX2_put_29 rfl (lv_at hl 2 rfl) ?_
      refine pcall (va_runS (As := [.int x1, .int x2]) (rest := [.ref (g 2)]) hC (c_X2_wordOf l D k x1 x2 _ hw H) (va_cwS 2 hts gX2_put_X2_wordOf rfl rfl rfl (by decide +kernel) ⟨Nat.le_of_ble_eq_true rfl, Nat.le_of_ble_eq_true rfl⟩) (preS_p (hP.sub [] rfl) hK hZ hS) rfl rfl hl.1 rfl (lv_room (Nat.le_of_ble_eq_true rfl)) dX2_put_30 ⟨Nat.le_of_ble_eq_true rfl, Nat.le_of_ble_eq_true rfl⟩) (fun r_8 hw => ?_)
      refine lv_iload_n hx hb dX2_put_33 rfl (lv_at hl 3 rfl) ?_
      refine vcall (wr := [(g 0, .inr (2, [.ref (g 2), .ref (g 7), .ref (g 1), .int fd, .int cd, .int cr, .int tr])), (g 1, .inl (k.1, 2040, .inl ro)), (g 7, .inr (0, [.ref (g 8), .ref (g 9), .ref (g 10), .ref (g 11)])), (g 8, .inl (k.1, 256, .inl kd)), (g 9, .inl (k.1, 256, .inl fm)), (g 10, .inl (k.1, 256, .inl tk)), (g 11, .inl (k.1, 256, .inl mr))]) (va_runV (As := [.int r_8, .int x3]) (rest := []) hC (c_X1_write l D g k nw kp qu qd ql r_8 x3 _ hw H.size) (cwV 2 hts gX2_put_X1_write rfl rfl rfl (by decide +kernel) ⟨Nat.le_of_ble_eq_true rfl, Nat.le_of_ble_eq_true rfl⟩) (preV_m (va_recv hK hP (ci := 1) (q0 := 2) rfl rfl) hP hD hA hK hZ hS [2, 3, 4, 5, 6] rfl rfl (by decide)) rfl rfl hl.1 rfl (lv_room (Nat.le_of_ble_eq_true rfl)) dX2_put_34 ⟨Nat.le_of_ble_eq_true rfl, Nat.le_of_ble_eq_true rfl⟩) hP hD hA hS [2, 3, 4, 5, 6] [0, 1, 7, 8, 9, 10, 11] rfl rfl (by decide) (by decide) (fun u' H locs hw hP hD hS => ?_)
      obtain ⟨nw_9, qu_10, qd_11, ql_12⟩ := u'
      try dsimp only at hw
      have hP : va_P D vwCl (xS g k fd cd cr tr ro nw_9 kp qu_10 qd_11 ql_12 kd fm tk mr) H := hP.sub [0, 1, 7, 8, 9, 10, 11, 2, 3, 4, 5, 6] rfl
      have hD : va_D A (xS g k fd cd cr tr ro nw_9 kp qu_10 qd_11 ql_12 kd fm tk mr) := hD.sub [0, 1, 7, 8, 9, 10, 11, 2, 3, 4, 5, 6] (by decide) rfl
      refine lv_aload_n hx hb dX2_put_37 rfl (lv_at hl 0 rfl) ?_
      refine lv_iconst (v := 0) hx hb dX2_put_38 (by decide) ?_
      refine icall (wr := []) (va_runV (As := [.int 0]) (rest := []) hC (c_X2_settle l D g k fd cd cr tr ro nw_9 kp qu_10 qd_11 ql_12 kd fm tk mr 0 _ hw H.size) (cwV 1 hts gX2_put_X2_settle rfl rfl rfl (by decide +kernel) ⟨Nat.le_of_ble_eq_true rfl, Nat.le_of_ble_eq_true rfl⟩) (preV_m (va_recv hK hP (ci := 2) (q0 := 0) rfl rfl) hP hD hA hK hZ hS [0, 1, 2, 3, 4, 5, 6, 7, 8, 9, 10, 11] rfl rfl (by decide)) rfl rfl hl.1 rfl (lv_room (Nat.le_of_ble_eq_true rfl)) dX2_put_39 ⟨Nat.le_of_ble_eq_true rfl, Nat.le_of_ble_eq_true rfl⟩) hP hD hA hS [0, 1, 2, 3, 4, 5, 6, 7, 8, 9, 10, 11] [] rfl rfl (by decide) (by decide) (fun r_14 u' H locs hw hP hD hS => ?_)
      obtain ⟨tr_13, rfl⟩ : ∃ z, z = u' := ⟨_, rfl⟩
      try dsimp only at hw
      have hP : va_P D vwCl (xS g k fd cd cr tr_13 ro nw_9 kp qu_10 qd_11 ql_12 kd fm tk mr) H := hP
      have hD : va_D A (xS g k fd cd cr tr_13 ro nw_9 kp qu_10 qd_11 ql_12 kd fm tk mr) := hD
      obtain ⟨h_15, hw⟩ := hw
      exact hret _ _ _ (tr_13, nw_9, qu_10, qd_11, ql_12) _ _ hP hD hS dX2_put_42 h_15 hw
    · have hw := hw.2 c_7
      exact B18  tr nw qu qd ql H locs hP hD hS ls (lv_sub hl [0] rfl) hw
-- X2_isTarget
abbrev rmX2_isTarget : Room := { frames := 3, cells := 0, slots := 0, locals := 64 }
set_option maxHeartbeats 4000000 in
set_option maxRecDepth 100000 in
theorem c_X2_isTarget (l : Launch) (D : va_G) (g : Nat → Nat) (k : xC) (fd : Int32) (cd : Int32) (cr : Int32) (tr : Int32) (ro : Nat → Int32) (nw : Nat → Int32) (kp : Nat → Int32) (qu : Nat → Int32) (qd : Nat → Int32) (ql : Int32) (kd : Nat → Int32) (fm : Nat → Int32) (tk : Nat → Int32) (mr : Nat → Int32) (x1 : Int32) (post : Int32 → Prop) (hw : wX2_isTarget post kd fm tk x1) : CPi l yX2_isTarget wsX2_isTarget rmX2_isTarget D k [.ref (g 0), .int x1] (xS g k fd cd cr tr ro nw kp qu qd ql kd fm tk mr) post := by
  refine met_pz (cc := cX2_isTarget) (nL := 2) (by decide) rfl (Nat.le_of_ble_eq_true rfl) ?_
  intro p e s m args below meth c Q ls hC hP hK hZ hS hl hret
  obtain ⟨hx, hb, hml, hown, hts⟩ := id hC
  have hC : CallFix p m c cX2_isTarget 2 s args wsX2_isTarget RX2 := hC
  have hown : s.vm.findClass RX2 = some m.cls := hown
  have hl : lv_has ls 2 [(0, .ref (g 0)), (1, .int x1)] := hl
  have hinX2 : ∀ w ∈ wsX20, w ∈ wsX2_isTarget := fun _ h => List.mem_cons_of_mem _ (List.mem_append_left _ (List.mem_append_right _ h))
  unfold wX2_isTarget at hw
  refine lv_iload_n hx hb dX2_isTarget_0 rfl (lv_at hl 1 rfl) ?_
  refine lv_if_eq (tgt := 15) hx hb dX2_isTarget_1 (by decide) (fun c_1 => ?_) (fun c_1 => ?_)
  · have hw := hw.1 c_1
    refine lv_iconst (v := 1) hx hb dX2_isTarget_15 (by decide) ?_
    refine lv_goto (tgt := 20) hx hb dX2_isTarget_16 (by decide) ?_
    exact hret _ _ _ dX2_isTarget_20 nb_1 hw
  · have hw := hw.2 c_1
    refine lv_aload_n hx hb dX2_isTarget_4 rfl (lv_at hl 0 rfl) ?_
    refine va_get (D := D) (ci := 2) (v := .ref (g 7)) (C := RX2) (T := TX2) (N := 7) hx hb hts hinX2 hown hK hP 0 rfl rfl 1 (by decide) (hts (.fieldLink RX2 19 "SlabHeap" "pages" "LSlabHeap$Pages;") (by decide +kernel)) (fun _ h9 => h9) rfl dX2_isTarget_5 ?_
    refine lv_iload_n hx hb dX2_isTarget_8 rfl (lv_at hl 1 rfl) ?_
    refine pcall (va_runV (As := [.int x1]) (rest := []) hC (c_X0_isLive l D g k kd fm tk mr x1 _ hw s.heap) (cwV 1 hts gX2_isTarget_X0_isLive rfl rfl rfl (by decide +kernel) ⟨Nat.le_of_ble_eq_true rfl, Nat.le_of_ble_eq_true rfl⟩) (preV_p (va_recv hK hP (ci := 0) (q0 := 7) rfl rfl) (hP.sub [7, 8, 9, 10, 11] rfl) hK hZ hS) rfl rfl hl.1 rfl (lv_room (Nat.le_of_ble_eq_true rfl)) dX2_isTarget_9 ⟨Nat.le_of_ble_eq_true rfl, Nat.le_of_ble_eq_true rfl⟩) (fun r_2 hw => ?_)
    refine lv_if_eq (tgt := 19) hx hb dX2_isTarget_12 (by decide) (fun c_3 => ?_) (fun c_3 => ?_)
    · have hw := hw.1 c_3
      refine lv_iconst (v := 0) hx hb dX2_isTarget_19 (by decide) ?_
      exact hret _ _ _ dX2_isTarget_20 nb_0 hw
    · have hw := hw.2 c_3
      refine lv_iconst (v := 1) hx hb dX2_isTarget_15 (by decide) ?_
      refine lv_goto (tgt := 20) hx hb dX2_isTarget_16 (by decide) ?_
      exact hret _ _ _ dX2_isTarget_20 nb_1 hw
-- X2_refer
abbrev rmX2_refer : Room := { frames := 4, cells := 0, slots := 0, locals := 86 }
set_option maxHeartbeats 4000000 in
set_option maxRecDepth 100000 in
theorem c_X2_refer (l : Launch) (D : va_G) (g : Nat → Nat) (k : xC) (fd : Int32) (cd : Int32) (cr : Int32) (tr : Int32) (ro : Nat → Int32) (nw : Nat → Int32) (kp : Nat → Int32) (qu : Nat → Int32) (qd : Nat → Int32) (ql : Int32) (kd : Nat → Int32) (fm : Nat → Int32) (tk : Nat → Int32) (mr : Nat → Int32) (x1 : Int32) (x2 : Int32) (x3 : Int32) (post : Int32 → Int32 → (Nat → Int32) → (Nat → Int32) → (Nat → Int32) → Int32 → Prop) (hw : wX2_refer post tr nw qu qd ql kd fm tk x1 x2 x3) : CMi l yX2_refer wsX2_refer rmX2_refer D k [.ref (g 0), .int x1, .int x2, .int x3] (fun v : Int32 × (Nat → Int32) × (Nat → Int32) × (Nat → Int32) × Int32 => (xS g k fd cd cr (v.1) ro (v.2.1) kp (v.2.2.1) (v.2.2.2.1) (v.2.2.2.2) kd fm tk mr)) (tr, nw, qu, qd, ql) (fun r v => post r (v.1) (v.2.1) (v.2.2.1) (v.2.2.2.1) (v.2.2.2.2)) := by
  refine met_mz (cc := cX2_refer) (nL := 4) (by decide) rfl (Nat.le_of_ble_eq_true rfl) ?_
  intro p e s m args below meth c Q A ls hC hP hD hA hK hZ hS hl hret
  obtain ⟨hx, hb, hml, hown, hts⟩ := id hC
  have hC : CallFix p m c cX2_refer 4 s args wsX2_refer RX2 := hC
  have hown : s.vm.findClass RX2 = some m.cls := hown
  have hl : lv_has ls 4 [(0, .ref (g 0)), (1, .int x1), (2, .int x2), (3, .int x3)] := hl
  have hP : va_P D vwCl (xS g k fd cd cr tr ro nw kp qu qd ql kd fm tk mr) s.heap := hP
  have hD : va_D A (xS g k fd cd cr tr ro nw kp qu qd ql kd fm tk mr) := hD
  have hinX2 : ∀ w ∈ wsX20, w ∈ wsX2_refer := fun _ h => List.mem_cons_of_mem _ (List.mem_append_left _ (List.mem_append_left _ (List.mem_append_right _ h)))
  have B26 : ∀ (tr : Int32), ∀ (nw : Nat → Int32), ∀ (qu : Nat → Int32), ∀ (qd : Nat → Int32), ∀ (ql : Int32), ∀ (H : Heap) (locs : List Loc), va_P D vwCl (xS g k fd cd cr tr ro nw kp qu qd ql kd fm tk mr) H → va_D A (xS g k fd cd cr tr ro nw kp qu qd ql kd fm tk mr) → va_S A s.heap H locs → ∀ (ls : Array Slot), lv_has ls 4 [(0, .ref (g 0))] → wX2_refer_26 post kd fm tk tr nw qu qd ql → W p l e rmX2_refer s m args below meth c H locs 0 0 Q (F0 m 26 ls []) := by
    intro  tr nw qu qd ql H locs hP hD hS ls hl hw
    unfold wX2_refer_26 at hw
    refine lv_aload_n hx hb dX2_refer_26 rfl (lv_at hl 0 rfl) ?_
    refine lv_iconst (v := 2) hx hb dX2_refer_27 (by decide) ?_
    refine icall (wr := []) (va_runV (As := [.int 2]) (rest := []) hC (c_X2_settle l D g k fd cd cr tr ro nw kp qu qd ql kd fm tk mr 2 _ hw H.size) (cwV 1 hts gX2_refer_X2_settle rfl rfl rfl (by decide +kernel) ⟨Nat.le_of_ble_eq_true rfl, Nat.le_of_ble_eq_true rfl⟩) (preV_m (va_recv hK hP (ci := 2) (q0 := 0) rfl rfl) hP hD hA hK hZ hS [0, 1, 2, 3, 4, 5, 6, 7, 8, 9, 10, 11] rfl rfl (by decide)) rfl rfl hl.1 rfl (lv_room (Nat.le_of_ble_eq_true rfl)) dX2_refer_28 ⟨Nat.le_of_ble_eq_true rfl, Nat.le_of_ble_eq_true rfl⟩) hP hD hA hS [0, 1, 2, 3, 4, 5, 6, 7, 8, 9, 10, 11] [] rfl rfl (by decide) (by decide) (fun r_4 u' H locs hw hP hD hS => ?_)
    obtain ⟨tr_3, rfl⟩ : ∃ z, z = u' := ⟨_, rfl⟩
    try dsimp only at hw
    have hP : va_P D vwCl (xS g k fd cd cr tr_3 ro nw kp qu qd ql kd fm tk mr) H := hP
    have hD : va_D A (xS g k fd cd cr tr_3 ro nw kp qu qd ql kd fm tk mr) := hD
    obtain ⟨h_5, hw⟩ := hw
    exact hret _ _ _ (tr_3, nw, qu, qd, ql) _ _ hP hD hS dX2_refer_31 h_5 hw
  unfold wX2_refer at hw
  suffices main : ∀ (H : Heap) (locs : List Loc), va_P D vwCl (xS g k fd cd cr tr ro nw kp qu qd ql kd fm tk mr) H → va_D A (xS g k fd cd cr tr ro nw kp qu qd ql kd fm tk mr) → va_S A s.heap H locs → W p l e rmX2_refer s m args below meth c H locs 0 0 Q (F0 m 0 ls []) from main _ _ hP hD hS
  intro H locs hP hD hS
  refine lv_aload_n hx hb dX2_refer_0 rfl (lv_at hl 0 rfl) ?_
  refine lv_iload_n hx hb dX2_refer_1 rfl (lv_at hl 1 rfl) ?_
  refine lv_iload_n hx hb dX2_refer_2 rfl (lv_at hl 2 rfl) ?_
  refine pcall (va_runV (As := [.int x1, .int x2]) (rest := []) hC (c_X2_hasWord l D g k fd cd cr tr ro nw kp qu qd ql kd fm tk mr x1 x2 _ hw H) (cwV 2 hts gX2_refer_X2_hasWord rfl rfl rfl (by decide +kernel) ⟨Nat.le_of_ble_eq_true rfl, Nat.le_of_ble_eq_true rfl⟩) (preV_p (va_recv hK hP (ci := 2) (q0 := 0) rfl rfl) hP hK hZ hS) rfl rfl hl.1 rfl (lv_room (Nat.le_of_ble_eq_true rfl)) dX2_refer_3 ⟨Nat.le_of_ble_eq_true rfl, Nat.le_of_ble_eq_true rfl⟩) (fun r_1 hw => ?_)
  refine lv_if_eq (tgt := 26) hx hb dX2_refer_6 (by decide) (fun c_2 => ?_) (fun c_2 => ?_)
  · have hw := hw.1 c_2
    exact B26  tr nw qu qd ql H locs hP hD hS ls (lv_sub hl [0] rfl) hw
  · have hw := hw.2 c_2
    refine lv_iload_n hx hb dX2_refer_9 rfl (lv_at hl 2 rfl) ?_
    refine lv_aload_n hx hb dX2_refer_10 rfl (lv_at hl 0 rfl) ?_
    refine lv_iload_n hx hb dX2_refer_11 rfl (lv_at hl 1 rfl) ?_
    refine pcall (va_runV (As := [.int x1]) (rest := [.int x2]) hC (c_X2_refsOf l D g k fd cd cr tr ro nw kp qu qd ql kd fm tk mr x1 _ hw H) (cwV 1 hts gX2_refer_X2_refsOf rfl rfl rfl (by decide +kernel) ⟨Nat.le_of_ble_eq_true rfl, Nat.le_of_ble_eq_true rfl⟩) (preV_p (va_recv hK hP (ci := 2) (q0 := 0) rfl rfl) hP hK hZ hS) rfl rfl hl.1 rfl (lv_room (Nat.le_of_ble_eq_true rfl)) dX2_refer_12 ⟨Nat.le_of_ble_eq_true rfl, Nat.le_of_ble_eq_true rfl⟩) (fun r_6 hw => ?_)
    refine lv_icmp_ge (tgt := 26) hx hb dX2_refer_15 (by decide) (fun c_7 => ?_) (fun c_7 => ?_)
    · have hw := hw.1 c_7
      exact B26  tr nw qu qd ql H locs hP hD hS ls (lv_sub hl [0] rfl) hw
    · have hw := hw.2 c_7
      refine lv_aload_n hx hb dX2_refer_18 rfl (lv_at hl 0 rfl) ?_
      refine lv_iload_n hx hb dX2_refer_19 rfl (lv_at hl 3 rfl) ?_
      refine pcall (va_runV (As := [.int x3]) (rest := []) hC (c_X2_isTarget l D g k fd cd cr tr ro nw kp qu qd ql kd fm tk mr x3 _ hw H) (cwV 1 hts gX2_refer_X2_isTarget rfl rfl rfl (by decide +kernel) ⟨Nat.le_of_ble_eq_true rfl, Nat.le_of_ble_eq_true rfl⟩) (preV_p (va_recv hK hP (ci := 2) (q0 := 0) rfl rfl) hP hK hZ hS) rfl rfl hl.1 rfl (lv_room (Nat.le_of_ble_eq_true rfl)) dX2_refer_20 ⟨Nat.le_of_ble_eq_true rfl, Nat.le_of_ble_eq_true rfl⟩) (fun r_8 hw => ?_)
      refine lv_if_ne (tgt := 32) hx hb dX2_refer_23 (by decide) (fun c_9 => ?_) (fun c_9 => ?_)
      · have hw := hw.1 c_9
        refine lv_aload_n hx hb dX2_refer_32 rfl (lv_at hl 0 rfl) ?_
        refine va_get (D := D) (ci := 2) (v := .ref (g 2)) (C := RX2) (T := TX2) (N := 7) hx hb hts hinX2 hown hK hP 0 rfl rfl 0 (by decide) (hts (.fieldLink RX2 10 "SlabHeap" "words" "LSlabHeap$Words;") (by decide +kernel)) (fun _ h9 => h9) rfl dX2_refer_33 ?_
        refine lv_iload_n hx hb dX2_refer_36 rfl (lv_at hl 1 rfl) ?_
        refine lv_iload_n hx hb dX2_refer_37 rfl (lv_at hl 2 rfl) ?_
        refine pcall (va_runS (As := [.int x1, .int x2]) (rest := [.ref (g 2)]) hC (c_X2_wordOf l D k x1 x2 _ hw H) (va_cwS 2 hts gX2_refer_X2_wordOf rfl rfl rfl (by decide +kernel) ⟨Nat.le_of_ble_eq_true rfl, Nat.le_of_ble_eq_true rfl⟩) (preS_p (hP.sub [] rfl) hK hZ hS) rfl rfl hl.1 rfl (lv_room (Nat.le_of_ble_eq_true rfl)) dX2_refer_38 ⟨Nat.le_of_ble_eq_true rfl, Nat.le_of_ble_eq_true rfl⟩) (fun r_10 hw => ?_)
        refine lv_iload_n hx hb dX2_refer_41 rfl (lv_at hl 3 rfl) ?_
        refine vcall (wr := [(g 0, .inr (2, [.ref (g 2), .ref (g 7), .ref (g 1), .int fd, .int cd, .int cr, .int tr])), (g 1, .inl (k.1, 2040, .inl ro)), (g 7, .inr (0, [.ref (g 8), .ref (g 9), .ref (g 10), .ref (g 11)])), (g 8, .inl (k.1, 256, .inl kd)), (g 9, .inl (k.1, 256, .inl fm)), (g 10, .inl (k.1, 256, .inl tk)), (g 11, .inl (k.1, 256, .inl mr))]) (va_runV (As := [.int r_10, .int x3]) (rest := []) hC (c_X1_write l D g k nw kp qu qd ql r_10 x3 _ hw H.size) (cwV 2 hts gX2_refer_X1_write rfl rfl rfl (by decide +kernel) ⟨Nat.le_of_ble_eq_true rfl, Nat.le_of_ble_eq_true rfl⟩) (preV_m (va_recv hK hP (ci := 1) (q0 := 2) rfl rfl) hP hD hA hK hZ hS [2, 3, 4, 5, 6] rfl rfl (by decide)) rfl rfl hl.1 rfl (lv_room (Nat.le_of_ble_eq_true rfl)) dX2_refer_42 ⟨Nat.le_of_ble_eq_true rfl, Nat.le_of_ble_eq_true rfl⟩) hP hD hA hS [2, 3, 4, 5, 6] [0, 1, 7, 8, 9, 10, 11] rfl rfl (by decide) (by decide) (fun u' H locs hw hP hD hS => ?_)
        obtain ⟨nw_11, qu_12, qd_13, ql_14⟩ := u'
        try dsimp only at hw
        have hP : va_P D vwCl (xS g k fd cd cr tr ro nw_11 kp qu_12 qd_13 ql_14 kd fm tk mr) H := hP.sub [0, 1, 7, 8, 9, 10, 11, 2, 3, 4, 5, 6] rfl
        have hD : va_D A (xS g k fd cd cr tr ro nw_11 kp qu_12 qd_13 ql_14 kd fm tk mr) := hD.sub [0, 1, 7, 8, 9, 10, 11, 2, 3, 4, 5, 6] (by decide) rfl
        refine lv_aload_n hx hb dX2_refer_45 rfl (lv_at hl 0 rfl) ?_
        refine lv_iconst (v := 0) hx hb dX2_refer_46 (by decide) ?_
        refine icall (wr := []) (va_runV (As := [.int 0]) (rest := []) hC (c_X2_settle l D g k fd cd cr tr ro nw_11 kp qu_12 qd_13 ql_14 kd fm tk mr 0 _ hw H.size) (cwV 1 hts gX2_refer_X2_settle rfl rfl rfl (by decide +kernel) ⟨Nat.le_of_ble_eq_true rfl, Nat.le_of_ble_eq_true rfl⟩) (preV_m (va_recv hK hP (ci := 2) (q0 := 0) rfl rfl) hP hD hA hK hZ hS [0, 1, 2, 3, 4, 5, 6, 7, 8, 9, 10, 11] rfl rfl (by decide)) rfl rfl hl.1 rfl (lv_room (Nat.le_of_ble_eq_true rfl)) dX2_refer_47 ⟨Nat.le_of_ble_eq_true rfl, Nat.le_of_ble_eq_true rfl⟩) hP hD hA hS [0, 1, 2, 3, 4, 5, 6, 7, 8, 9, 10, 11] [] rfl rfl (by decide) (by decide) (fun r_16 u' H locs hw hP hD hS => ?_)
        obtain ⟨tr_15, rfl⟩ : ∃ z, z = u' := ⟨_, rfl⟩
        try dsimp only at hw
        have hP : va_P D vwCl (xS g k fd cd cr tr_15 ro nw_11 kp qu_12 qd_13 ql_14 kd fm tk mr) H := hP
        have hD : va_D A (xS g k fd cd cr tr_15 ro nw_11 kp qu_12 qd_13 ql_14 kd fm tk mr) := hD
        obtain ⟨h_17, hw⟩ := hw
        exact hret _ _ _ (tr_15, nw_11, qu_12, qd_13, ql_14) _ _ hP hD hS dX2_refer_50 h_17 hw
      · have hw := hw.2 c_9
        exact B26  tr nw qu qd ql H locs hP hD hS ls (lv_sub hl [0] rfl) hw
-- X2_get
abbrev rmX2_get : Room := { frames := 4, cells := 0, slots := 0, locals := 86 }
set_option maxHeartbeats 4000000 in
set_option maxRecDepth 100000 in
theorem c_X2_get (l : Launch) (D : va_G) (g : Nat → Nat) (k : xC) (fd : Int32) (cd : Int32) (cr : Int32) (tr : Int32) (ro : Nat → Int32) (nw : Nat → Int32) (kp : Nat → Int32) (qu : Nat → Int32) (qd : Nat → Int32) (ql : Int32) (kd : Nat → Int32) (fm : Nat → Int32) (tk : Nat → Int32) (mr : Nat → Int32) (x1 : Int32) (x2 : Int32) (post : Int32 → Prop) (hw : wX2_get post nw kd fm tk x1 x2) : CPi l yX2_get wsX2_get rmX2_get D k [.ref (g 0), .int x1, .int x2] (xS g k fd cd cr tr ro nw kp qu qd ql kd fm tk mr) post := by
  refine met_pi (cc := cX2_get) (nL := 3) (by decide) rfl (Nat.le_of_ble_eq_true rfl) ?_
  intro p e s m args below meth c Q ls hC hP hK hZ hS hl hret
  obtain ⟨hx, hb, hml, hown, hts⟩ := id hC
  have hC : CallFix p m c cX2_get 3 s args wsX2_get RX2 := hC
  have hown : s.vm.findClass RX2 = some m.cls := hown
  have hl : lv_has ls 3 [(0, .ref (g 0)), (1, .int x1), (2, .int x2)] := hl
  have hinX2 : ∀ w ∈ wsX20, w ∈ wsX2_get := fun _ h => List.mem_cons_of_mem _ (List.mem_append_left _ (List.mem_append_left _ (List.mem_append_right _ h)))
  unfold wX2_get at hw
  refine lv_aload_n hx hb dX2_get_0 rfl (lv_at hl 0 rfl) ?_
  refine lv_iload_n hx hb dX2_get_1 rfl (lv_at hl 1 rfl) ?_
  refine lv_iload_n hx hb dX2_get_2 rfl (lv_at hl 2 rfl) ?_
  refine pcall (va_runV (As := [.int x1, .int x2]) (rest := []) hC (c_X2_hasWord l D g k fd cd cr tr ro nw kp qu qd ql kd fm tk mr x1 x2 _ hw s.heap) (cwV 2 hts gX2_get_X2_hasWord rfl rfl rfl (by decide +kernel) ⟨Nat.le_of_ble_eq_true rfl, Nat.le_of_ble_eq_true rfl⟩) (preV_p (va_recv hK hP (ci := 2) (q0 := 0) rfl rfl) hP hK hZ hS) rfl rfl hl.1 rfl (lv_room (Nat.le_of_ble_eq_true rfl)) dX2_get_3 ⟨Nat.le_of_ble_eq_true rfl, Nat.le_of_ble_eq_true rfl⟩) (fun r_1 hw => ?_)
  refine lv_if_eq (tgt := 24) hx hb dX2_get_6 (by decide) (fun c_2 => ?_) (fun c_2 => ?_)
  · have hw := hw.1 c_2
    refine lv_iconst (v := 0) hx hb dX2_get_24 (by decide) ?_
    exact hret _ _ _ dX2_get_25 hw
  · have hw := hw.2 c_2
    refine lv_aload_n hx hb dX2_get_9 rfl (lv_at hl 0 rfl) ?_
    refine va_get (D := D) (ci := 2) (v := .ref (g 2)) (C := RX2) (T := TX2) (N := 7) hx hb hts hinX2 hown hK hP 0 rfl rfl 0 (by decide) (hts (.fieldLink RX2 10 "SlabHeap" "words" "LSlabHeap$Words;") (by decide +kernel)) (fun _ h9 => h9) rfl dX2_get_10 ?_
    refine lv_iload_n hx hb dX2_get_13 rfl (lv_at hl 1 rfl) ?_
    refine lv_iload_n hx hb dX2_get_14 rfl (lv_at hl 2 rfl) ?_
    refine pcall (va_runS (As := [.int x1, .int x2]) (rest := [.ref (g 2)]) hC (c_X2_wordOf l D k x1 x2 _ hw s.heap) (va_cwS 2 hts gX2_get_X2_wordOf rfl rfl rfl (by decide +kernel) ⟨Nat.le_of_ble_eq_true rfl, Nat.le_of_ble_eq_true rfl⟩) (preS_p (hP.sub [] rfl) hK hZ hS) rfl rfl hl.1 rfl (lv_room (Nat.le_of_ble_eq_true rfl)) dX2_get_15 ⟨Nat.le_of_ble_eq_true rfl, Nat.le_of_ble_eq_true rfl⟩) (fun r_3 hw => ?_)
    refine pcall (va_runV (As := [.int r_3]) (rest := []) hC (c_X1_at l D g k nw kp qu qd ql r_3 _ hw s.heap) (cwV 1 hts gX2_get_X1_at rfl rfl rfl (by decide +kernel) ⟨Nat.le_of_ble_eq_true rfl, Nat.le_of_ble_eq_true rfl⟩) (preV_p (va_recv hK hP (ci := 1) (q0 := 2) rfl rfl) (hP.sub [2, 3, 4, 5, 6] rfl) hK hZ hS) rfl rfl hl.1 rfl (lv_room (Nat.le_of_ble_eq_true rfl)) dX2_get_18 ⟨Nat.le_of_ble_eq_true rfl, Nat.le_of_ble_eq_true rfl⟩) (fun r_4 hw => ?_)
    refine lv_goto (tgt := 25) hx hb dX2_get_21 (by decide) ?_
    exact hret _ _ _ dX2_get_25 hw
-- X2_root
abbrev rmX2_root : Room := { frames := 4, cells := 0, slots := 0, locals := 85 }
set_option maxHeartbeats 4000000 in
set_option maxRecDepth 100000 in
theorem c_X2_root (l : Launch) (D : va_G) (g : Nat → Nat) (k : xC) (fd : Int32) (cd : Int32) (cr : Int32) (tr : Int32) (ro : Nat → Int32) (nw : Nat → Int32) (kp : Nat → Int32) (qu : Nat → Int32) (qd : Nat → Int32) (ql : Int32) (kd : Nat → Int32) (fm : Nat → Int32) (tk : Nat → Int32) (mr : Nat → Int32) (x1 : Int32) (x2 : Int32) (post : Int32 → Int32 → (Nat → Int32) → (Nat → Int32) → (Nat → Int32) → Int32 → Prop) (hw : wX2_root post tr nw qu qd ql kd fm tk x1 x2) : CMi l yX2_root wsX2_root rmX2_root D k [.ref (g 0), .int x1, .int x2] (fun v : Int32 × (Nat → Int32) × (Nat → Int32) × (Nat → Int32) × Int32 => (xS g k fd cd cr (v.1) ro (v.2.1) kp (v.2.2.1) (v.2.2.2.1) (v.2.2.2.2) kd fm tk mr)) (tr, nw, qu, qd, ql) (fun r v => post r (v.1) (v.2.1) (v.2.2.1) (v.2.2.2.1) (v.2.2.2.2)) := by
  refine met_mz (cc := cX2_root) (nL := 3) (by decide) rfl (Nat.le_of_ble_eq_true rfl) ?_
  intro p e s m args below meth c Q A ls hC hP hD hA hK hZ hS hl hret
  obtain ⟨hx, hb, hml, hown, hts⟩ := id hC
  have hC : CallFix p m c cX2_root 3 s args wsX2_root RX2 := hC
  have hown : s.vm.findClass RX2 = some m.cls := hown
  have hl : lv_has ls 3 [(0, .ref (g 0)), (1, .int x1), (2, .int x2)] := hl
  have hP : va_P D vwCl (xS g k fd cd cr tr ro nw kp qu qd ql kd fm tk mr) s.heap := hP
  have hD : va_D A (xS g k fd cd cr tr ro nw kp qu qd ql kd fm tk mr) := hD
  have hinX2 : ∀ w ∈ wsX20, w ∈ wsX2_root := fun _ h => List.mem_cons_of_mem _ (List.mem_append_left _ (List.mem_append_left _ (List.mem_append_right _ h)))
  have B15 : ∀ (tr : Int32), ∀ (nw : Nat → Int32), ∀ (qu : Nat → Int32), ∀ (qd : Nat → Int32), ∀ (ql : Int32), ∀ (H : Heap) (locs : List Loc), va_P D vwCl (xS g k fd cd cr tr ro nw kp qu qd ql kd fm tk mr) H → va_D A (xS g k fd cd cr tr ro nw kp qu qd ql kd fm tk mr) → va_S A s.heap H locs → ∀ (ls : Array Slot), lv_has ls 3 [(0, .ref (g 0))] → wX2_root_15 post kd fm tk tr nw qu qd ql → W p l e rmX2_root s m args below meth c H locs 0 0 Q (F0 m 15 ls []) := by
    intro  tr nw qu qd ql H locs hP hD hS ls hl hw
    unfold wX2_root_15 at hw
    refine lv_aload_n hx hb dX2_root_15 rfl (lv_at hl 0 rfl) ?_
    refine lv_iconst (v := 2) hx hb dX2_root_16 (by decide) ?_
    refine icall (wr := []) (va_runV (As := [.int 2]) (rest := []) hC (c_X2_settle l D g k fd cd cr tr ro nw kp qu qd ql kd fm tk mr 2 _ hw H.size) (cwV 1 hts gX2_root_X2_settle rfl rfl rfl (by decide +kernel) ⟨Nat.le_of_ble_eq_true rfl, Nat.le_of_ble_eq_true rfl⟩) (preV_m (va_recv hK hP (ci := 2) (q0 := 0) rfl rfl) hP hD hA hK hZ hS [0, 1, 2, 3, 4, 5, 6, 7, 8, 9, 10, 11] rfl rfl (by decide)) rfl rfl hl.1 rfl (lv_room (Nat.le_of_ble_eq_true rfl)) dX2_root_17 ⟨Nat.le_of_ble_eq_true rfl, Nat.le_of_ble_eq_true rfl⟩) hP hD hA hS [0, 1, 2, 3, 4, 5, 6, 7, 8, 9, 10, 11] [] rfl rfl (by decide) (by decide) (fun r_4 u' H locs hw hP hD hS => ?_)
    obtain ⟨tr_3, rfl⟩ : ∃ z, z = u' := ⟨_, rfl⟩
    try dsimp only at hw
    have hP : va_P D vwCl (xS g k fd cd cr tr_3 ro nw kp qu qd ql kd fm tk mr) H := hP
    have hD : va_D A (xS g k fd cd cr tr_3 ro nw kp qu qd ql kd fm tk mr) := hD
    obtain ⟨h_5, hw⟩ := hw
    exact hret _ _ _ (tr_3, nw, qu, qd, ql) _ _ hP hD hS dX2_root_20 h_5 hw
  unfold wX2_root at hw
  suffices main : ∀ (H : Heap) (locs : List Loc), va_P D vwCl (xS g k fd cd cr tr ro nw kp qu qd ql kd fm tk mr) H → va_D A (xS g k fd cd cr tr ro nw kp qu qd ql kd fm tk mr) → va_S A s.heap H locs → W p l e rmX2_root s m args below meth c H locs 0 0 Q (F0 m 0 ls []) from main _ _ hP hD hS
  intro H locs hP hD hS
  refine lv_iload_n hx hb dX2_root_0 rfl (lv_at hl 1 rfl) ?_
  refine pcall (va_runS (As := [.int x1]) (rest := []) hC (c_X2_isRoot l D k x1 _ hw H) (va_cwS 1 hts gX2_root_X2_isRoot rfl rfl rfl (by decide +kernel) ⟨Nat.le_of_ble_eq_true rfl, Nat.le_of_ble_eq_true rfl⟩) (preS_p (hP.sub [] rfl) hK hZ hS) rfl rfl hl.1 rfl (lv_room (Nat.le_of_ble_eq_true rfl)) dX2_root_1 ⟨Nat.le_of_ble_eq_true rfl, Nat.le_of_ble_eq_true rfl⟩) (fun r_1 hw => ?_)
  refine lv_if_eq (tgt := 15) hx hb dX2_root_4 (by decide) (fun c_2 => ?_) (fun c_2 => ?_)
  · have hw := hw.1 c_2
    exact B15  tr nw qu qd ql H locs hP hD hS ls (lv_sub hl [0] rfl) hw
  · have hw := hw.2 c_2
    refine lv_aload_n hx hb dX2_root_7 rfl (lv_at hl 0 rfl) ?_
    refine lv_iload_n hx hb dX2_root_8 rfl (lv_at hl 2 rfl) ?_
    refine pcall (va_runV (As := [.int x2]) (rest := []) hC (c_X2_isTarget l D g k fd cd cr tr ro nw kp qu qd ql kd fm tk mr x2 _ hw H) (cwV 1 hts gX2_root_X2_isTarget rfl rfl rfl (by decide +kernel) ⟨Nat.le_of_ble_eq_true rfl, Nat.le_of_ble_eq_true rfl⟩) (preV_p (va_recv hK hP (ci := 2) (q0 := 0) rfl rfl) hP hK hZ hS) rfl rfl hl.1 rfl (lv_room (Nat.le_of_ble_eq_true rfl)) dX2_root_9 ⟨Nat.le_of_ble_eq_true rfl, Nat.le_of_ble_eq_true rfl⟩) (fun r_6 hw => ?_)
    refine lv_if_ne (tgt := 21) hx hb dX2_root_12 (by decide) (fun c_7 => ?_) (fun c_7 => ?_)
    · have hw := hw.1 c_7
      refine lv_aload_n hx hb dX2_root_21 rfl (lv_at hl 0 rfl) ?_
      refine va_get (D := D) (ci := 2) (v := .ref (g 2)) (C := RX2) (T := TX2) (N := 7) hx hb hts hinX2 hown hK hP 0 rfl rfl 0 (by decide) (hts (.fieldLink RX2 10 "SlabHeap" "words" "LSlabHeap$Words;") (by decide +kernel)) (fun _ h9 => h9) rfl dX2_root_22 ?_
      refine lv_iconst (v := 1) hx hb dX2_root_25 (by decide) ?_
      refine lv_iload_n hx hb dX2_root_26 rfl (lv_at hl 1 rfl) ?_
      refine lv_iadd hx hb dX2_root_27 ?_
      refine lv_iload_n hx hb dX2_root_28 rfl (lv_at hl 2 rfl) ?_
      refine vcall (wr := [(g 0, .inr (2, [.ref (g 2), .ref (g 7), .ref (g 1), .int fd, .int cd, .int cr, .int tr])), (g 1, .inl (k.1, 2040, .inl ro)), (g 7, .inr (0, [.ref (g 8), .ref (g 9), .ref (g 10), .ref (g 11)])), (g 8, .inl (k.1, 256, .inl kd)), (g 9, .inl (k.1, 256, .inl fm)), (g 10, .inl (k.1, 256, .inl tk)), (g 11, .inl (k.1, 256, .inl mr))]) (va_runV (As := [.int (1 + x1), .int x2]) (rest := []) hC (c_X1_write l D g k nw kp qu qd ql (1 + x1) x2 _ hw H.size) (cwV 2 hts gX2_root_X1_write rfl rfl rfl (by decide +kernel) ⟨Nat.le_of_ble_eq_true rfl, Nat.le_of_ble_eq_true rfl⟩) (preV_m (va_recv hK hP (ci := 1) (q0 := 2) rfl rfl) hP hD hA hK hZ hS [2, 3, 4, 5, 6] rfl rfl (by decide)) rfl rfl hl.1 rfl (lv_room (Nat.le_of_ble_eq_true rfl)) dX2_root_29 ⟨Nat.le_of_ble_eq_true rfl, Nat.le_of_ble_eq_true rfl⟩) hP hD hA hS [2, 3, 4, 5, 6] [0, 1, 7, 8, 9, 10, 11] rfl rfl (by decide) (by decide) (fun u' H locs hw hP hD hS => ?_)
      obtain ⟨nw_8, qu_9, qd_10, ql_11⟩ := u'
      try dsimp only at hw
      have hP : va_P D vwCl (xS g k fd cd cr tr ro nw_8 kp qu_9 qd_10 ql_11 kd fm tk mr) H := hP.sub [0, 1, 7, 8, 9, 10, 11, 2, 3, 4, 5, 6] rfl
      have hD : va_D A (xS g k fd cd cr tr ro nw_8 kp qu_9 qd_10 ql_11 kd fm tk mr) := hD.sub [0, 1, 7, 8, 9, 10, 11, 2, 3, 4, 5, 6] (by decide) rfl
      refine lv_aload_n hx hb dX2_root_32 rfl (lv_at hl 0 rfl) ?_
      refine lv_iconst (v := 0) hx hb dX2_root_33 (by decide) ?_
      refine icall (wr := []) (va_runV (As := [.int 0]) (rest := []) hC (c_X2_settle l D g k fd cd cr tr ro nw_8 kp qu_9 qd_10 ql_11 kd fm tk mr 0 _ hw H.size) (cwV 1 hts gX2_root_X2_settle rfl rfl rfl (by decide +kernel) ⟨Nat.le_of_ble_eq_true rfl, Nat.le_of_ble_eq_true rfl⟩) (preV_m (va_recv hK hP (ci := 2) (q0 := 0) rfl rfl) hP hD hA hK hZ hS [0, 1, 2, 3, 4, 5, 6, 7, 8, 9, 10, 11] rfl rfl (by decide)) rfl rfl hl.1 rfl (lv_room (Nat.le_of_ble_eq_true rfl)) dX2_root_34 ⟨Nat.le_of_ble_eq_true rfl, Nat.le_of_ble_eq_true rfl⟩) hP hD hA hS [0, 1, 2, 3, 4, 5, 6, 7, 8, 9, 10, 11] [] rfl rfl (by decide) (by decide) (fun r_13 u' H locs hw hP hD hS => ?_)
      obtain ⟨tr_12, rfl⟩ : ∃ z, z = u' := ⟨_, rfl⟩
      try dsimp only at hw
      have hP : va_P D vwCl (xS g k fd cd cr tr_12 ro nw_8 kp qu_9 qd_10 ql_11 kd fm tk mr) H := hP
      have hD : va_D A (xS g k fd cd cr tr_12 ro nw_8 kp qu_9 qd_10 ql_11 kd fm tk mr) := hD
      obtain ⟨h_14, hw⟩ := hw
      exact hret _ _ _ (tr_12, nw_8, qu_9, qd_10, ql_11) _ _ hP hD hS dX2_root_37 h_14 hw
    · have hw := hw.2 c_7
      exact B15  tr nw qu qd ql H locs hP hD hS ls (lv_sub hl [0] rfl) hw
-- X2_rootOf
abbrev rmX2_rootOf : Room := { frames := 2, cells := 0, slots := 0, locals := 41 }
set_option maxHeartbeats 4000000 in
set_option maxRecDepth 100000 in
theorem c_X2_rootOf (l : Launch) (D : va_G) (g : Nat → Nat) (k : xC) (fd : Int32) (cd : Int32) (cr : Int32) (tr : Int32) (ro : Nat → Int32) (nw : Nat → Int32) (kp : Nat → Int32) (qu : Nat → Int32) (qd : Nat → Int32) (ql : Int32) (kd : Nat → Int32) (fm : Nat → Int32) (tk : Nat → Int32) (mr : Nat → Int32) (x1 : Int32) (post : Int32 → Prop) (hw : wX2_rootOf post nw x1) : CPi l yX2_rootOf wsX2_rootOf rmX2_rootOf D k [.ref (g 0), .int x1] (xS g k fd cd cr tr ro nw kp qu qd ql kd fm tk mr) post := by
  refine met_pi (cc := cX2_rootOf) (nL := 2) (by decide) rfl (Nat.le_of_ble_eq_true rfl) ?_
  intro p e s m args below meth c Q ls hC hP hK hZ hS hl hret
  obtain ⟨hx, hb, hml, hown, hts⟩ := id hC
  have hC : CallFix p m c cX2_rootOf 2 s args wsX2_rootOf RX2 := hC
  have hown : s.vm.findClass RX2 = some m.cls := hown
  have hl : lv_has ls 2 [(0, .ref (g 0)), (1, .int x1)] := hl
  have hinX2 : ∀ w ∈ wsX20, w ∈ wsX2_rootOf := fun _ h => List.mem_cons_of_mem _ (List.mem_append_left _ (List.mem_append_right _ h))
  unfold wX2_rootOf at hw
  refine lv_iload_n hx hb dX2_rootOf_0 rfl (lv_at hl 1 rfl) ?_
  refine pcall (va_runS (As := [.int x1]) (rest := []) hC (c_X2_isRoot l D k x1 _ hw s.heap) (va_cwS 1 hts gX2_rootOf_X2_isRoot rfl rfl rfl (by decide +kernel) ⟨Nat.le_of_ble_eq_true rfl, Nat.le_of_ble_eq_true rfl⟩) (preS_p (hP.sub [] rfl) hK hZ hS) rfl rfl hl.1 rfl (lv_room (Nat.le_of_ble_eq_true rfl)) dX2_rootOf_1 ⟨Nat.le_of_ble_eq_true rfl, Nat.le_of_ble_eq_true rfl⟩) (fun r_1 hw => ?_)
  refine lv_if_eq (tgt := 20) hx hb dX2_rootOf_4 (by decide) (fun c_2 => ?_) (fun c_2 => ?_)
  · have hw := hw.1 c_2
    refine lv_iconst (v := (-1)) hx hb dX2_rootOf_20 (by decide) ?_
    exact hret _ _ _ dX2_rootOf_21 hw
  · have hw := hw.2 c_2
    refine lv_aload_n hx hb dX2_rootOf_7 rfl (lv_at hl 0 rfl) ?_
    refine va_get (D := D) (ci := 2) (v := .ref (g 2)) (C := RX2) (T := TX2) (N := 7) hx hb hts hinX2 hown hK hP 0 rfl rfl 0 (by decide) (hts (.fieldLink RX2 10 "SlabHeap" "words" "LSlabHeap$Words;") (by decide +kernel)) (fun _ h9 => h9) rfl dX2_rootOf_8 ?_
    refine lv_iconst (v := 1) hx hb dX2_rootOf_11 (by decide) ?_
    refine lv_iload_n hx hb dX2_rootOf_12 rfl (lv_at hl 1 rfl) ?_
    refine lv_iadd hx hb dX2_rootOf_13 ?_
    refine pcall (va_runV (As := [.int (1 + x1)]) (rest := []) hC (c_X1_at l D g k nw kp qu qd ql (1 + x1) _ hw s.heap) (cwV 1 hts gX2_rootOf_X1_at rfl rfl rfl (by decide +kernel) ⟨Nat.le_of_ble_eq_true rfl, Nat.le_of_ble_eq_true rfl⟩) (preV_p (va_recv hK hP (ci := 1) (q0 := 2) rfl rfl) (hP.sub [2, 3, 4, 5, 6] rfl) hK hZ hS) rfl rfl hl.1 rfl (lv_room (Nat.le_of_ble_eq_true rfl)) dX2_rootOf_14 ⟨Nat.le_of_ble_eq_true rfl, Nat.le_of_ble_eq_true rfl⟩) (fun r_3 hw => ?_)
    refine lv_goto (tgt := 21) hx hb dX2_rootOf_17 (by decide) ?_
    exact hret _ _ _ dX2_rootOf_21 hw
-- X2_fence
abbrev rmX2_fence : Room := { frames := 3, cells := 0, slots := 0, locals := 68 }
set_option maxHeartbeats 4000000 in
set_option maxRecDepth 100000 in
theorem c_X2_fence (l : Launch) (D : va_G) (g : Nat → Nat) (k : xC) (fd : Int32) (cd : Int32) (cr : Int32) (tr : Int32) (ro : Nat → Int32) (nw : Nat → Int32) (kp : Nat → Int32) (qu : Nat → Int32) (qd : Nat → Int32) (ql : Int32) (kd : Nat → Int32) (fm : Nat → Int32) (tk : Nat → Int32) (mr : Nat → Int32)  (post : Int32 → (Nat → Int32) → (Nat → Int32) → (Nat → Int32) → Int32 → Prop) (hw : wX2_fence post nw kp qu qd ql) : CMi l yX2_fence wsX2_fence rmX2_fence D k [.ref (g 0)] (fun v : (Nat → Int32) × (Nat → Int32) × (Nat → Int32) × Int32 => (xS g k fd cd cr tr ro (v.1) (v.2.1) qu (v.2.2.1) (v.2.2.2) kd fm tk mr)) (nw, kp, qd, ql) (fun r v => post r (v.1) (v.2.1) (v.2.2.1) (v.2.2.2)) := by
  refine met_mi (cc := cX2_fence) (nL := 1) (by decide) rfl (Nat.le_of_ble_eq_true rfl) ?_
  intro p e s m args below meth c Q A ls hC hP hD hA hK hZ hS hl hret
  obtain ⟨hx, hb, hml, hown, hts⟩ := id hC
  have hC : CallFix p m c cX2_fence 1 s args wsX2_fence RX2 := hC
  have hown : s.vm.findClass RX2 = some m.cls := hown
  have hl : lv_has ls 1 [(0, .ref (g 0))] := hl
  have hP : va_P D vwCl (xS g k fd cd cr tr ro nw kp qu qd ql kd fm tk mr) s.heap := hP
  have hD : va_D A (xS g k fd cd cr tr ro nw kp qu qd ql kd fm tk mr) := hD
  have hinX2 : ∀ w ∈ wsX20, w ∈ wsX2_fence := fun _ h => List.mem_cons_of_mem _ (List.mem_append_left _ (List.mem_append_right _ h))
  unfold wX2_fence at hw
  suffices main : ∀ (H : Heap) (locs : List Loc), va_P D vwCl (xS g k fd cd cr tr ro nw kp qu qd ql kd fm tk mr) H → va_D A (xS g k fd cd cr tr ro nw kp qu qd ql kd fm tk mr) → va_S A s.heap H locs → W p l e rmX2_fence s m args below meth c H locs 0 0 Q (F0 m 0 ls []) from main _ _ hP hD hS
  intro H locs hP hD hS
  refine lv_aload_n hx hb dX2_fence_0 rfl (lv_at hl 0 rfl) ?_
  refine va_get (D := D) (ci := 2) (v := .ref (g 2)) (C := RX2) (T := TX2) (N := 7) hx hb hts hinX2 hown hK hP 0 rfl rfl 0 (by decide) (hts (.fieldLink RX2 10 "SlabHeap" "words" "LSlabHeap$Words;") (by decide +kernel)) (fun _ h9 => h9) rfl dX2_fence_1 ?_
  refine icall (wr := [(g 0, .inr (2, [.ref (g 2), .ref (g 7), .ref (g 1), .int fd, .int cd, .int cr, .int tr])), (g 1, .inl (k.1, 2040, .inl ro)), (g 7, .inr (0, [.ref (g 8), .ref (g 9), .ref (g 10), .ref (g 11)])), (g 8, .inl (k.1, 256, .inl kd)), (g 9, .inl (k.1, 256, .inl fm)), (g 10, .inl (k.1, 256, .inl tk)), (g 11, .inl (k.1, 256, .inl mr))]) (va_runV (As := []) (rest := []) hC (c_X1_keepAll l D g k nw kp qu qd ql _ hw H.size) (cwV 0 hts gX2_fence_X1_keepAll rfl rfl rfl (by decide +kernel) ⟨Nat.le_of_ble_eq_true rfl, Nat.le_of_ble_eq_true rfl⟩) (preV_m (va_recv hK hP (ci := 1) (q0 := 2) rfl rfl) hP hD hA hK hZ hS [2, 3, 4, 5, 6] rfl rfl (by decide)) rfl rfl hl.1 rfl (lv_room (Nat.le_of_ble_eq_true rfl)) dX2_fence_4 ⟨Nat.le_of_ble_eq_true rfl, Nat.le_of_ble_eq_true rfl⟩) hP hD hA hS [2, 3, 4, 5, 6] [0, 1, 7, 8, 9, 10, 11] rfl rfl (by decide) (by decide) (fun r_5 u' H locs hw hP hD hS => ?_)
  obtain ⟨nw_1, kp_2, qd_3, ql_4⟩ := u'
  try dsimp only at hw
  have hP : va_P D vwCl (xS g k fd cd cr tr ro nw_1 kp_2 qu qd_3 ql_4 kd fm tk mr) H := hP.sub [0, 1, 7, 8, 9, 10, 11, 2, 3, 4, 5, 6] rfl
  have hD : va_D A (xS g k fd cd cr tr ro nw_1 kp_2 qu qd_3 ql_4 kd fm tk mr) := hD.sub [0, 1, 7, 8, 9, 10, 11, 2, 3, 4, 5, 6] (by decide) rfl
  exact hret _ _ _ (nw_1, kp_2, qd_3, ql_4) _ _ hP hD hS dX2_fence_7 hw
-- X2_canRevive
abbrev rmX2_canRevive : Room := { frames := 3, cells := 0, slots := 0, locals := 70 }
set_option maxHeartbeats 4000000 in
set_option maxRecDepth 100000 in
theorem c_X2_canRevive (l : Launch) (D : va_G) (g : Nat → Nat) (k : xC) (fd : Int32) (cd : Int32) (cr : Int32) (tr : Int32) (ro : Nat → Int32) (nw : Nat → Int32) (kp : Nat → Int32) (qu : Nat → Int32) (qd : Nat → Int32) (ql : Int32) (kd : Nat → Int32) (fm : Nat → Int32) (tk : Nat → Int32) (mr : Nat → Int32) (x1 : Int32) (post : Int32 → Prop) (hw : wX2_canRevive post nw kd fm x1) : CPi l yX2_canRevive wsX2_canRevive rmX2_canRevive D k [.ref (g 0), .int x1] (xS g k fd cd cr tr ro nw kp qu qd ql kd fm tk mr) post := by
  refine met_pz (cc := cX2_canRevive) (nL := 4) (by decide) rfl (Nat.le_of_ble_eq_true rfl) ?_
  intro p e s m args below meth c Q ls hC hP hK hZ hS hl hret
  obtain ⟨hx, hb, hml, hown, hts⟩ := id hC
  have hC : CallFix p m c cX2_canRevive 4 s args wsX2_canRevive RX2 := hC
  have hown : s.vm.findClass RX2 = some m.cls := hown
  have hl : lv_has ls 4 [(0, .ref (g 0)), (1, .int x1)] := hl
  have hinX2 : ∀ w ∈ wsX20, w ∈ wsX2_canRevive := fun _ h => List.mem_cons_of_mem _ (List.mem_append_left _ (List.mem_append_left _ (List.mem_append_right _ h)))
  unfold wX2_canRevive at hw
  refine lv_iload_n hx hb dX2_canRevive_0 rfl (lv_at hl 1 rfl) ?_
  refine lv_bipush (v := 16) hx hb dX2_canRevive_1 (by decide) ?_
  refine lv_icmp_lt (tgt := 13) hx hb dX2_canRevive_3 (by decide) (fun c_1 => ?_) (fun c_1 => ?_)
  · have hw := hw.1 c_1
    refine lv_iconst (v := 0) hx hb dX2_canRevive_13 (by decide) ?_
    exact hret _ _ _ dX2_canRevive_14 nb_0 hw
  · have hw := hw.2 c_1
    refine lv_iload_n hx hb dX2_canRevive_6 rfl (lv_at hl 1 rfl) ?_
    refine lv_sipush (v := 4096) hx hb dX2_canRevive_7 (by decide) ?_
    refine lv_icmp_lt (tgt := 15) hx hb dX2_canRevive_10 (by decide) (fun c_2 => ?_) (fun c_2 => ?_)
    · have hw := hw.1 c_2
      refine lv_aload_n hx hb dX2_canRevive_15 rfl (lv_at hl 0 rfl) ?_
      refine lv_iload_n hx hb dX2_canRevive_16 rfl (lv_at hl 1 rfl) ?_
      refine pcall (va_runV (As := [.int x1]) (rest := []) hC (c_X2_sizeOf l D g k fd cd cr tr ro nw kp qu qd ql kd fm tk mr x1 _ hw s.heap) (cwV 1 hts gX2_canRevive_X2_sizeOf rfl rfl rfl (by decide +kernel) ⟨Nat.le_of_ble_eq_true rfl, Nat.le_of_ble_eq_true rfl⟩) (preV_p (va_recv hK hP (ci := 2) (q0 := 0) rfl rfl) hP hK hZ hS) rfl rfl hl.1 rfl (lv_room (Nat.le_of_ble_eq_true rfl)) dX2_canRevive_17 ⟨Nat.le_of_ble_eq_true rfl, Nat.le_of_ble_eq_true rfl⟩) (fun r_3 hw => ?_)
      refine lv_istore_n (lv' := [(2, .int r_3), (0, .ref (g 0)), (1, .int x1)]) hx hb dX2_canRevive_20 rfl hl (by decide) rfl (fun ls hl => ?_)
      refine lv_aload_n hx hb dX2_canRevive_21 rfl (lv_at hl 1 rfl) ?_
      refine lv_iload_n hx hb dX2_canRevive_22 rfl (lv_at hl 2 rfl) ?_
      refine pcall (va_runV (As := [.int x1]) (rest := []) hC (c_X2_refsOf l D g k fd cd cr tr ro nw kp qu qd ql kd fm tk mr x1 _ hw s.heap) (cwV 1 hts gX2_canRevive_X2_refsOf rfl rfl rfl (by decide +kernel) ⟨Nat.le_of_ble_eq_true rfl, Nat.le_of_ble_eq_true rfl⟩) (preV_p (va_recv hK hP (ci := 2) (q0 := 0) rfl rfl) hP hK hZ hS) rfl rfl hl.1 rfl (lv_room (Nat.le_of_ble_eq_true rfl)) dX2_canRevive_23 ⟨Nat.le_of_ble_eq_true rfl, Nat.le_of_ble_eq_true rfl⟩) (fun r_4 hw => ?_)
      refine lv_istore_n (lv' := [(3, .int r_4), (2, .int r_3), (0, .ref (g 0)), (1, .int x1)]) hx hb dX2_canRevive_26 rfl hl (by decide) rfl (fun ls hl => ?_)
      refine lv_iload_n hx hb dX2_canRevive_27 rfl (lv_at hl 1 rfl) ?_
      refine lv_iload_n hx hb dX2_canRevive_28 rfl (lv_at hl 0 rfl) ?_
      refine pcall (va_runS (As := [.int r_3, .int r_4]) (rest := []) hC (c_X2_isShape l D k r_3 r_4 _ hw s.heap) (va_cwS 2 hts gX2_canRevive_X2_isShape rfl rfl rfl (by decide +kernel) ⟨Nat.le_of_ble_eq_true rfl, Nat.le_of_ble_eq_true rfl⟩) (preS_p (hP.sub [] rfl) hK hZ hS) rfl rfl hl.1 rfl (lv_room (Nat.le_of_ble_eq_true rfl)) dX2_canRevive_29 ⟨Nat.le_of_ble_eq_true rfl, Nat.le_of_ble_eq_true rfl⟩) (fun r_5 hw => ?_)
      refine lv_if_eq (tgt := 68) hx hb dX2_canRevive_32 (by decide) (fun c_6 => ?_) (fun c_6 => ?_)
      · have hw := hw.1 c_6
        refine lv_iconst (v := 0) hx hb dX2_canRevive_68 (by decide) ?_
        exact hret _ _ _ dX2_canRevive_69 nb_0 hw
      · have hw := hw.2 c_6
        refine lv_aload_n hx hb dX2_canRevive_35 rfl (lv_at hl 2 rfl) ?_
        refine va_get (D := D) (ci := 2) (v := .ref (g 2)) (C := RX2) (T := TX2) (N := 7) hx hb hts hinX2 hown hK hP 0 rfl rfl 0 (by decide) (hts (.fieldLink RX2 10 "SlabHeap" "words" "LSlabHeap$Words;") (by decide +kernel)) (fun _ h9 => h9) rfl dX2_canRevive_36 ?_
        refine lv_iload_n hx hb dX2_canRevive_39 rfl (lv_at hl 3 rfl) ?_
        refine pcall (va_runV (As := [.int x1]) (rest := []) hC (c_X1_at l D g k nw kp qu qd ql x1 _ hw s.heap) (cwV 1 hts gX2_canRevive_X1_at rfl rfl rfl (by decide +kernel) ⟨Nat.le_of_ble_eq_true rfl, Nat.le_of_ble_eq_true rfl⟩) (preV_p (va_recv hK hP (ci := 1) (q0 := 2) rfl rfl) (hP.sub [2, 3, 4, 5, 6] rfl) hK hZ hS) rfl rfl hl.1 rfl (lv_room (Nat.le_of_ble_eq_true rfl)) dX2_canRevive_40 ⟨Nat.le_of_ble_eq_true rfl, Nat.le_of_ble_eq_true rfl⟩) (fun r_7 hw => ?_)
        refine lv_iload_n hx hb dX2_canRevive_43 rfl (lv_at hl 3 rfl) ?_
        refine lv_iload_n hx hb dX2_canRevive_44 rfl (lv_at hl 1 rfl) ?_
        refine lv_iload_n hx hb dX2_canRevive_45 rfl (lv_at hl 0 rfl) ?_
        refine pcall (va_runS (As := [.int x1, .int r_3, .int r_4]) (rest := [.int r_7]) hC (c_X2_headOf l D k x1 r_3 r_4 _ hw s.heap) (va_cwS 3 hts gX2_canRevive_X2_headOf rfl rfl rfl (by decide +kernel) ⟨Nat.le_of_ble_eq_true rfl, Nat.le_of_ble_eq_true rfl⟩) (preS_p (hP.sub [] rfl) hK hZ hS) rfl rfl hl.1 rfl (lv_room (Nat.le_of_ble_eq_true rfl)) dX2_canRevive_46 ⟨Nat.le_of_ble_eq_true rfl, Nat.le_of_ble_eq_true rfl⟩) (fun r_8 hw => ?_)
        refine lv_icmp_ne (tgt := 68) hx hb dX2_canRevive_49 (by decide) (fun c_9 => ?_) (fun c_9 => ?_)
        · have hw := hw.1 c_9
          refine lv_iconst (v := 0) hx hb dX2_canRevive_68 (by decide) ?_
          exact hret _ _ _ dX2_canRevive_69 nb_0 hw
        · have hw := hw.2 c_9
          refine lv_aload_n hx hb dX2_canRevive_52 rfl (lv_at hl 2 rfl) ?_
          refine va_get (D := D) (ci := 2) (v := .ref (g 7)) (C := RX2) (T := TX2) (N := 7) hx hb hts hinX2 hown hK hP 0 rfl rfl 1 (by decide) (hts (.fieldLink RX2 19 "SlabHeap" "pages" "LSlabHeap$Pages;") (by decide +kernel)) (fun _ h9 => h9) rfl dX2_canRevive_53 ?_
          refine lv_iload_n hx hb dX2_canRevive_56 rfl (lv_at hl 3 rfl) ?_
          refine lv_iload_n hx hb dX2_canRevive_57 rfl (lv_at hl 1 rfl) ?_
          refine pcall (va_runV (As := [.int x1, .int r_3]) (rest := []) hC (c_X0_canHold l D g k kd fm tk mr x1 r_3 _ hw s.heap) (cwV 2 hts gX2_canRevive_X0_canHold rfl rfl rfl (by decide +kernel) ⟨Nat.le_of_ble_eq_true rfl, Nat.le_of_ble_eq_true rfl⟩) (preV_p (va_recv hK hP (ci := 0) (q0 := 7) rfl rfl) (hP.sub [7, 8, 9, 10, 11] rfl) hK hZ hS) rfl rfl hl.1 rfl (lv_room (Nat.le_of_ble_eq_true rfl)) dX2_canRevive_58 ⟨Nat.le_of_ble_eq_true rfl, Nat.le_of_ble_eq_true rfl⟩) (fun r_10 hw => ?_)
          refine lv_if_eq (tgt := 68) hx hb dX2_canRevive_61 (by decide) (fun c_11 => ?_) (fun c_11 => ?_)
          · have hw := hw.1 c_11
            refine lv_iconst (v := 0) hx hb dX2_canRevive_68 (by decide) ?_
            exact hret _ _ _ dX2_canRevive_69 nb_0 hw
          · have hw := hw.2 c_11
            refine lv_iconst (v := 1) hx hb dX2_canRevive_64 (by decide) ?_
            refine lv_goto (tgt := 69) hx hb dX2_canRevive_65 (by decide) ?_
            exact hret _ _ _ dX2_canRevive_69 nb_1 hw
    · have hw := hw.2 c_2
      refine lv_iconst (v := 0) hx hb dX2_canRevive_13 (by decide) ?_
      exact hret _ _ _ dX2_canRevive_14 nb_0 hw
-- X2_addFound
abbrev rmX2_addFound : Room := { frames := 0, cells := 0, slots := 0, locals := 0 }
set_option maxHeartbeats 4000000 in
set_option maxRecDepth 100000 in
theorem c_X2_addFound (l : Launch) (D : va_G) (g : Nat → Nat) (k : xC) (fd : Int32) (cd : Int32) (cr : Int32) (tr : Int32) (ro : Nat → Int32) (nw : Nat → Int32) (kp : Nat → Int32) (qu : Nat → Int32) (qd : Nat → Int32) (ql : Int32) (kd : Nat → Int32) (fm : Nat → Int32) (tk : Nat → Int32) (mr : Nat → Int32) (x1 : Int32) (post : Int32 → (Nat → Int32) → Prop) (hw : wX2_addFound post fd ro x1) : CMv l yX2_addFound wsX2_addFound rmX2_addFound D k [.ref (g 0), .int x1] (fun v : Int32 × (Nat → Int32) => (xS g k (v.1) cd cr tr (v.2) nw kp qu qd ql kd fm tk mr)) (fd, ro) (fun v => post (v.1) (v.2)) := by
  refine met_mv (cc := cX2_addFound) (nL := 2) (by decide) rfl (Nat.le_of_ble_eq_true rfl) ?_
  intro p e s m args below meth c Q A ls hC hP hD hA hK hZ hS hl hret
  obtain ⟨hx, hb, hml, hown, hts⟩ := id hC
  have hC : CallFix p m c cX2_addFound 2 s args wsX2_addFound RX2 := hC
  have hown : s.vm.findClass RX2 = some m.cls := hown
  have hl : lv_has ls 2 [(0, .ref (g 0)), (1, .int x1)] := hl
  have hP : va_P D vwCl (xS g k fd cd cr tr ro nw kp qu qd ql kd fm tk mr) s.heap := hP
  have hD : va_D A (xS g k fd cd cr tr ro nw kp qu qd ql kd fm tk mr) := hD
  have hinX2 : ∀ w ∈ wsX20, w ∈ wsX2_addFound := fun _ h => List.mem_cons_of_mem _ (List.mem_append_right _ h)
  unfold wX2_addFound at hw
  suffices main : ∀ (H : Heap) (locs : List Loc), va_P D vwCl (xS g k fd cd cr tr ro nw kp qu qd ql kd fm tk mr) H → va_D A (xS g k fd cd cr tr ro nw kp qu qd ql kd fm tk mr) → va_S A s.heap H locs → W p l e rmX2_addFound s m args below meth c H locs 0 0 Q (F0 m 0 ls []) from main _ _ hP hD hS
  intro H locs hP hD hS
  refine lv_aload_n hx hb dX2_addFound_0 rfl (lv_at hl 0 rfl) ?_
  refine va_get (D := D) (ci := 2) (v := .int fd) (C := RX2) (T := TX2) (N := 7) hx hb hts hinX2 hown hK hP 0 rfl rfl 3 (by decide) (hts (.fieldLink RX2 27 "SlabHeap" "found" "I") (by decide +kernel)) (fun _ h9 => h9) rfl dX2_addFound_1 ?_
  refine lv_aload_n hx hb dX2_addFound_4 rfl (lv_at hl 0 rfl) ?_
  refine va_get (D := D) (ci := 2) (v := .ref (g 1)) (C := RX2) (T := TX2) (N := 7) hx hb hts hinX2 hown hK hP 0 rfl rfl 2 (by decide) (hts (.fieldLink RX2 23 "SlabHeap" "row" "[I") (by decide +kernel)) (fun _ h9 => h9) rfl dX2_addFound_5 ?_
  refine va_alen (v := 2040) hx hb hK hP 1 0 rfl rfl rfl dX2_addFound_8 ?_
  refine lv_icmp_ge (tgt := 32) hx hb dX2_addFound_9 (by decide) (fun c_1 => ?_) (fun c_1 => ?_)
  · have hw := hw.1 c_1
    exact hret _ _ (fd, ro) _ _ hP hD hS dX2_addFound_32 hw
  · have hw := hw.2 c_1
    refine lv_aload_n hx hb dX2_addFound_12 rfl (lv_at hl 0 rfl) ?_
    refine va_get (D := D) (ci := 2) (v := .ref (g 1)) (C := RX2) (T := TX2) (N := 7) hx hb hts hinX2 hown hK hP 0 rfl rfl 2 (by decide) (hts (.fieldLink RX2 23 "SlabHeap" "row" "[I") (by decide +kernel)) (fun _ h9 => h9) rfl dX2_addFound_13 ?_
    refine lv_aload_n hx hb dX2_addFound_16 rfl (lv_at hl 0 rfl) ?_
    refine va_get (D := D) (ci := 2) (v := .int fd) (C := RX2) (T := TX2) (N := 7) hx hb hts hinX2 hown hK hP 0 rfl rfl 3 (by decide) (hts (.fieldLink RX2 27 "SlabHeap" "found" "I") (by decide +kernel)) (fun _ h9 => h9) rfl dX2_addFound_17 ?_
    refine lv_iload_n hx hb dX2_addFound_20 rfl (lv_at hl 1 rfl) ?_
    obtain ⟨h_2, hw⟩ := hw
    refine va_iast hx hb hK hP hD hS 1 0 rfl rfl h_2 dX2_addFound_21 (fun H locs hP hD hS => ?_)
    have hP : va_P D vwCl (xS g k fd cd cr tr (upd ro fd.toNatClampNeg x1) nw kp qu qd ql kd fm tk mr) H := hP
    have hD : va_D A (xS g k fd cd cr tr (upd ro fd.toNatClampNeg x1) nw kp qu qd ql kd fm tk mr) := hD
    refine lv_aload_n hx hb dX2_addFound_22 rfl (lv_at hl 0 rfl) ?_
    refine lv_dup hx hb dX2_addFound_23 rfl ?_
    refine va_get (D := D) (ci := 2) (v := .int fd) (C := RX2) (T := TX2) (N := 7) hx hb hts hinX2 hown hK hP 0 rfl rfl 3 (by decide) (hts (.fieldLink RX2 27 "SlabHeap" "found" "I") (by decide +kernel)) (fun _ h9 => h9) rfl dX2_addFound_24 ?_
    refine lv_iconst (v := 1) hx hb dX2_addFound_27 (by decide) ?_
    refine lv_iadd hx hb dX2_addFound_28 ?_
    refine va_put (D := D) (ci := 2) (v := .int (fd + 1)) (ty := .int) (C := RX2) (T := TX2) (N := 7) hx hb hts hinX2 tyX2 tyX2_ok nmX2 hown hK hP hD hS 0 rfl rfl 3 (by decide) (hts (.fieldLink RX2 27 "SlabHeap" "found" "I") (by decide +kernel)) (fun _ h9 => h9) rfl (by decide +kernel) rfl rfl (Nat.le_of_ble_eq_true rfl) dX2_addFound_29 (fun H locs hP hD hS => ?_)
    have hP : va_P D vwCl (xS g k (fd + 1) cd cr tr (upd ro fd.toNatClampNeg x1) nw kp qu qd ql kd fm tk mr) H := hP
    have hD : va_D A (xS g k (fd + 1) cd cr tr (upd ro fd.toNatClampNeg x1) nw kp qu qd ql kd fm tk mr) := hD
    exact hret _ _ ((fd + 1), (upd ro fd.toNatClampNeg x1)) _ _ hP hD hS dX2_addFound_32 hw
-- X2_reviveFrom
abbrev rmX2_reviveFrom : Room := { frames := 4, cells := 0, slots := 0, locals := 93 }
set_option maxHeartbeats 4000000 in
set_option maxRecDepth 100000 in
theorem c_X2_reviveFrom (l : Launch) (D : va_G) (g : Nat → Nat) (k : xC) (fd : Int32) (cd : Int32) (cr : Int32) (tr : Int32) (ro : Nat → Int32) (nw : Nat → Int32) (kp : Nat → Int32) (qu : Nat → Int32) (qd : Nat → Int32) (ql : Int32) (kd : Nat → Int32) (fm : Nat → Int32) (tk : Nat → Int32) (mr : Nat → Int32) (x1 : Int32) (x2 : Int32) (post : Int32 → Int32 → (Nat → Int32) → (Nat → Int32) → (Nat → Int32) → (Nat → Int32) → Int32 → (Nat → Int32) → (Nat → Int32) → (Nat → Int32) → Prop) (hw : wX2_reviveFrom post fd cd ro nw qu qd ql kd fm tk x1 x2) : CMv l yX2_reviveFrom wsX2_reviveFrom rmX2_reviveFrom D k [.ref (g 0), .int x1, .int x2] (fun v : Int32 × Int32 × (Nat → Int32) × (Nat → Int32) × (Nat → Int32) × (Nat → Int32) × Int32 × (Nat → Int32) × (Nat → Int32) × (Nat → Int32) => (xS g k (v.1) (v.2.1) cr tr (v.2.2.1) (v.2.2.2.1) kp (v.2.2.2.2.1) (v.2.2.2.2.2.1) (v.2.2.2.2.2.2.1) (v.2.2.2.2.2.2.2.1) (v.2.2.2.2.2.2.2.2.1) (v.2.2.2.2.2.2.2.2.2) mr)) (fd, cd, ro, nw, qu, qd, ql, kd, fm, tk) (fun v => post (v.1) (v.2.1) (v.2.2.1) (v.2.2.2.1) (v.2.2.2.2.1) (v.2.2.2.2.2.1) (v.2.2.2.2.2.2.1) (v.2.2.2.2.2.2.2.1) (v.2.2.2.2.2.2.2.2.1) (v.2.2.2.2.2.2.2.2.2)) := by
  refine met_mv (cc := cX2_reviveFrom) (nL := 5) (by decide) rfl (Nat.le_of_ble_eq_true rfl) ?_
  intro p e s m args below meth c Q A ls hC hP hD hA hK hZ hS hl hret
  obtain ⟨hx, hb, hml, hown, hts⟩ := id hC
  have hC : CallFix p m c cX2_reviveFrom 5 s args wsX2_reviveFrom RX2 := hC
  have hown : s.vm.findClass RX2 = some m.cls := hown
  have hl : lv_has ls 5 [(0, .ref (g 0)), (1, .int x1), (2, .int x2)] := hl
  have hP : va_P D vwCl (xS g k fd cd cr tr ro nw kp qu qd ql kd fm tk mr) s.heap := hP
  have hD : va_D A (xS g k fd cd cr tr ro nw kp qu qd ql kd fm tk mr) := hD
  have hinX2 : ∀ w ∈ wsX20, w ∈ wsX2_reviveFrom := fun _ h => List.mem_cons_of_mem _ (List.mem_append_left _ (List.mem_append_left _ (List.mem_append_right _ h)))
  have B2 : ∀ (fu : Nat), ∀ (x1 : Int32), ∀ (x2 : Int32), ∀ (x3 : Int32), ∀ (fd : Int32), ∀ (cd : Int32), ∀ (ro : Nat → Int32), ∀ (nw : Nat → Int32), ∀ (qu : Nat → Int32), ∀ (qd : Nat → Int32), ∀ (ql : Int32), ∀ (kd : Nat → Int32), ∀ (fm : Nat → Int32), ∀ (tk : Nat → Int32), ∀ (H : Heap) (locs : List Loc), va_P D vwCl (xS g k fd cd cr tr ro nw kp qu qd ql kd fm tk mr) H → va_D A (xS g k fd cd cr tr ro nw kp qu qd ql kd fm tk mr) → va_S A s.heap H locs → ∀ (ls : Array Slot), lv_has ls 5 [(0, .ref (g 0)), (1, .int x1), (2, .int x2), (3, .int x3)] → wX2_reviveFrom_2 post fu x1 x2 x3 fd cd ro nw qu qd ql kd fm tk → W p l e rmX2_reviveFrom s m args below meth c H locs 0 0 Q (F0 m 2 ls []) := by
    intro  fu
    induction fu with
    | zero =>
      intro x1 x2 x3 fd cd ro nw qu qd ql kd fm tk H locs hP hD hS ls hl hw
      exact absurd hw (by unfold wX2_reviveFrom_2; exact fun q => q)
    | succ n ih =>
      intro x1 x2 x3 fd cd ro nw qu qd ql kd fm tk H locs hP hD hS ls hl hw
      unfold wX2_reviveFrom_2 at hw
      refine lv_iload_n hx hb dX2_reviveFrom_2 rfl (lv_at hl 3 rfl) ?_
      refine lv_iload_n hx hb dX2_reviveFrom_3 rfl (lv_at hl 2 rfl) ?_
      refine lv_icmp_ge (tgt := 91) hx hb dX2_reviveFrom_4 (by decide) (fun c_1 => ?_) (fun c_1 => ?_)
      · have hw := hw.1 c_1
        exact hret _ _ (fd, cd, ro, nw, qu, qd, ql, kd, fm, tk) _ _ hP hD hS dX2_reviveFrom_91 hw
      · have hw := hw.2 c_1
        refine lv_aload_n hx hb dX2_reviveFrom_7 rfl (lv_at hl 0 rfl) ?_
        refine va_get (D := D) (ci := 2) (v := .ref (g 2)) (C := RX2) (T := TX2) (N := 7) hx hb hts hinX2 hown hK hP 0 rfl rfl 0 (by decide) (hts (.fieldLink RX2 10 "SlabHeap" "words" "LSlabHeap$Words;") (by decide +kernel)) (fun _ h9 => h9) rfl dX2_reviveFrom_8 ?_
        refine lv_iload_n hx hb dX2_reviveFrom_11 rfl (lv_at hl 1 rfl) ?_
        refine lv_iload_n hx hb dX2_reviveFrom_12 rfl (lv_at hl 3 rfl) ?_
        refine lv_iadd hx hb dX2_reviveFrom_13 ?_
        refine pcall (va_runV (As := [.int (x1 + x3)]) (rest := []) hC (c_X1_at l D g k nw kp qu qd ql (x1 + x3) _ hw H) (cwV 1 hts gX2_reviveFrom_X1_at rfl rfl rfl (by decide +kernel) ⟨Nat.le_of_ble_eq_true rfl, Nat.le_of_ble_eq_true rfl⟩) (preV_p (va_recv hK hP (ci := 1) (q0 := 2) rfl rfl) (hP.sub [2, 3, 4, 5, 6] rfl) hK hZ hS) rfl rfl hl.1 rfl (lv_room (Nat.le_of_ble_eq_true rfl)) dX2_reviveFrom_14 ⟨Nat.le_of_ble_eq_true rfl, Nat.le_of_ble_eq_true rfl⟩) (fun r_2 hw => ?_)
        refine lv_istore (lv' := [(4, .int r_2), (0, .ref (g 0)), (1, .int x1), (2, .int x2), (3, .int x3)]) hx hb dX2_reviveFrom_17 hl (by decide) rfl (fun ls hl => ?_)
        refine lv_aload_n hx hb dX2_reviveFrom_19 rfl (lv_at hl 1 rfl) ?_
        refine lv_iload hx hb dX2_reviveFrom_20 (lv_at hl 0 rfl) ?_
        refine pcall (va_runV (As := [.int r_2]) (rest := []) hC (c_X2_isTarget l D g k fd cd cr tr ro nw kp qu qd ql kd fm tk mr r_2 _ hw H) (cwV 1 hts gX2_reviveFrom_X2_isTarget rfl rfl rfl (by decide +kernel) ⟨Nat.le_of_ble_eq_true rfl, Nat.le_of_ble_eq_true rfl⟩) (preV_p (va_recv hK hP (ci := 2) (q0 := 0) rfl rfl) hP hK hZ hS) rfl rfl hl.1 rfl (lv_room (Nat.le_of_ble_eq_true rfl)) dX2_reviveFrom_22 ⟨Nat.le_of_ble_eq_true rfl, Nat.le_of_ble_eq_true rfl⟩) (fun r_3 hw => ?_)
        refine lv_if_eq (tgt := 31) hx hb dX2_reviveFrom_25 (by decide) (fun c_4 => ?_) (fun c_4 => ?_)
        · have hw := hw.1 c_4
          refine lv_aload_n hx hb dX2_reviveFrom_31 rfl (lv_at hl 1 rfl) ?_
          refine lv_iload hx hb dX2_reviveFrom_32 (lv_at hl 0 rfl) ?_
          refine pcall (va_runV (As := [.int r_2]) (rest := []) hC (c_X2_canRevive l D g k fd cd cr tr ro nw kp qu qd ql kd fm tk mr r_2 _ hw H) (cwV 1 hts gX2_reviveFrom_X2_canRevive rfl rfl rfl (by decide +kernel) ⟨Nat.le_of_ble_eq_true rfl, Nat.le_of_ble_eq_true rfl⟩) (preV_p (va_recv hK hP (ci := 2) (q0 := 0) rfl rfl) hP hK hZ hS) rfl rfl hl.1 rfl (lv_room (Nat.le_of_ble_eq_true rfl)) dX2_reviveFrom_34 ⟨Nat.le_of_ble_eq_true rfl, Nat.le_of_ble_eq_true rfl⟩) (fun r_5 hw => ?_)
          refine lv_if_eq (tgt := 64) hx hb dX2_reviveFrom_37 (by decide) (fun c_6 => ?_) (fun c_6 => ?_)
          · have hw := hw.1 c_6
            refine lv_aload_n hx hb dX2_reviveFrom_64 rfl (lv_at hl 1 rfl) ?_
            refine va_get (D := D) (ci := 2) (v := .ref (g 2)) (C := RX2) (T := TX2) (N := 7) hx hb hts hinX2 hown hK hP 0 rfl rfl 0 (by decide) (hts (.fieldLink RX2 10 "SlabHeap" "words" "LSlabHeap$Words;") (by decide +kernel)) (fun _ h9 => h9) rfl dX2_reviveFrom_65 ?_
            refine lv_iload_n hx hb dX2_reviveFrom_68 rfl (lv_at hl 2 rfl) ?_
            refine lv_iload_n hx hb dX2_reviveFrom_69 rfl (lv_at hl 4 rfl) ?_
            refine lv_iadd hx hb dX2_reviveFrom_70 ?_
            refine lv_iconst (v := 0) hx hb dX2_reviveFrom_71 (by decide) ?_
            refine vcall (wr := [(g 0, .inr (2, [.ref (g 2), .ref (g 7), .ref (g 1), .int fd, .int cd, .int cr, .int tr])), (g 1, .inl (k.1, 2040, .inl ro)), (g 7, .inr (0, [.ref (g 8), .ref (g 9), .ref (g 10), .ref (g 11)])), (g 8, .inl (k.1, 256, .inl kd)), (g 9, .inl (k.1, 256, .inl fm)), (g 10, .inl (k.1, 256, .inl tk)), (g 11, .inl (k.1, 256, .inl mr))]) (va_runV (As := [.int (x1 + x3), .int 0]) (rest := []) hC (c_X1_write l D g k nw kp qu qd ql (x1 + x3) 0 _ hw H.size) (cwV 2 hts gX2_reviveFrom_X1_write rfl rfl rfl (by decide +kernel) ⟨Nat.le_of_ble_eq_true rfl, Nat.le_of_ble_eq_true rfl⟩) (preV_m (va_recv hK hP (ci := 1) (q0 := 2) rfl rfl) hP hD hA hK hZ hS [2, 3, 4, 5, 6] rfl rfl (by decide)) rfl rfl hl.1 rfl (lv_room (Nat.le_of_ble_eq_true rfl)) dX2_reviveFrom_72 ⟨Nat.le_of_ble_eq_true rfl, Nat.le_of_ble_eq_true rfl⟩) hP hD hA hS [2, 3, 4, 5, 6] [0, 1, 7, 8, 9, 10, 11] rfl rfl (by decide) (by decide) (fun u' H locs hw hP hD hS => ?_)
            obtain ⟨nw_7, qu_8, qd_9, ql_10⟩ := u'
            try dsimp only at hw
            have hP : va_P D vwCl (xS g k fd cd cr tr ro nw_7 kp qu_8 qd_9 ql_10 kd fm tk mr) H := hP.sub [0, 1, 7, 8, 9, 10, 11, 2, 3, 4, 5, 6] rfl
            have hD : va_D A (xS g k fd cd cr tr ro nw_7 kp qu_8 qd_9 ql_10 kd fm tk mr) := hD.sub [0, 1, 7, 8, 9, 10, 11, 2, 3, 4, 5, 6] (by decide) rfl
            refine lv_aload_n hx hb dX2_reviveFrom_75 rfl (lv_at hl 1 rfl) ?_
            refine lv_dup hx hb dX2_reviveFrom_76 rfl ?_
            refine va_get (D := D) (ci := 2) (v := .int cd) (C := RX2) (T := TX2) (N := 7) hx hb hts hinX2 hown hK hP 0 rfl rfl 4 (by decide) (hts (.fieldLink RX2 31 "SlabHeap" "cleared" "I") (by decide +kernel)) (fun _ h9 => h9) rfl dX2_reviveFrom_77 ?_
            refine lv_iconst (v := 1) hx hb dX2_reviveFrom_80 (by decide) ?_
            refine lv_iadd hx hb dX2_reviveFrom_81 ?_
            refine va_put (D := D) (ci := 2) (v := .int (cd + 1)) (ty := .int) (C := RX2) (T := TX2) (N := 7) hx hb hts hinX2 tyX2 tyX2_ok nmX2 hown hK hP hD hS 0 rfl rfl 4 (by decide) (hts (.fieldLink RX2 31 "SlabHeap" "cleared" "I") (by decide +kernel)) (fun _ h9 => h9) rfl (by decide +kernel) rfl rfl (Nat.le_of_ble_eq_true rfl) dX2_reviveFrom_82 (fun H locs hP hD hS => ?_)
            have hP : va_P D vwCl (xS g k fd (cd + 1) cr tr ro nw_7 kp qu_8 qd_9 ql_10 kd fm tk mr) H := hP
            have hD : va_D A (xS g k fd (cd + 1) cr tr ro nw_7 kp qu_8 qd_9 ql_10 kd fm tk mr) := hD
            obtain ⟨x3_11, ex3_11⟩ : ∃ y : Int32, y = x3 + 1 := ⟨_, rfl⟩
            have hw := hw x3_11 ex3_11
            refine lv_iinc (v := x3_11) (lv' := [(3, .int x3_11), (4, .int r_2), (0, .ref (g 0)), (1, .int x1), (2, .int x2)]) hx hb dX2_reviveFrom_85 hl (k := 4) rfl (by rw [ex3_11]; rfl) (by decide) rfl (fun ls hl => ?_)
            refine lv_goto (tgt := 2) hx hb dX2_reviveFrom_88 (by decide) ?_
            exact ih x1 x2 x3_11 fd (cd + 1) ro nw_7 qu_8 qd_9 ql_10 kd fm tk H locs hP hD hS ls (lv_sub hl [2, 3, 4, 0] rfl) hw
          · have hw := hw.2 c_6
            refine lv_aload_n hx hb dX2_reviveFrom_40 rfl (lv_at hl 1 rfl) ?_
            refine va_get (D := D) (ci := 2) (v := .ref (g 7)) (C := RX2) (T := TX2) (N := 7) hx hb hts hinX2 hown hK hP 0 rfl rfl 1 (by decide) (hts (.fieldLink RX2 19 "SlabHeap" "pages" "LSlabHeap$Pages;") (by decide +kernel)) (fun _ h9 => h9) rfl dX2_reviveFrom_41 ?_
            refine lv_iload hx hb dX2_reviveFrom_44 (lv_at hl 0 rfl) ?_
            refine lv_aload_n hx hb dX2_reviveFrom_46 rfl (lv_at hl 1 rfl) ?_
            refine lv_iload hx hb dX2_reviveFrom_47 (lv_at hl 0 rfl) ?_
            refine pcall (va_runV (As := [.int r_2]) (rest := [.int r_2, .ref (g 7)]) hC (c_X2_sizeOf l D g k fd cd cr tr ro nw kp qu qd ql kd fm tk mr r_2 _ hw H) (cwV 1 hts gX2_reviveFrom_X2_sizeOf rfl rfl rfl (by decide +kernel) ⟨Nat.le_of_ble_eq_true rfl, Nat.le_of_ble_eq_true rfl⟩) (preV_p (va_recv hK hP (ci := 2) (q0 := 0) rfl rfl) hP hK hZ hS) rfl rfl hl.1 rfl (lv_room (Nat.le_of_ble_eq_true rfl)) dX2_reviveFrom_49 ⟨Nat.le_of_ble_eq_true rfl, Nat.le_of_ble_eq_true rfl⟩) (fun r_12 hw => ?_)
            refine vcall (wr := [(g 0, .inr (2, [.ref (g 2), .ref (g 7), .ref (g 1), .int fd, .int cd, .int cr, .int tr])), (g 1, .inl (k.1, 2040, .inl ro)), (g 2, .inr (1, [.ref (g 3), .ref (g 4), .ref (g 5), .ref (g 6), .int ql])), (g 3, .inl (k.1, 4096, .inl nw)), (g 4, .inl (k.1, 4096, .inl kp)), (g 5, .inl (k.1, 512, .inl qu)), (g 6, .inl (k.2, 512, .inl qd))]) (va_runV (As := [.int r_2, .int r_12]) (rest := []) hC (c_X0_add l D g k kd fm tk mr r_2 r_12 _ hw H.size) (cwV 2 hts gX2_reviveFrom_X0_add rfl rfl rfl (by decide +kernel) ⟨Nat.le_of_ble_eq_true rfl, Nat.le_of_ble_eq_true rfl⟩) (preV_m (va_recv hK hP (ci := 0) (q0 := 7) rfl rfl) hP hD hA hK hZ hS [7, 8, 9, 10, 11] rfl rfl (by decide)) rfl rfl hl.1 rfl (lv_room (Nat.le_of_ble_eq_true rfl)) dX2_reviveFrom_52 ⟨Nat.le_of_ble_eq_true rfl, Nat.le_of_ble_eq_true rfl⟩) hP hD hA hS [7, 8, 9, 10, 11] [0, 1, 2, 3, 4, 5, 6] rfl rfl (by decide) (by decide) (fun u' H locs hw hP hD hS => ?_)
            obtain ⟨kd_13, fm_14, tk_15⟩ := u'
            try dsimp only at hw
            have hP : va_P D vwCl (xS g k fd cd cr tr ro nw kp qu qd ql kd_13 fm_14 tk_15 mr) H := hP.sub [0, 1, 2, 3, 4, 5, 6, 7, 8, 9, 10, 11] rfl
            have hD : va_D A (xS g k fd cd cr tr ro nw kp qu qd ql kd_13 fm_14 tk_15 mr) := hD.sub [0, 1, 2, 3, 4, 5, 6, 7, 8, 9, 10, 11] (by decide) rfl
            refine lv_aload_n hx hb dX2_reviveFrom_55 rfl (lv_at hl 1 rfl) ?_
            refine lv_iload hx hb dX2_reviveFrom_56 (lv_at hl 0 rfl) ?_
            refine vcall (wr := []) (va_runV (As := [.int r_2]) (rest := []) hC (c_X2_addFound l D g k fd cd cr tr ro nw kp qu qd ql kd_13 fm_14 tk_15 mr r_2 _ hw H.size) (cwV 1 hts gX2_reviveFrom_X2_addFound rfl rfl rfl (by decide +kernel) ⟨Nat.le_of_ble_eq_true rfl, Nat.le_of_ble_eq_true rfl⟩) (preV_m (va_recv hK hP (ci := 2) (q0 := 0) rfl rfl) hP hD hA hK hZ hS [0, 1, 2, 3, 4, 5, 6, 7, 8, 9, 10, 11] rfl rfl (by decide)) rfl rfl hl.1 rfl (lv_room (Nat.le_of_ble_eq_true rfl)) dX2_reviveFrom_58 ⟨Nat.le_of_ble_eq_true rfl, Nat.le_of_ble_eq_true rfl⟩) hP hD hA hS [0, 1, 2, 3, 4, 5, 6, 7, 8, 9, 10, 11] [] rfl rfl (by decide) (by decide) (fun u' H locs hw hP hD hS => ?_)
            obtain ⟨fd_16, ro_17⟩ := u'
            try dsimp only at hw
            have hP : va_P D vwCl (xS g k fd_16 cd cr tr ro_17 nw kp qu qd ql kd_13 fm_14 tk_15 mr) H := hP
            have hD : va_D A (xS g k fd_16 cd cr tr ro_17 nw kp qu qd ql kd_13 fm_14 tk_15 mr) := hD
            refine lv_goto (tgt := 85) hx hb dX2_reviveFrom_61 (by decide) ?_
            obtain ⟨x3_18, ex3_18⟩ : ∃ y : Int32, y = x3 + 1 := ⟨_, rfl⟩
            have hw := hw x3_18 ex3_18
            refine lv_iinc (v := x3_18) (lv' := [(3, .int x3_18), (4, .int r_2), (0, .ref (g 0)), (1, .int x1), (2, .int x2)]) hx hb dX2_reviveFrom_85 hl (k := 4) rfl (by rw [ex3_18]; rfl) (by decide) rfl (fun ls hl => ?_)
            refine lv_goto (tgt := 2) hx hb dX2_reviveFrom_88 (by decide) ?_
            exact ih x1 x2 x3_18 fd_16 cd ro_17 nw qu qd ql kd_13 fm_14 tk_15 H locs hP hD hS ls (lv_sub hl [2, 3, 4, 0] rfl) hw
        · have hw := hw.2 c_4
          refine lv_goto (tgt := 85) hx hb dX2_reviveFrom_28 (by decide) ?_
          obtain ⟨x3_19, ex3_19⟩ : ∃ y : Int32, y = x3 + 1 := ⟨_, rfl⟩
          have hw := hw x3_19 ex3_19
          refine lv_iinc (v := x3_19) (lv' := [(3, .int x3_19), (4, .int r_2), (0, .ref (g 0)), (1, .int x1), (2, .int x2)]) hx hb dX2_reviveFrom_85 hl (k := 4) rfl (by rw [ex3_19]; rfl) (by decide) rfl (fun ls hl => ?_)
          refine lv_goto (tgt := 2) hx hb dX2_reviveFrom_88 (by decide) ?_
          exact ih x1 x2 x3_19 fd cd ro nw qu qd ql kd fm tk H locs hP hD hS ls (lv_sub hl [2, 3, 4, 0] rfl) hw
  unfold wX2_reviveFrom at hw
  suffices main : ∀ (H : Heap) (locs : List Loc), va_P D vwCl (xS g k fd cd cr tr ro nw kp qu qd ql kd fm tk mr) H → va_D A (xS g k fd cd cr tr ro nw kp qu qd ql kd fm tk mr) → va_S A s.heap H locs → W p l e rmX2_reviveFrom s m args below meth c H locs 0 0 Q (F0 m 0 ls []) from main _ _ hP hD hS
  intro H locs hP hD hS
  refine lv_iconst (v := 0) hx hb dX2_reviveFrom_0 (by decide) ?_
  refine lv_istore_n (lv' := [(3, .int 0), (0, .ref (g 0)), (1, .int x1), (2, .int x2)]) hx hb dX2_reviveFrom_1 rfl hl (by decide) rfl (fun ls hl => ?_)
  obtain ⟨fu_20, hw⟩ := hw
  exact B2  fu_20 x1 x2 0 fd cd ro nw qu qd ql kd fm tk H locs hP hD hS ls (lv_sub hl [1, 2, 3, 0] rfl) hw
-- X2_recover
abbrev rmX2_recover : Room := { frames := 5, cells := 0, slots := 0, locals := 117 }
set_option maxHeartbeats 4000000 in
set_option maxRecDepth 100000 in
theorem c_X2_recover (l : Launch) (D : va_G) (g : Nat → Nat) (k : xC) (fd : Int32) (cd : Int32) (cr : Int32) (tr : Int32) (ro : Nat → Int32) (nw : Nat → Int32) (kp : Nat → Int32) (qu : Nat → Int32) (qd : Nat → Int32) (ql : Int32) (kd : Nat → Int32) (fm : Nat → Int32) (tk : Nat → Int32) (mr : Nat → Int32)  (post : Int32 → Int32 → (Nat → Int32) → (Nat → Int32) → (Nat → Int32) → (Nat → Int32) → Int32 → (Nat → Int32) → (Nat → Int32) → (Nat → Int32) → Prop) (hw : wX2_recover post fd cd ro nw qu qd ql kd fm tk) : CMv l yX2_recover wsX2_recover rmX2_recover D k [.ref (g 0)] (fun v : Int32 × Int32 × (Nat → Int32) × (Nat → Int32) × (Nat → Int32) × (Nat → Int32) × Int32 × (Nat → Int32) × (Nat → Int32) × (Nat → Int32) => (xS g k (v.1) (v.2.1) cr tr (v.2.2.1) (v.2.2.2.1) kp (v.2.2.2.2.1) (v.2.2.2.2.2.1) (v.2.2.2.2.2.2.1) (v.2.2.2.2.2.2.2.1) (v.2.2.2.2.2.2.2.2.1) (v.2.2.2.2.2.2.2.2.2) mr)) (fd, cd, ro, nw, qu, qd, ql, kd, fm, tk) (fun v => post (v.1) (v.2.1) (v.2.2.1) (v.2.2.2.1) (v.2.2.2.2.1) (v.2.2.2.2.2.1) (v.2.2.2.2.2.2.1) (v.2.2.2.2.2.2.2.1) (v.2.2.2.2.2.2.2.2.1) (v.2.2.2.2.2.2.2.2.2)) := by
  refine met_mv (cc := cX2_recover) (nL := 3) (by decide) rfl (Nat.le_of_ble_eq_true rfl) ?_
  intro p e s m args below meth c Q A ls hC hP hD hA hK hZ hS hl hret
  obtain ⟨hx, hb, hml, hown, hts⟩ := id hC
  have hC : CallFix p m c cX2_recover 3 s args wsX2_recover RX2 := hC
  have hown : s.vm.findClass RX2 = some m.cls := hown
  have hl : lv_has ls 3 [(0, .ref (g 0))] := hl
  have hP : va_P D vwCl (xS g k fd cd cr tr ro nw kp qu qd ql kd fm tk mr) s.heap := hP
  have hD : va_D A (xS g k fd cd cr tr ro nw kp qu qd ql kd fm tk mr) := hD
  have hinX2 : ∀ w ∈ wsX20, w ∈ wsX2_recover := fun _ h => List.mem_cons_of_mem _ (List.mem_append_left _ (List.mem_append_left _ (List.mem_append_right _ h)))
  have B26 : ∀ (fu : Nat), ∀ (x1 : Int32), ∀ (fd : Int32), ∀ (cd : Int32), ∀ (ro : Nat → Int32), ∀ (nw : Nat → Int32), ∀ (qu : Nat → Int32), ∀ (qd : Nat → Int32), ∀ (ql : Int32), ∀ (kd : Nat → Int32), ∀ (fm : Nat → Int32), ∀ (tk : Nat → Int32), ∀ (H : Heap) (locs : List Loc), va_P D vwCl (xS g k fd cd cr tr ro nw kp qu qd ql kd fm tk mr) H → va_D A (xS g k fd cd cr tr ro nw kp qu qd ql kd fm tk mr) → va_S A s.heap H locs → ∀ (ls : Array Slot), lv_has ls 3 [(0, .ref (g 0)), (1, .int x1)] → wX2_recover_26 post fu x1 fd cd ro nw qu qd ql kd fm tk → W p l e rmX2_recover s m args below meth c H locs 0 0 Q (F0 m 26 ls []) := by
    intro  fu
    induction fu with
    | zero =>
      intro x1 fd cd ro nw qu qd ql kd fm tk H locs hP hD hS ls hl hw
      exact absurd hw (by unfold wX2_recover_26; exact fun q => q)
    | succ n ih =>
      intro x1 fd cd ro nw qu qd ql kd fm tk H locs hP hD hS ls hl hw
      unfold wX2_recover_26 at hw
      refine lv_iload_n hx hb dX2_recover_26 rfl (lv_at hl 1 rfl) ?_
      refine lv_aload_n hx hb dX2_recover_27 rfl (lv_at hl 0 rfl) ?_
      refine va_get (D := D) (ci := 2) (v := .int fd) (C := RX2) (T := TX2) (N := 7) hx hb hts hinX2 hown hK hP 0 rfl rfl 3 (by decide) (hts (.fieldLink RX2 27 "SlabHeap" "found" "I") (by decide +kernel)) (fun _ h9 => h9) rfl dX2_recover_28 ?_
      refine lv_icmp_ge (tgt := 69) hx hb dX2_recover_31 (by decide) (fun c_13 => ?_) (fun c_13 => ?_)
      · have hw := hw.1 c_13
        exact hret _ _ (fd, cd, ro, nw, qu, qd, ql, kd, fm, tk) _ _ hP hD hS dX2_recover_69 hw
      · have hw := hw.2 c_13
        refine lv_iload_n hx hb dX2_recover_34 rfl (lv_at hl 1 rfl) ?_
        refine lv_aload_n hx hb dX2_recover_35 rfl (lv_at hl 0 rfl) ?_
        refine va_get (D := D) (ci := 2) (v := .ref (g 1)) (C := RX2) (T := TX2) (N := 7) hx hb hts hinX2 hown hK hP 0 rfl rfl 2 (by decide) (hts (.fieldLink RX2 23 "SlabHeap" "row" "[I") (by decide +kernel)) (fun _ h9 => h9) rfl dX2_recover_36 ?_
        refine va_alen (v := 2040) hx hb hK hP 1 0 rfl rfl rfl dX2_recover_39 ?_
        refine lv_icmp_ge (tgt := 69) hx hb dX2_recover_40 (by decide) (fun c_14 => ?_) (fun c_14 => ?_)
        · have hw := hw.1 c_14
          exact hret _ _ (fd, cd, ro, nw, qu, qd, ql, kd, fm, tk) _ _ hP hD hS dX2_recover_69 hw
        · have hw := hw.2 c_14
          refine lv_aload_n hx hb dX2_recover_43 rfl (lv_at hl 0 rfl) ?_
          refine lv_iload_n hx hb dX2_recover_44 rfl (lv_at hl 1 rfl) ?_
          refine pcall (va_runV (As := [.int x1]) (rest := []) hC (c_X2_rowAt l D g k fd cd cr tr ro nw kp qu qd ql kd fm tk mr x1 _ hw H) (cwV 1 hts gX2_recover_X2_rowAt rfl rfl rfl (by decide +kernel) ⟨Nat.le_of_ble_eq_true rfl, Nat.le_of_ble_eq_true rfl⟩) (preV_p (va_recv hK hP (ci := 2) (q0 := 0) rfl rfl) hP hK hZ hS) rfl rfl hl.1 rfl (lv_room (Nat.le_of_ble_eq_true rfl)) dX2_recover_45 ⟨Nat.le_of_ble_eq_true rfl, Nat.le_of_ble_eq_true rfl⟩) (fun r_15 hw => ?_)
          refine lv_istore_n (lv' := [(2, .int r_15), (0, .ref (g 0)), (1, .int x1)]) hx hb dX2_recover_48 rfl hl (by decide) rfl (fun ls hl => ?_)
          refine lv_aload_n hx hb dX2_recover_49 rfl (lv_at hl 1 rfl) ?_
          refine lv_iload_n hx hb dX2_recover_50 rfl (lv_at hl 0 rfl) ?_
          refine lv_iconst (v := 0) hx hb dX2_recover_51 (by decide) ?_
          refine pcall (va_runS (As := [.int r_15, .int 0]) (rest := [.ref (g 0)]) hC (c_X2_wordOf l D k r_15 0 _ hw H) (va_cwS 2 hts gX2_recover_X2_wordOf rfl rfl rfl (by decide +kernel) ⟨Nat.le_of_ble_eq_true rfl, Nat.le_of_ble_eq_true rfl⟩) (preS_p (hP.sub [] rfl) hK hZ hS) rfl rfl hl.1 rfl (lv_room (Nat.le_of_ble_eq_true rfl)) dX2_recover_52 ⟨Nat.le_of_ble_eq_true rfl, Nat.le_of_ble_eq_true rfl⟩) (fun r_16 hw => ?_)
          refine lv_aload_n hx hb dX2_recover_55 rfl (lv_at hl 1 rfl) ?_
          refine lv_iload_n hx hb dX2_recover_56 rfl (lv_at hl 0 rfl) ?_
          refine pcall (va_runV (As := [.int r_15]) (rest := [.int r_16, .ref (g 0)]) hC (c_X2_refsOf l D g k fd cd cr tr ro nw kp qu qd ql kd fm tk mr r_15 _ hw H) (cwV 1 hts gX2_recover_X2_refsOf rfl rfl rfl (by decide +kernel) ⟨Nat.le_of_ble_eq_true rfl, Nat.le_of_ble_eq_true rfl⟩) (preV_p (va_recv hK hP (ci := 2) (q0 := 0) rfl rfl) hP hK hZ hS) rfl rfl hl.1 rfl (lv_room (Nat.le_of_ble_eq_true rfl)) dX2_recover_57 ⟨Nat.le_of_ble_eq_true rfl, Nat.le_of_ble_eq_true rfl⟩) (fun r_17 hw => ?_)
          refine vcall (wr := []) (va_runV (As := [.int r_16, .int r_17]) (rest := []) hC (c_X2_reviveFrom l D g k fd cd cr tr ro nw kp qu qd ql kd fm tk mr r_16 r_17 _ hw H.size) (cwV 2 hts gX2_recover_X2_reviveFrom rfl rfl rfl (by decide +kernel) ⟨Nat.le_of_ble_eq_true rfl, Nat.le_of_ble_eq_true rfl⟩) (preV_m (va_recv hK hP (ci := 2) (q0 := 0) rfl rfl) hP hD hA hK hZ hS [0, 1, 2, 3, 4, 5, 6, 7, 8, 9, 10, 11] rfl rfl (by decide)) rfl rfl hl.1 rfl (lv_room (Nat.le_of_ble_eq_true rfl)) dX2_recover_60 ⟨Nat.le_of_ble_eq_true rfl, Nat.le_of_ble_eq_true rfl⟩) hP hD hA hS [0, 1, 2, 3, 4, 5, 6, 7, 8, 9, 10, 11] [] rfl rfl (by decide) (by decide) (fun u' H locs hw hP hD hS => ?_)
          obtain ⟨fd_18, cd_19, ro_20, nw_21, qu_22, qd_23, ql_24, kd_25, fm_26, tk_27⟩ := u'
          try dsimp only at hw
          have hP : va_P D vwCl (xS g k fd_18 cd_19 cr tr ro_20 nw_21 kp qu_22 qd_23 ql_24 kd_25 fm_26 tk_27 mr) H := hP
          have hD : va_D A (xS g k fd_18 cd_19 cr tr ro_20 nw_21 kp qu_22 qd_23 ql_24 kd_25 fm_26 tk_27 mr) := hD
          obtain ⟨x1_28, ex1_28⟩ : ∃ y : Int32, y = x1 + 1 := ⟨_, rfl⟩
          have hw := hw x1_28 ex1_28
          refine lv_iinc (v := x1_28) (lv' := [(1, .int x1_28), (2, .int r_15), (0, .ref (g 0))]) hx hb dX2_recover_63 hl (k := 2) rfl (by rw [ex1_28]; rfl) (by decide) rfl (fun ls hl => ?_)
          refine lv_goto (tgt := 26) hx hb dX2_recover_66 (by decide) ?_
          exact ih x1_28 fd_18 cd_19 ro_20 nw_21 qu_22 qd_23 ql_24 kd_25 fm_26 tk_27 H locs hP hD hS ls (lv_sub hl [2, 0] rfl) hw
  unfold wX2_recover at hw
  suffices main : ∀ (H : Heap) (locs : List Loc), va_P D vwCl (xS g k fd cd cr tr ro nw kp qu qd ql kd fm tk mr) H → va_D A (xS g k fd cd cr tr ro nw kp qu qd ql kd fm tk mr) → va_S A s.heap H locs → W p l e rmX2_recover s m args below meth c H locs 0 0 Q (F0 m 0 ls []) from main _ _ hP hD hS
  intro H locs hP hD hS
  refine lv_aload_n hx hb dX2_recover_0 rfl (lv_at hl 0 rfl) ?_
  refine va_get (D := D) (ci := 2) (v := .ref (g 7)) (C := RX2) (T := TX2) (N := 7) hx hb hts hinX2 hown hK hP 0 rfl rfl 1 (by decide) (hts (.fieldLink RX2 19 "SlabHeap" "pages" "LSlabHeap$Pages;") (by decide +kernel)) (fun _ h9 => h9) rfl dX2_recover_1 ?_
  refine vcall (wr := [(g 0, .inr (2, [.ref (g 2), .ref (g 7), .ref (g 1), .int fd, .int cd, .int cr, .int tr])), (g 1, .inl (k.1, 2040, .inl ro)), (g 2, .inr (1, [.ref (g 3), .ref (g 4), .ref (g 5), .ref (g 6), .int ql])), (g 3, .inl (k.1, 4096, .inl nw)), (g 4, .inl (k.1, 4096, .inl kp)), (g 5, .inl (k.1, 512, .inl qu)), (g 6, .inl (k.2, 512, .inl qd))]) (va_runV (As := []) (rest := []) hC (c_X0_freeAll l D g k kd fm tk mr _ hw H.size) (cwV 0 hts gX2_recover_X0_freeAll rfl rfl rfl (by decide +kernel) ⟨Nat.le_of_ble_eq_true rfl, Nat.le_of_ble_eq_true rfl⟩) (preV_m (va_recv hK hP (ci := 0) (q0 := 7) rfl rfl) hP hD hA hK hZ hS [7, 8, 9, 10, 11] rfl rfl (by decide)) rfl rfl hl.1 rfl (lv_room (Nat.le_of_ble_eq_true rfl)) dX2_recover_4 ⟨Nat.le_of_ble_eq_true rfl, Nat.le_of_ble_eq_true rfl⟩) hP hD hA hS [7, 8, 9, 10, 11] [0, 1, 2, 3, 4, 5, 6] rfl rfl (by decide) (by decide) (fun u' H locs hw hP hD hS => ?_)
  obtain ⟨kd_1, tk_2⟩ := u'
  try dsimp only at hw
  have hP : va_P D vwCl (xS g k fd cd cr tr ro nw kp qu qd ql kd_1 fm tk_2 mr) H := hP.sub [0, 1, 2, 3, 4, 5, 6, 7, 8, 9, 10, 11] rfl
  have hD : va_D A (xS g k fd cd cr tr ro nw kp qu qd ql kd_1 fm tk_2 mr) := hD.sub [0, 1, 2, 3, 4, 5, 6, 7, 8, 9, 10, 11] (by decide) rfl
  refine lv_aload_n hx hb dX2_recover_7 rfl (lv_at hl 0 rfl) ?_
  refine lv_iconst (v := 0) hx hb dX2_recover_8 (by decide) ?_
  refine va_put (D := D) (ci := 2) (v := .int 0) (ty := .int) (C := RX2) (T := TX2) (N := 7) hx hb hts hinX2 tyX2 tyX2_ok nmX2 hown hK hP hD hS 0 rfl rfl 3 (by decide) (hts (.fieldLink RX2 27 "SlabHeap" "found" "I") (by decide +kernel)) (fun _ h9 => h9) rfl (by decide +kernel) rfl rfl (Nat.le_of_ble_eq_true rfl) dX2_recover_9 (fun H locs hP hD hS => ?_)
  have hP : va_P D vwCl (xS g k 0 cd cr tr ro nw kp qu qd ql kd_1 fm tk_2 mr) H := hP
  have hD : va_D A (xS g k 0 cd cr tr ro nw kp qu qd ql kd_1 fm tk_2 mr) := hD
  refine lv_aload_n hx hb dX2_recover_12 rfl (lv_at hl 0 rfl) ?_
  refine lv_iconst (v := 0) hx hb dX2_recover_13 (by decide) ?_
  refine va_put (D := D) (ci := 2) (v := .int 0) (ty := .int) (C := RX2) (T := TX2) (N := 7) hx hb hts hinX2 tyX2 tyX2_ok nmX2 hown hK hP hD hS 0 rfl rfl 4 (by decide) (hts (.fieldLink RX2 31 "SlabHeap" "cleared" "I") (by decide +kernel)) (fun _ h9 => h9) rfl (by decide +kernel) rfl rfl (Nat.le_of_ble_eq_true rfl) dX2_recover_14 (fun H locs hP hD hS => ?_)
  have hP : va_P D vwCl (xS g k 0 0 cr tr ro nw kp qu qd ql kd_1 fm tk_2 mr) H := hP
  have hD : va_D A (xS g k 0 0 cr tr ro nw kp qu qd ql kd_1 fm tk_2 mr) := hD
  refine lv_aload_n hx hb dX2_recover_17 rfl (lv_at hl 0 rfl) ?_
  refine lv_iconst (v := 1) hx hb dX2_recover_18 (by decide) ?_
  refine lv_bipush (v := 8) hx hb dX2_recover_19 (by decide) ?_
  refine vcall (wr := []) (va_runV (As := [.int 1, .int 8]) (rest := []) hC (c_X2_reviveFrom l D g k 0 0 cr tr ro nw kp qu qd ql kd_1 fm tk_2 mr 1 8 _ hw H.size) (cwV 2 hts gX2_recover_X2_reviveFrom rfl rfl rfl (by decide +kernel) ⟨Nat.le_of_ble_eq_true rfl, Nat.le_of_ble_eq_true rfl⟩) (preV_m (va_recv hK hP (ci := 2) (q0 := 0) rfl rfl) hP hD hA hK hZ hS [0, 1, 2, 3, 4, 5, 6, 7, 8, 9, 10, 11] rfl rfl (by decide)) rfl rfl hl.1 rfl (lv_room (Nat.le_of_ble_eq_true rfl)) dX2_recover_21 ⟨Nat.le_of_ble_eq_true rfl, Nat.le_of_ble_eq_true rfl⟩) hP hD hA hS [0, 1, 2, 3, 4, 5, 6, 7, 8, 9, 10, 11] [] rfl rfl (by decide) (by decide) (fun u' H locs hw hP hD hS => ?_)
  obtain ⟨fd_3, cd_4, ro_5, nw_6, qu_7, qd_8, ql_9, kd_10, fm_11, tk_12⟩ := u'
  try dsimp only at hw
  have hP : va_P D vwCl (xS g k fd_3 cd_4 cr tr ro_5 nw_6 kp qu_7 qd_8 ql_9 kd_10 fm_11 tk_12 mr) H := hP
  have hD : va_D A (xS g k fd_3 cd_4 cr tr ro_5 nw_6 kp qu_7 qd_8 ql_9 kd_10 fm_11 tk_12 mr) := hD
  refine lv_iconst (v := 0) hx hb dX2_recover_24 (by decide) ?_
  refine lv_istore_n (lv' := [(1, .int 0), (0, .ref (g 0))]) hx hb dX2_recover_25 rfl hl (by decide) rfl (fun ls hl => ?_)
  obtain ⟨fu_29, hw⟩ := hw
  exact B26  fu_29 0 fd_3 cd_4 ro_5 nw_6 qu_7 qd_8 ql_9 kd_10 fm_11 tk_12 H locs hP hD hS ls (lv_sub hl [1, 0] rfl) hw
-- X2_crash
abbrev rmX2_crash : Room := { frames := 6, cells := 0, slots := 0, locals := 139 }
set_option maxHeartbeats 4000000 in
set_option maxRecDepth 100000 in
theorem c_X2_crash (l : Launch) (D : va_G) (g : Nat → Nat) (k : xC) (fd : Int32) (cd : Int32) (cr : Int32) (tr : Int32) (ro : Nat → Int32) (nw : Nat → Int32) (kp : Nat → Int32) (qu : Nat → Int32) (qd : Nat → Int32) (ql : Int32) (kd : Nat → Int32) (fm : Nat → Int32) (tk : Nat → Int32) (mr : Nat → Int32) (x1 : Int32) (post : Int32 → Int32 → Int32 → Int32 → (Nat → Int32) → (Nat → Int32) → (Nat → Int32) → (Nat → Int32) → (Nat → Int32) → Int32 → (Nat → Int32) → (Nat → Int32) → (Nat → Int32) → Prop) (hw : wX2_crash post fd cd cr ro nw kp qu qd ql kd fm tk x1) : CMi l yX2_crash wsX2_crash rmX2_crash D k [.ref (g 0), .int x1] (fun v : Int32 × Int32 × Int32 × (Nat → Int32) × (Nat → Int32) × (Nat → Int32) × (Nat → Int32) × (Nat → Int32) × Int32 × (Nat → Int32) × (Nat → Int32) × (Nat → Int32) => (xS g k (v.1) (v.2.1) (v.2.2.1) tr (v.2.2.2.1) (v.2.2.2.2.1) (v.2.2.2.2.2.1) (v.2.2.2.2.2.2.1) (v.2.2.2.2.2.2.2.1) (v.2.2.2.2.2.2.2.2.1) (v.2.2.2.2.2.2.2.2.2.1) (v.2.2.2.2.2.2.2.2.2.2.1) (v.2.2.2.2.2.2.2.2.2.2.2) mr)) (fd, cd, cr, ro, nw, kp, qu, qd, ql, kd, fm, tk) (fun r v => post r (v.1) (v.2.1) (v.2.2.1) (v.2.2.2.1) (v.2.2.2.2.1) (v.2.2.2.2.2.1) (v.2.2.2.2.2.2.1) (v.2.2.2.2.2.2.2.1) (v.2.2.2.2.2.2.2.2.1) (v.2.2.2.2.2.2.2.2.2.1) (v.2.2.2.2.2.2.2.2.2.2.1) (v.2.2.2.2.2.2.2.2.2.2.2)) := by
  refine met_mi (cc := cX2_crash) (nL := 2) (by decide) rfl (Nat.le_of_ble_eq_true rfl) ?_
  intro p e s m args below meth c Q A ls hC hP hD hA hK hZ hS hl hret
  obtain ⟨hx, hb, hml, hown, hts⟩ := id hC
  have hC : CallFix p m c cX2_crash 2 s args wsX2_crash RX2 := hC
  have hown : s.vm.findClass RX2 = some m.cls := hown
  have hl : lv_has ls 2 [(0, .ref (g 0)), (1, .int x1)] := hl
  have hP : va_P D vwCl (xS g k fd cd cr tr ro nw kp qu qd ql kd fm tk mr) s.heap := hP
  have hD : va_D A (xS g k fd cd cr tr ro nw kp qu qd ql kd fm tk mr) := hD
  have hinX2 : ∀ w ∈ wsX20, w ∈ wsX2_crash := fun _ h => List.mem_cons_of_mem _ (List.mem_append_left _ (List.mem_append_left _ (List.mem_append_right _ h)))
  unfold wX2_crash at hw
  suffices main : ∀ (H : Heap) (locs : List Loc), va_P D vwCl (xS g k fd cd cr tr ro nw kp qu qd ql kd fm tk mr) H → va_D A (xS g k fd cd cr tr ro nw kp qu qd ql kd fm tk mr) → va_S A s.heap H locs → W p l e rmX2_crash s m args below meth c H locs 0 0 Q (F0 m 0 ls []) from main _ _ hP hD hS
  intro H locs hP hD hS
  refine lv_aload_n hx hb dX2_crash_0 rfl (lv_at hl 0 rfl) ?_
  refine va_get (D := D) (ci := 2) (v := .ref (g 2)) (C := RX2) (T := TX2) (N := 7) hx hb hts hinX2 hown hK hP 0 rfl rfl 0 (by decide) (hts (.fieldLink RX2 10 "SlabHeap" "words" "LSlabHeap$Words;") (by decide +kernel)) (fun _ h9 => h9) rfl dX2_crash_1 ?_
  refine lv_iload_n hx hb dX2_crash_4 rfl (lv_at hl 1 rfl) ?_
  refine vcall (wr := [(g 0, .inr (2, [.ref (g 2), .ref (g 7), .ref (g 1), .int fd, .int cd, .int cr, .int tr])), (g 1, .inl (k.1, 2040, .inl ro)), (g 7, .inr (0, [.ref (g 8), .ref (g 9), .ref (g 10), .ref (g 11)])), (g 8, .inl (k.1, 256, .inl kd)), (g 9, .inl (k.1, 256, .inl fm)), (g 10, .inl (k.1, 256, .inl tk)), (g 11, .inl (k.1, 256, .inl mr))]) (va_runV (As := [.int x1]) (rest := []) hC (c_X1_keepSome l D g k nw kp qu qd ql x1 _ hw H.size) (cwV 1 hts gX2_crash_X1_keepSome rfl rfl rfl (by decide +kernel) ⟨Nat.le_of_ble_eq_true rfl, Nat.le_of_ble_eq_true rfl⟩) (preV_m (va_recv hK hP (ci := 1) (q0 := 2) rfl rfl) hP hD hA hK hZ hS [2, 3, 4, 5, 6] rfl rfl (by decide)) rfl rfl hl.1 rfl (lv_room (Nat.le_of_ble_eq_true rfl)) dX2_crash_5 ⟨Nat.le_of_ble_eq_true rfl, Nat.le_of_ble_eq_true rfl⟩) hP hD hA hS [2, 3, 4, 5, 6] [0, 1, 7, 8, 9, 10, 11] rfl rfl (by decide) (by decide) (fun u' H locs hw hP hD hS => ?_)
  obtain ⟨nw_1, kp_2, qd_3, ql_4⟩ := u'
  try dsimp only at hw
  have hP : va_P D vwCl (xS g k fd cd cr tr ro nw_1 kp_2 qu qd_3 ql_4 kd fm tk mr) H := hP.sub [0, 1, 7, 8, 9, 10, 11, 2, 3, 4, 5, 6] rfl
  have hD : va_D A (xS g k fd cd cr tr ro nw_1 kp_2 qu qd_3 ql_4 kd fm tk mr) := hD.sub [0, 1, 7, 8, 9, 10, 11, 2, 3, 4, 5, 6] (by decide) rfl
  refine lv_aload_n hx hb dX2_crash_8 rfl (lv_at hl 0 rfl) ?_
  refine lv_dup hx hb dX2_crash_9 rfl ?_
  refine va_get (D := D) (ci := 2) (v := .int cr) (C := RX2) (T := TX2) (N := 7) hx hb hts hinX2 hown hK hP 0 rfl rfl 5 (by decide) (hts (.fieldLink RX2 34 "SlabHeap" "crashes" "I") (by decide +kernel)) (fun _ h9 => h9) rfl dX2_crash_10 ?_
  refine lv_iconst (v := 1) hx hb dX2_crash_13 (by decide) ?_
  refine lv_iadd hx hb dX2_crash_14 ?_
  refine va_put (D := D) (ci := 2) (v := .int (cr + 1)) (ty := .int) (C := RX2) (T := TX2) (N := 7) hx hb hts hinX2 tyX2 tyX2_ok nmX2 hown hK hP hD hS 0 rfl rfl 5 (by decide) (hts (.fieldLink RX2 34 "SlabHeap" "crashes" "I") (by decide +kernel)) (fun _ h9 => h9) rfl (by decide +kernel) rfl rfl (Nat.le_of_ble_eq_true rfl) dX2_crash_15 (fun H locs hP hD hS => ?_)
  have hP : va_P D vwCl (xS g k fd cd (cr + 1) tr ro nw_1 kp_2 qu qd_3 ql_4 kd fm tk mr) H := hP
  have hD : va_D A (xS g k fd cd (cr + 1) tr ro nw_1 kp_2 qu qd_3 ql_4 kd fm tk mr) := hD
  refine lv_aload_n hx hb dX2_crash_18 rfl (lv_at hl 0 rfl) ?_
  refine vcall (wr := []) (va_runV (As := []) (rest := []) hC (c_X2_recover l D g k fd cd (cr + 1) tr ro nw_1 kp_2 qu qd_3 ql_4 kd fm tk mr _ hw H.size) (cwV 0 hts gX2_crash_X2_recover rfl rfl rfl (by decide +kernel) ⟨Nat.le_of_ble_eq_true rfl, Nat.le_of_ble_eq_true rfl⟩) (preV_m (va_recv hK hP (ci := 2) (q0 := 0) rfl rfl) hP hD hA hK hZ hS [0, 1, 2, 3, 4, 5, 6, 7, 8, 9, 10, 11] rfl rfl (by decide)) rfl rfl hl.1 rfl (lv_room (Nat.le_of_ble_eq_true rfl)) dX2_crash_19 ⟨Nat.le_of_ble_eq_true rfl, Nat.le_of_ble_eq_true rfl⟩) hP hD hA hS [0, 1, 2, 3, 4, 5, 6, 7, 8, 9, 10, 11] [] rfl rfl (by decide) (by decide) (fun u' H locs hw hP hD hS => ?_)
  obtain ⟨fd_5, cd_6, ro_7, nw_8, qu_9, qd_10, ql_11, kd_12, fm_13, tk_14⟩ := u'
  try dsimp only at hw
  have hP : va_P D vwCl (xS g k fd_5 cd_6 (cr + 1) tr ro_7 nw_8 kp_2 qu_9 qd_10 ql_11 kd_12 fm_13 tk_14 mr) H := hP
  have hD : va_D A (xS g k fd_5 cd_6 (cr + 1) tr ro_7 nw_8 kp_2 qu_9 qd_10 ql_11 kd_12 fm_13 tk_14 mr) := hD
  refine lv_aload_n hx hb dX2_crash_22 rfl (lv_at hl 0 rfl) ?_
  refine va_get (D := D) (ci := 2) (v := .int fd_5) (C := RX2) (T := TX2) (N := 7) hx hb hts hinX2 hown hK hP 0 rfl rfl 3 (by decide) (hts (.fieldLink RX2 27 "SlabHeap" "found" "I") (by decide +kernel)) (fun _ h9 => h9) rfl dX2_crash_23 ?_
  exact hret _ _ _ (fd_5, cd_6, (cr + 1), ro_7, nw_8, kp_2, qu_9, qd_10, ql_11, kd_12, fm_13, tk_14) _ _ hP hD hS dX2_crash_26 hw
-- X2_markFrom
abbrev rmX2_markFrom : Room := { frames := 4, cells := 0, slots := 0, locals := 88 }
set_option maxHeartbeats 4000000 in
set_option maxRecDepth 100000 in
theorem c_X2_markFrom (l : Launch) (D : va_G) (g : Nat → Nat) (k : xC) (fd : Int32) (cd : Int32) (cr : Int32) (tr : Int32) (ro : Nat → Int32) (nw : Nat → Int32) (kp : Nat → Int32) (qu : Nat → Int32) (qd : Nat → Int32) (ql : Int32) (kd : Nat → Int32) (fm : Nat → Int32) (tk : Nat → Int32) (mr : Nat → Int32) (x1 : Int32) (x2 : Int32) (post : Int32 → (Nat → Int32) → (Nat → Int32) → Prop) (hw : wX2_markFrom post fd ro nw kd fm tk mr x1 x2) : CMv l yX2_markFrom wsX2_markFrom rmX2_markFrom D k [.ref (g 0), .int x1, .int x2] (fun v : Int32 × (Nat → Int32) × (Nat → Int32) => (xS g k (v.1) cd cr tr (v.2.1) nw kp qu qd ql kd fm tk (v.2.2))) (fd, ro, mr) (fun v => post (v.1) (v.2.1) (v.2.2)) := by
  refine met_mv (cc := cX2_markFrom) (nL := 5) (by decide) rfl (Nat.le_of_ble_eq_true rfl) ?_
  intro p e s m args below meth c Q A ls hC hP hD hA hK hZ hS hl hret
  obtain ⟨hx, hb, hml, hown, hts⟩ := id hC
  have hC : CallFix p m c cX2_markFrom 5 s args wsX2_markFrom RX2 := hC
  have hown : s.vm.findClass RX2 = some m.cls := hown
  have hl : lv_has ls 5 [(0, .ref (g 0)), (1, .int x1), (2, .int x2)] := hl
  have hP : va_P D vwCl (xS g k fd cd cr tr ro nw kp qu qd ql kd fm tk mr) s.heap := hP
  have hD : va_D A (xS g k fd cd cr tr ro nw kp qu qd ql kd fm tk mr) := hD
  have hinX2 : ∀ w ∈ wsX20, w ∈ wsX2_markFrom := fun _ h => List.mem_cons_of_mem _ (List.mem_append_left _ (List.mem_append_left _ (List.mem_append_right _ h)))
  have B2 : ∀ (fu : Nat), ∀ (x1 : Int32), ∀ (x2 : Int32), ∀ (x3 : Int32), ∀ (fd : Int32), ∀ (ro : Nat → Int32), ∀ (mr : Nat → Int32), ∀ (H : Heap) (locs : List Loc), va_P D vwCl (xS g k fd cd cr tr ro nw kp qu qd ql kd fm tk mr) H → va_D A (xS g k fd cd cr tr ro nw kp qu qd ql kd fm tk mr) → va_S A s.heap H locs → ∀ (ls : Array Slot), lv_has ls 5 [(0, .ref (g 0)), (1, .int x1), (2, .int x2), (3, .int x3)] → wX2_markFrom_2 post nw kd fm tk fu x1 x2 x3 fd ro mr → W p l e rmX2_markFrom s m args below meth c H locs 0 0 Q (F0 m 2 ls []) := by
    intro  fu
    induction fu with
    | zero =>
      intro x1 x2 x3 fd ro mr H locs hP hD hS ls hl hw
      exact absurd hw (by unfold wX2_markFrom_2; exact fun q => q)
    | succ n ih =>
      intro x1 x2 x3 fd ro mr H locs hP hD hS ls hl hw
      unfold wX2_markFrom_2 at hw
      refine lv_iload_n hx hb dX2_markFrom_2 rfl (lv_at hl 3 rfl) ?_
      refine lv_iload_n hx hb dX2_markFrom_3 rfl (lv_at hl 2 rfl) ?_
      refine lv_icmp_ge (tgt := 43) hx hb dX2_markFrom_4 (by decide) (fun c_1 => ?_) (fun c_1 => ?_)
      · have hw := hw.1 c_1
        exact hret _ _ (fd, ro, mr) _ _ hP hD hS dX2_markFrom_43 hw
      · have hw := hw.2 c_1
        refine lv_aload_n hx hb dX2_markFrom_7 rfl (lv_at hl 0 rfl) ?_
        refine va_get (D := D) (ci := 2) (v := .ref (g 2)) (C := RX2) (T := TX2) (N := 7) hx hb hts hinX2 hown hK hP 0 rfl rfl 0 (by decide) (hts (.fieldLink RX2 10 "SlabHeap" "words" "LSlabHeap$Words;") (by decide +kernel)) (fun _ h9 => h9) rfl dX2_markFrom_8 ?_
        refine lv_iload_n hx hb dX2_markFrom_11 rfl (lv_at hl 1 rfl) ?_
        refine lv_iload_n hx hb dX2_markFrom_12 rfl (lv_at hl 3 rfl) ?_
        refine lv_iadd hx hb dX2_markFrom_13 ?_
        refine pcall (va_runV (As := [.int (x1 + x3)]) (rest := []) hC (c_X1_at l D g k nw kp qu qd ql (x1 + x3) _ hw H) (cwV 1 hts gX2_markFrom_X1_at rfl rfl rfl (by decide +kernel) ⟨Nat.le_of_ble_eq_true rfl, Nat.le_of_ble_eq_true rfl⟩) (preV_p (va_recv hK hP (ci := 1) (q0 := 2) rfl rfl) (hP.sub [2, 3, 4, 5, 6] rfl) hK hZ hS) rfl rfl hl.1 rfl (lv_room (Nat.le_of_ble_eq_true rfl)) dX2_markFrom_14 ⟨Nat.le_of_ble_eq_true rfl, Nat.le_of_ble_eq_true rfl⟩) (fun r_2 hw => ?_)
        refine lv_istore (lv' := [(4, .int r_2), (0, .ref (g 0)), (1, .int x1), (2, .int x2), (3, .int x3)]) hx hb dX2_markFrom_17 hl (by decide) rfl (fun ls hl => ?_)
        refine lv_aload_n hx hb dX2_markFrom_19 rfl (lv_at hl 1 rfl) ?_
        refine va_get (D := D) (ci := 2) (v := .ref (g 7)) (C := RX2) (T := TX2) (N := 7) hx hb hts hinX2 hown hK hP 0 rfl rfl 1 (by decide) (hts (.fieldLink RX2 19 "SlabHeap" "pages" "LSlabHeap$Pages;") (by decide +kernel)) (fun _ h9 => h9) rfl dX2_markFrom_20 ?_
        refine lv_iload hx hb dX2_markFrom_23 (lv_at hl 0 rfl) ?_
        refine icall (wr := [(g 0, .inr (2, [.ref (g 2), .ref (g 7), .ref (g 1), .int fd, .int cd, .int cr, .int tr])), (g 1, .inl (k.1, 2040, .inl ro)), (g 2, .inr (1, [.ref (g 3), .ref (g 4), .ref (g 5), .ref (g 6), .int ql])), (g 3, .inl (k.1, 4096, .inl nw)), (g 4, .inl (k.1, 4096, .inl kp)), (g 5, .inl (k.1, 512, .inl qu)), (g 6, .inl (k.2, 512, .inl qd))]) (va_runV (As := [.int r_2]) (rest := []) hC (c_X0_mark l D g k kd fm tk mr r_2 _ hw H.size) (cwV 1 hts gX2_markFrom_X0_mark rfl rfl rfl (by decide +kernel) ⟨Nat.le_of_ble_eq_true rfl, Nat.le_of_ble_eq_true rfl⟩) (preV_m (va_recv hK hP (ci := 0) (q0 := 7) rfl rfl) hP hD hA hK hZ hS [7, 8, 9, 10, 11] rfl rfl (by decide)) rfl rfl hl.1 rfl (lv_room (Nat.le_of_ble_eq_true rfl)) dX2_markFrom_25 ⟨Nat.le_of_ble_eq_true rfl, Nat.le_of_ble_eq_true rfl⟩) hP hD hA hS [7, 8, 9, 10, 11] [0, 1, 2, 3, 4, 5, 6] rfl rfl (by decide) (by decide) (fun r_4 u' H locs hw hP hD hS => ?_)
        obtain ⟨mr_3, rfl⟩ : ∃ z, z = u' := ⟨_, rfl⟩
        try dsimp only at hw
        have hP : va_P D vwCl (xS g k fd cd cr tr ro nw kp qu qd ql kd fm tk mr_3) H := hP.sub [0, 1, 2, 3, 4, 5, 6, 7, 8, 9, 10, 11] rfl
        have hD : va_D A (xS g k fd cd cr tr ro nw kp qu qd ql kd fm tk mr_3) := hD.sub [0, 1, 2, 3, 4, 5, 6, 7, 8, 9, 10, 11] (by decide) rfl
        refine lv_if_eq (tgt := 37) hx hb dX2_markFrom_28 (by decide) (fun c_5 => ?_) (fun c_5 => ?_)
        · have hw := hw.1 c_5
          obtain ⟨x3_6, ex3_6⟩ : ∃ y : Int32, y = x3 + 1 := ⟨_, rfl⟩
          have hw := hw x3_6 ex3_6
          refine lv_iinc (v := x3_6) (lv' := [(3, .int x3_6), (4, .int r_2), (0, .ref (g 0)), (1, .int x1), (2, .int x2)]) hx hb dX2_markFrom_37 hl (k := 4) rfl (by rw [ex3_6]; rfl) (by decide) rfl (fun ls hl => ?_)
          refine lv_goto (tgt := 2) hx hb dX2_markFrom_40 (by decide) ?_
          exact ih x1 x2 x3_6 fd ro mr_3 H locs hP hD hS ls (lv_sub hl [2, 3, 4, 0] rfl) hw
        · have hw := hw.2 c_5
          refine lv_aload_n hx hb dX2_markFrom_31 rfl (lv_at hl 1 rfl) ?_
          refine lv_iload hx hb dX2_markFrom_32 (lv_at hl 0 rfl) ?_
          refine vcall (wr := []) (va_runV (As := [.int r_2]) (rest := []) hC (c_X2_addFound l D g k fd cd cr tr ro nw kp qu qd ql kd fm tk mr_3 r_2 _ hw H.size) (cwV 1 hts gX2_markFrom_X2_addFound rfl rfl rfl (by decide +kernel) ⟨Nat.le_of_ble_eq_true rfl, Nat.le_of_ble_eq_true rfl⟩) (preV_m (va_recv hK hP (ci := 2) (q0 := 0) rfl rfl) hP hD hA hK hZ hS [0, 1, 2, 3, 4, 5, 6, 7, 8, 9, 10, 11] rfl rfl (by decide)) rfl rfl hl.1 rfl (lv_room (Nat.le_of_ble_eq_true rfl)) dX2_markFrom_34 ⟨Nat.le_of_ble_eq_true rfl, Nat.le_of_ble_eq_true rfl⟩) hP hD hA hS [0, 1, 2, 3, 4, 5, 6, 7, 8, 9, 10, 11] [] rfl rfl (by decide) (by decide) (fun u' H locs hw hP hD hS => ?_)
          obtain ⟨fd_7, ro_8⟩ := u'
          try dsimp only at hw
          have hP : va_P D vwCl (xS g k fd_7 cd cr tr ro_8 nw kp qu qd ql kd fm tk mr_3) H := hP
          have hD : va_D A (xS g k fd_7 cd cr tr ro_8 nw kp qu qd ql kd fm tk mr_3) := hD
          obtain ⟨x3_9, ex3_9⟩ : ∃ y : Int32, y = x3 + 1 := ⟨_, rfl⟩
          have hw := hw x3_9 ex3_9
          refine lv_iinc (v := x3_9) (lv' := [(3, .int x3_9), (4, .int r_2), (0, .ref (g 0)), (1, .int x1), (2, .int x2)]) hx hb dX2_markFrom_37 hl (k := 4) rfl (by rw [ex3_9]; rfl) (by decide) rfl (fun ls hl => ?_)
          refine lv_goto (tgt := 2) hx hb dX2_markFrom_40 (by decide) ?_
          exact ih x1 x2 x3_9 fd_7 ro_8 mr_3 H locs hP hD hS ls (lv_sub hl [2, 3, 4, 0] rfl) hw
  unfold wX2_markFrom at hw
  suffices main : ∀ (H : Heap) (locs : List Loc), va_P D vwCl (xS g k fd cd cr tr ro nw kp qu qd ql kd fm tk mr) H → va_D A (xS g k fd cd cr tr ro nw kp qu qd ql kd fm tk mr) → va_S A s.heap H locs → W p l e rmX2_markFrom s m args below meth c H locs 0 0 Q (F0 m 0 ls []) from main _ _ hP hD hS
  intro H locs hP hD hS
  refine lv_iconst (v := 0) hx hb dX2_markFrom_0 (by decide) ?_
  refine lv_istore_n (lv' := [(3, .int 0), (0, .ref (g 0)), (1, .int x1), (2, .int x2)]) hx hb dX2_markFrom_1 rfl hl (by decide) rfl (fun ls hl => ?_)
  obtain ⟨fu_10, hw⟩ := hw
  exact B2  fu_10 x1 x2 0 fd ro mr H locs hP hD hS ls (lv_sub hl [1, 2, 3, 0] rfl) hw
-- X2_markReached
abbrev rmX2_markReached : Room := { frames := 5, cells := 0, slots := 0, locals := 112 }
set_option maxHeartbeats 4000000 in
set_option maxRecDepth 100000 in
theorem c_X2_markReached (l : Launch) (D : va_G) (g : Nat → Nat) (k : xC) (fd : Int32) (cd : Int32) (cr : Int32) (tr : Int32) (ro : Nat → Int32) (nw : Nat → Int32) (kp : Nat → Int32) (qu : Nat → Int32) (qd : Nat → Int32) (ql : Int32) (kd : Nat → Int32) (fm : Nat → Int32) (tk : Nat → Int32) (mr : Nat → Int32)  (post : Int32 → (Nat → Int32) → (Nat → Int32) → Prop) (hw : wX2_markReached post fd ro nw kd fm tk mr) : CMv l yX2_markReached wsX2_markReached rmX2_markReached D k [.ref (g 0)] (fun v : Int32 × (Nat → Int32) × (Nat → Int32) => (xS g k (v.1) cd cr tr (v.2.1) nw kp qu qd ql kd fm tk (v.2.2))) (fd, ro, mr) (fun v => post (v.1) (v.2.1) (v.2.2)) := by
  refine met_mv (cc := cX2_markReached) (nL := 3) (by decide) rfl (Nat.le_of_ble_eq_true rfl) ?_
  intro p e s m args below meth c Q A ls hC hP hD hA hK hZ hS hl hret
  obtain ⟨hx, hb, hml, hown, hts⟩ := id hC
  have hC : CallFix p m c cX2_markReached 3 s args wsX2_markReached RX2 := hC
  have hown : s.vm.findClass RX2 = some m.cls := hown
  have hl : lv_has ls 3 [(0, .ref (g 0))] := hl
  have hP : va_P D vwCl (xS g k fd cd cr tr ro nw kp qu qd ql kd fm tk mr) s.heap := hP
  have hD : va_D A (xS g k fd cd cr tr ro nw kp qu qd ql kd fm tk mr) := hD
  have hinX2 : ∀ w ∈ wsX20, w ∈ wsX2_markReached := fun _ h => List.mem_cons_of_mem _ (List.mem_append_left _ (List.mem_append_left _ (List.mem_append_right _ h)))
  have B21 : ∀ (fu : Nat), ∀ (x1 : Int32), ∀ (fd : Int32), ∀ (ro : Nat → Int32), ∀ (mr : Nat → Int32), ∀ (H : Heap) (locs : List Loc), va_P D vwCl (xS g k fd cd cr tr ro nw kp qu qd ql kd fm tk mr) H → va_D A (xS g k fd cd cr tr ro nw kp qu qd ql kd fm tk mr) → va_S A s.heap H locs → ∀ (ls : Array Slot), lv_has ls 3 [(0, .ref (g 0)), (1, .int x1)] → wX2_markReached_21 post nw kd fm tk fu x1 fd ro mr → W p l e rmX2_markReached s m args below meth c H locs 0 0 Q (F0 m 21 ls []) := by
    intro  fu
    induction fu with
    | zero =>
      intro x1 fd ro mr H locs hP hD hS ls hl hw
      exact absurd hw (by unfold wX2_markReached_21; exact fun q => q)
    | succ n ih =>
      intro x1 fd ro mr H locs hP hD hS ls hl hw
      unfold wX2_markReached_21 at hw
      refine lv_iload_n hx hb dX2_markReached_21 rfl (lv_at hl 1 rfl) ?_
      refine lv_aload_n hx hb dX2_markReached_22 rfl (lv_at hl 0 rfl) ?_
      refine va_get (D := D) (ci := 2) (v := .int fd) (C := RX2) (T := TX2) (N := 7) hx hb hts hinX2 hown hK hP 0 rfl rfl 3 (by decide) (hts (.fieldLink RX2 27 "SlabHeap" "found" "I") (by decide +kernel)) (fun _ h9 => h9) rfl dX2_markReached_23 ?_
      refine lv_icmp_ge (tgt := 64) hx hb dX2_markReached_26 (by decide) (fun c_5 => ?_) (fun c_5 => ?_)
      · have hw := hw.1 c_5
        exact hret _ _ (fd, ro, mr) _ _ hP hD hS dX2_markReached_64 hw
      · have hw := hw.2 c_5
        refine lv_iload_n hx hb dX2_markReached_29 rfl (lv_at hl 1 rfl) ?_
        refine lv_aload_n hx hb dX2_markReached_30 rfl (lv_at hl 0 rfl) ?_
        refine va_get (D := D) (ci := 2) (v := .ref (g 1)) (C := RX2) (T := TX2) (N := 7) hx hb hts hinX2 hown hK hP 0 rfl rfl 2 (by decide) (hts (.fieldLink RX2 23 "SlabHeap" "row" "[I") (by decide +kernel)) (fun _ h9 => h9) rfl dX2_markReached_31 ?_
        refine va_alen (v := 2040) hx hb hK hP 1 0 rfl rfl rfl dX2_markReached_34 ?_
        refine lv_icmp_ge (tgt := 64) hx hb dX2_markReached_35 (by decide) (fun c_6 => ?_) (fun c_6 => ?_)
        · have hw := hw.1 c_6
          exact hret _ _ (fd, ro, mr) _ _ hP hD hS dX2_markReached_64 hw
        · have hw := hw.2 c_6
          refine lv_aload_n hx hb dX2_markReached_38 rfl (lv_at hl 0 rfl) ?_
          refine lv_iload_n hx hb dX2_markReached_39 rfl (lv_at hl 1 rfl) ?_
          refine pcall (va_runV (As := [.int x1]) (rest := []) hC (c_X2_rowAt l D g k fd cd cr tr ro nw kp qu qd ql kd fm tk mr x1 _ hw H) (cwV 1 hts gX2_markReached_X2_rowAt rfl rfl rfl (by decide +kernel) ⟨Nat.le_of_ble_eq_true rfl, Nat.le_of_ble_eq_true rfl⟩) (preV_p (va_recv hK hP (ci := 2) (q0 := 0) rfl rfl) hP hK hZ hS) rfl rfl hl.1 rfl (lv_room (Nat.le_of_ble_eq_true rfl)) dX2_markReached_40 ⟨Nat.le_of_ble_eq_true rfl, Nat.le_of_ble_eq_true rfl⟩) (fun r_7 hw => ?_)
          refine lv_istore_n (lv' := [(2, .int r_7), (0, .ref (g 0)), (1, .int x1)]) hx hb dX2_markReached_43 rfl hl (by decide) rfl (fun ls hl => ?_)
          refine lv_aload_n hx hb dX2_markReached_44 rfl (lv_at hl 1 rfl) ?_
          refine lv_iload_n hx hb dX2_markReached_45 rfl (lv_at hl 0 rfl) ?_
          refine lv_iconst (v := 0) hx hb dX2_markReached_46 (by decide) ?_
          refine pcall (va_runS (As := [.int r_7, .int 0]) (rest := [.ref (g 0)]) hC (c_X2_wordOf l D k r_7 0 _ hw H) (va_cwS 2 hts gX2_markReached_X2_wordOf rfl rfl rfl (by decide +kernel) ⟨Nat.le_of_ble_eq_true rfl, Nat.le_of_ble_eq_true rfl⟩) (preS_p (hP.sub [] rfl) hK hZ hS) rfl rfl hl.1 rfl (lv_room (Nat.le_of_ble_eq_true rfl)) dX2_markReached_47 ⟨Nat.le_of_ble_eq_true rfl, Nat.le_of_ble_eq_true rfl⟩) (fun r_8 hw => ?_)
          refine lv_aload_n hx hb dX2_markReached_50 rfl (lv_at hl 1 rfl) ?_
          refine lv_iload_n hx hb dX2_markReached_51 rfl (lv_at hl 0 rfl) ?_
          refine pcall (va_runV (As := [.int r_7]) (rest := [.int r_8, .ref (g 0)]) hC (c_X2_refsOf l D g k fd cd cr tr ro nw kp qu qd ql kd fm tk mr r_7 _ hw H) (cwV 1 hts gX2_markReached_X2_refsOf rfl rfl rfl (by decide +kernel) ⟨Nat.le_of_ble_eq_true rfl, Nat.le_of_ble_eq_true rfl⟩) (preV_p (va_recv hK hP (ci := 2) (q0 := 0) rfl rfl) hP hK hZ hS) rfl rfl hl.1 rfl (lv_room (Nat.le_of_ble_eq_true rfl)) dX2_markReached_52 ⟨Nat.le_of_ble_eq_true rfl, Nat.le_of_ble_eq_true rfl⟩) (fun r_9 hw => ?_)
          refine vcall (wr := []) (va_runV (As := [.int r_8, .int r_9]) (rest := []) hC (c_X2_markFrom l D g k fd cd cr tr ro nw kp qu qd ql kd fm tk mr r_8 r_9 _ hw H.size) (cwV 2 hts gX2_markReached_X2_markFrom rfl rfl rfl (by decide +kernel) ⟨Nat.le_of_ble_eq_true rfl, Nat.le_of_ble_eq_true rfl⟩) (preV_m (va_recv hK hP (ci := 2) (q0 := 0) rfl rfl) hP hD hA hK hZ hS [0, 1, 2, 3, 4, 5, 6, 7, 8, 9, 10, 11] rfl rfl (by decide)) rfl rfl hl.1 rfl (lv_room (Nat.le_of_ble_eq_true rfl)) dX2_markReached_55 ⟨Nat.le_of_ble_eq_true rfl, Nat.le_of_ble_eq_true rfl⟩) hP hD hA hS [0, 1, 2, 3, 4, 5, 6, 7, 8, 9, 10, 11] [] rfl rfl (by decide) (by decide) (fun u' H locs hw hP hD hS => ?_)
          obtain ⟨fd_10, ro_11, mr_12⟩ := u'
          try dsimp only at hw
          have hP : va_P D vwCl (xS g k fd_10 cd cr tr ro_11 nw kp qu qd ql kd fm tk mr_12) H := hP
          have hD : va_D A (xS g k fd_10 cd cr tr ro_11 nw kp qu qd ql kd fm tk mr_12) := hD
          obtain ⟨x1_13, ex1_13⟩ : ∃ y : Int32, y = x1 + 1 := ⟨_, rfl⟩
          have hw := hw x1_13 ex1_13
          refine lv_iinc (v := x1_13) (lv' := [(1, .int x1_13), (2, .int r_7), (0, .ref (g 0))]) hx hb dX2_markReached_58 hl (k := 2) rfl (by rw [ex1_13]; rfl) (by decide) rfl (fun ls hl => ?_)
          refine lv_goto (tgt := 21) hx hb dX2_markReached_61 (by decide) ?_
          exact ih x1_13 fd_10 ro_11 mr_12 H locs hP hD hS ls (lv_sub hl [2, 0] rfl) hw
  unfold wX2_markReached at hw
  suffices main : ∀ (H : Heap) (locs : List Loc), va_P D vwCl (xS g k fd cd cr tr ro nw kp qu qd ql kd fm tk mr) H → va_D A (xS g k fd cd cr tr ro nw kp qu qd ql kd fm tk mr) → va_S A s.heap H locs → W p l e rmX2_markReached s m args below meth c H locs 0 0 Q (F0 m 0 ls []) from main _ _ hP hD hS
  intro H locs hP hD hS
  refine lv_aload_n hx hb dX2_markReached_0 rfl (lv_at hl 0 rfl) ?_
  refine va_get (D := D) (ci := 2) (v := .ref (g 7)) (C := RX2) (T := TX2) (N := 7) hx hb hts hinX2 hown hK hP 0 rfl rfl 1 (by decide) (hts (.fieldLink RX2 19 "SlabHeap" "pages" "LSlabHeap$Pages;") (by decide +kernel)) (fun _ h9 => h9) rfl dX2_markReached_1 ?_
  refine vcall (wr := [(g 0, .inr (2, [.ref (g 2), .ref (g 7), .ref (g 1), .int fd, .int cd, .int cr, .int tr])), (g 1, .inl (k.1, 2040, .inl ro)), (g 2, .inr (1, [.ref (g 3), .ref (g 4), .ref (g 5), .ref (g 6), .int ql])), (g 3, .inl (k.1, 4096, .inl nw)), (g 4, .inl (k.1, 4096, .inl kp)), (g 5, .inl (k.1, 512, .inl qu)), (g 6, .inl (k.2, 512, .inl qd))]) (va_runV (As := []) (rest := []) hC (c_X0_clearMarks l D g k kd fm tk mr _ hw H.size) (cwV 0 hts gX2_markReached_X0_clearMarks rfl rfl rfl (by decide +kernel) ⟨Nat.le_of_ble_eq_true rfl, Nat.le_of_ble_eq_true rfl⟩) (preV_m (va_recv hK hP (ci := 0) (q0 := 7) rfl rfl) hP hD hA hK hZ hS [7, 8, 9, 10, 11] rfl rfl (by decide)) rfl rfl hl.1 rfl (lv_room (Nat.le_of_ble_eq_true rfl)) dX2_markReached_4 ⟨Nat.le_of_ble_eq_true rfl, Nat.le_of_ble_eq_true rfl⟩) hP hD hA hS [7, 8, 9, 10, 11] [0, 1, 2, 3, 4, 5, 6] rfl rfl (by decide) (by decide) (fun u' H locs hw hP hD hS => ?_)
  obtain ⟨mr_1, rfl⟩ : ∃ z, z = u' := ⟨_, rfl⟩
  try dsimp only at hw
  have hP : va_P D vwCl (xS g k fd cd cr tr ro nw kp qu qd ql kd fm tk mr_1) H := hP.sub [0, 1, 2, 3, 4, 5, 6, 7, 8, 9, 10, 11] rfl
  have hD : va_D A (xS g k fd cd cr tr ro nw kp qu qd ql kd fm tk mr_1) := hD.sub [0, 1, 2, 3, 4, 5, 6, 7, 8, 9, 10, 11] (by decide) rfl
  refine lv_aload_n hx hb dX2_markReached_7 rfl (lv_at hl 0 rfl) ?_
  refine lv_iconst (v := 0) hx hb dX2_markReached_8 (by decide) ?_
  refine va_put (D := D) (ci := 2) (v := .int 0) (ty := .int) (C := RX2) (T := TX2) (N := 7) hx hb hts hinX2 tyX2 tyX2_ok nmX2 hown hK hP hD hS 0 rfl rfl 3 (by decide) (hts (.fieldLink RX2 27 "SlabHeap" "found" "I") (by decide +kernel)) (fun _ h9 => h9) rfl (by decide +kernel) rfl rfl (Nat.le_of_ble_eq_true rfl) dX2_markReached_9 (fun H locs hP hD hS => ?_)
  have hP : va_P D vwCl (xS g k 0 cd cr tr ro nw kp qu qd ql kd fm tk mr_1) H := hP
  have hD : va_D A (xS g k 0 cd cr tr ro nw kp qu qd ql kd fm tk mr_1) := hD
  refine lv_aload_n hx hb dX2_markReached_12 rfl (lv_at hl 0 rfl) ?_
  refine lv_iconst (v := 1) hx hb dX2_markReached_13 (by decide) ?_
  refine lv_bipush (v := 8) hx hb dX2_markReached_14 (by decide) ?_
  refine vcall (wr := []) (va_runV (As := [.int 1, .int 8]) (rest := []) hC (c_X2_markFrom l D g k 0 cd cr tr ro nw kp qu qd ql kd fm tk mr_1 1 8 _ hw H.size) (cwV 2 hts gX2_markReached_X2_markFrom rfl rfl rfl (by decide +kernel) ⟨Nat.le_of_ble_eq_true rfl, Nat.le_of_ble_eq_true rfl⟩) (preV_m (va_recv hK hP (ci := 2) (q0 := 0) rfl rfl) hP hD hA hK hZ hS [0, 1, 2, 3, 4, 5, 6, 7, 8, 9, 10, 11] rfl rfl (by decide)) rfl rfl hl.1 rfl (lv_room (Nat.le_of_ble_eq_true rfl)) dX2_markReached_16 ⟨Nat.le_of_ble_eq_true rfl, Nat.le_of_ble_eq_true rfl⟩) hP hD hA hS [0, 1, 2, 3, 4, 5, 6, 7, 8, 9, 10, 11] [] rfl rfl (by decide) (by decide) (fun u' H locs hw hP hD hS => ?_)
  obtain ⟨fd_2, ro_3, mr_4⟩ := u'
  try dsimp only at hw
  have hP : va_P D vwCl (xS g k fd_2 cd cr tr ro_3 nw kp qu qd ql kd fm tk mr_4) H := hP
  have hD : va_D A (xS g k fd_2 cd cr tr ro_3 nw kp qu qd ql kd fm tk mr_4) := hD
  refine lv_iconst (v := 0) hx hb dX2_markReached_19 (by decide) ?_
  refine lv_istore_n (lv' := [(1, .int 0), (0, .ref (g 0))]) hx hb dX2_markReached_20 rfl hl (by decide) rfl (fun ls hl => ?_)
  obtain ⟨fu_14, hw⟩ := hw
  exact B21  fu_14 0 fd_2 ro_3 mr_4 H locs hP hD hS ls (lv_sub hl [1, 0] rfl) hw
