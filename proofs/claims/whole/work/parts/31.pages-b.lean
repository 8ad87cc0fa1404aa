-- X0_isLive
abbrev rmX0_isLive : Room := { frames := 2, cells := 0, slots := 0, locals := 43 }
set_option maxHeartbeats 4000000 in
set_option maxRecDepth 100000 in
theorem c_X0_isLive (l : Launch) (D : va_G) (g : Nat → Nat) (k : xC) (kd : Nat → Int32) (fm : Nat → Int32) (tk : Nat → Int32) (mr : Nat → Int32) (x1 : Int32) (post : Int32 → Prop) (hw : wX0_isLive post kd fm tk x1) : CPi l yX0_isLive wsX0_isLive rmX0_isLive D k [.ref (g 7), .int x1] (xP g k kd fm tk mr) post := by
  refine met_pz (cc := cX0_isLive) (nL := 2) (by decide) rfl (Nat.le_of_ble_eq_true rfl) ?_
  intro p e s m args below meth c Q ls hC hP hK hZ hS hl hret
  obtain ⟨hx, hb, hml, hown, hts⟩ := id hC
  have hC : CallFix p m c cX0_isLive 2 s args wsX0_isLive RX0 := hC
  have hown : s.vm.findClass RX0 = some m.cls := hown
  have hl : lv_has ls 2 [(0, .ref (g 7)), (1, .int x1)] := hl
  have hinX0 : ∀ w ∈ wsX00, w ∈ wsX0_isLive := fun _ h => List.mem_cons_of_mem _ (List.mem_append_right _ h)
  unfold wX0_isLive at hw
  refine lv_aload_n hx hb dX0_isLive_0 rfl (lv_at hl 0 rfl) ?_
  refine lv_iload_n hx hb dX0_isLive_1 rfl (lv_at hl 1 rfl) ?_
  refine pcall (va_runS (As := [.int x1]) (rest := [.ref (g 7)]) hC (c_X0_pageOf l D k x1 _ hw s.heap) (va_cwS 1 hts gX0_isLive_X0_pageOf rfl rfl rfl (by decide +kernel) ⟨Nat.le_of_ble_eq_true rfl, Nat.le_of_ble_eq_true rfl⟩) (preS_p (hP.sub [] rfl) hK hZ hS) rfl rfl hl.1 rfl (lv_room (Nat.le_of_ble_eq_true rfl)) dX0_isLive_2 ⟨Nat.le_of_ble_eq_true rfl, Nat.le_of_ble_eq_true rfl⟩) (fun r_1 hw => ?_)
  refine lv_aload_n hx hb dX0_isLive_5 rfl (lv_at hl 0 rfl) ?_
  refine lv_iload_n hx hb dX0_isLive_6 rfl (lv_at hl 1 rfl) ?_
  refine pcall (va_runV (As := [.int x1]) (rest := [.int r_1, .ref (g 7)]) hC (c_X0_slotAt l D g k kd fm tk mr x1 _ hw s.heap) (cwV 1 hts gX0_isLive_X0_slotAt rfl rfl rfl (by decide +kernel) ⟨Nat.le_of_ble_eq_true rfl, Nat.le_of_ble_eq_true rfl⟩) (preV_p (va_recv hK hP (ci := 0) (q0 := 0) rfl rfl) hP hK hZ hS) rfl rfl hl.1 rfl (lv_room (Nat.le_of_ble_eq_true rfl)) dX0_isLive_7 ⟨Nat.le_of_ble_eq_true rfl, Nat.le_of_ble_eq_true rfl⟩) (fun r_2 hw => ?_)
  refine pcall (va_runV (As := [.int r_1, .int r_2]) (rest := []) hC (c_X0_isTaken l D g k kd fm tk mr r_1 r_2 _ hw s.heap) (cwV 2 hts gX0_isLive_X0_isTaken rfl rfl rfl (by decide +kernel) ⟨Nat.le_of_ble_eq_true rfl, Nat.le_of_ble_eq_true rfl⟩) (preV_p (va_recv hK hP (ci := 0) (q0 := 0) rfl rfl) hP hK hZ hS) rfl rfl hl.1 rfl (lv_room (Nat.le_of_ble_eq_true rfl)) dX0_isLive_10 ⟨Nat.le_of_ble_eq_true rfl, Nat.le_of_ble_eq_true rfl⟩) (fun r_3 hw => ?_)
  obtain ⟨h_4, hw⟩ := hw
  exact hret _ _ _ dX0_isLive_13 h_4 hw
-- X0_blockOver
abbrev rmX0_blockOver : Room := { frames := 2, cells := 0, slots := 0, locals := 44 }
set_option maxHeartbeats 4000000 in
set_option maxRecDepth 100000 in
theorem c_X0_blockOver (l : Launch) (D : va_G) (g : Nat → Nat) (k : xC) (kd : Nat → Int32) (fm : Nat → Int32) (tk : Nat → Int32) (mr : Nat → Int32) (x1 : Int32) (post : Int32 → Prop) (hw : wX0_blockOver post kd fm tk x1) : CPi l yX0_blockOver wsX0_blockOver rmX0_blockOver D k [.ref (g 7), .int x1] (xP g k kd fm tk mr) post := by
  refine met_pi (cc := cX0_blockOver) (nL := 4) (by decide) rfl (Nat.le_of_ble_eq_true rfl) ?_
  intro p e s m args below meth c Q ls hC hP hK hZ hS hl hret
  obtain ⟨hx, hb, hml, hown, hts⟩ := id hC
  have hC : CallFix p m c cX0_blockOver 4 s args wsX0_blockOver RX0 := hC
  have hown : s.vm.findClass RX0 = some m.cls := hown
  have hl : lv_has ls 4 [(0, .ref (g 7)), (1, .int x1)] := hl
  have hinX0 : ∀ w ∈ wsX00, w ∈ wsX0_blockOver := fun _ h => List.mem_cons_of_mem _ (List.mem_append_right _ h)
  have B38 : ∀ (x1 : Int32), ∀ (x2 : Int32), ∀ (ls : Array Slot), lv_has ls 4 [(0, .ref (g 7)), (1, .int x1), (2, .int x2)] → wX0_blockOver_38 post kd fm tk x1 x2 → W p l e rmX0_blockOver s m args below meth c s.heap [] 0 0 Q (F0 m 38 ls []) := by
    intro  x1 x2 ls hl hw
    unfold wX0_blockOver_38 at hw
    refine lv_aload_n hx hb dX0_blockOver_38 rfl (lv_at hl 0 rfl) ?_
    refine lv_iload_n hx hb dX0_blockOver_39 rfl (lv_at hl 2 rfl) ?_
    refine pcall (va_runV (As := [.int x2]) (rest := []) hC (c_X0_stepOf l D g k kd fm tk mr x2 _ hw s.heap) (cwV 1 hts gX0_blockOver_X0_stepOf rfl rfl rfl (by decide +kernel) ⟨Nat.le_of_ble_eq_true rfl, Nat.le_of_ble_eq_true rfl⟩) (preV_p (va_recv hK hP (ci := 0) (q0 := 0) rfl rfl) hP hK hZ hS) rfl rfl hl.1 rfl (lv_room (Nat.le_of_ble_eq_true rfl)) dX0_blockOver_40 ⟨Nat.le_of_ble_eq_true rfl, Nat.le_of_ble_eq_true rfl⟩) (fun r_4 hw => ?_)
    refine lv_istore_n (lv' := [(3, .int r_4), (0, .ref (g 7)), (1, .int x1), (2, .int x2)]) hx hb dX0_blockOver_43 rfl hl (by decide) rfl (fun ls hl => ?_)
    refine lv_iload_n hx hb dX0_blockOver_44 rfl (lv_at hl 0 rfl) ?_
    refine lv_if_le (tgt := 62) hx hb dX0_blockOver_45 (by decide) (fun c_5 => ?_) (fun c_5 => ?_)
    · have hw := hw.1 c_5
      refine lv_iconst (v := (-1)) hx hb dX0_blockOver_62 (by decide) ?_
      exact hret _ _ _ dX0_blockOver_63 hw
    · have hw := hw.2 c_5
      refine lv_aload_n hx hb dX0_blockOver_48 rfl (lv_at hl 1 rfl) ?_
      refine lv_iload_n hx hb dX0_blockOver_49 rfl (lv_at hl 3 rfl) ?_
      refine lv_iload_n hx hb dX0_blockOver_50 rfl (lv_at hl 2 rfl) ?_
      refine lv_bipush (v := 16) hx hb dX0_blockOver_51 (by decide) ?_
      refine lv_irem hx hb dX0_blockOver_53 (by decide) ?_
      refine lv_iload_n hx hb dX0_blockOver_54 rfl (lv_at hl 0 rfl) ?_
      obtain ⟨h_6, hw⟩ := hw
      refine lv_idiv hx hb dX0_blockOver_55 h_6 ?_
      refine pcall (va_runV (As := [.int x2, .int ((x1 - x1 / 16 * 16) / r_4)]) (rest := []) hC (c_X0_blockIn l D g k kd fm tk mr x2 ((x1 - x1 / 16 * 16) / r_4) _ hw s.heap) (cwV 2 hts gX0_blockOver_X0_blockIn rfl rfl rfl (by decide +kernel) ⟨Nat.le_of_ble_eq_true rfl, Nat.le_of_ble_eq_true rfl⟩) (preV_p (va_recv hK hP (ci := 0) (q0 := 0) rfl rfl) hP hK hZ hS) rfl rfl hl.1 rfl (lv_room (Nat.le_of_ble_eq_true rfl)) dX0_blockOver_56 ⟨Nat.le_of_ble_eq_true rfl, Nat.le_of_ble_eq_true rfl⟩) (fun r_7 hw => ?_)
      refine lv_goto (tgt := 63) hx hb dX0_blockOver_59 (by decide) ?_
      exact hret _ _ _ dX0_blockOver_63 hw
  unfold wX0_blockOver at hw
  refine lv_iload_n hx hb dX0_blockOver_0 rfl (lv_at hl 1 rfl) ?_
  refine pcall (va_runS (As := [.int x1]) (rest := []) hC (c_X0_pageOf l D k x1 _ hw s.heap) (va_cwS 1 hts gX0_blockOver_X0_pageOf rfl rfl rfl (by decide +kernel) ⟨Nat.le_of_ble_eq_true rfl, Nat.le_of_ble_eq_true rfl⟩) (preS_p (hP.sub [] rfl) hK hZ hS) rfl rfl hl.1 rfl (lv_room (Nat.le_of_ble_eq_true rfl)) dX0_blockOver_1 ⟨Nat.le_of_ble_eq_true rfl, Nat.le_of_ble_eq_true rfl⟩) (fun r_1 hw => ?_)
  refine lv_istore_n (lv' := [(2, .int r_1), (0, .ref (g 7)), (1, .int x1)]) hx hb dX0_blockOver_4 rfl hl (by decide) rfl (fun ls hl => ?_)
  refine lv_iload_n hx hb dX0_blockOver_5 rfl (lv_at hl 0 rfl) ?_
  refine pcall (va_runSN (As := [.int r_1]) (rest := []) hC (c_X2_isPage l D k r_1 _ hw s.heap) ⟨va_cnB 1 hts gX0_blockOver_X2_isPage_n30 rfl rfl rfl (hZ.2 (RX0, 30, yX2_isPage, "SlabHeap") (List.mem_of_getElem? (i := 2) rfl)) (hts (.initialized RX2) (by decide +kernel)) (by decide +kernel) ⟨Nat.le_of_ble_eq_true rfl, Nat.le_of_ble_eq_true rfl⟩, hts (.static yX2_isPage) (by decide +kernel), trivial⟩ (preS_p (hP.sub [] rfl) hK hZ hS) rfl rfl hl.1 rfl (lv_room (Nat.le_of_ble_eq_true rfl)) dX0_blockOver_6 ⟨Nat.le_of_ble_eq_true rfl, Nat.le_of_ble_eq_true rfl⟩) (fun r_2 hw => ?_)
  refine lv_if_eq (tgt := 38) hx hb dX0_blockOver_9 (by decide) (fun c_3 => ?_) (fun c_3 => ?_)
  · have hw := hw.1 c_3
    exact B38  x1 r_1 ls (lv_sub hl [1, 2, 0] rfl) hw
  · have hw := hw.2 c_3
    refine lv_aload_n hx hb dX0_blockOver_12 rfl (lv_at hl 1 rfl) ?_
    refine va_get (D := D) (ci := 0) (v := .ref (g 8)) (C := RX0) (T := TX0) (N := 4) hx hb hts hinX0 hown hK hP 0 rfl rfl 0 (by decide) (hts (.fieldLink RX0 9 "SlabHeap$Pages" "kinds" "[I") (by decide +kernel)) (fun _ h9 => h9) rfl dX0_blockOver_13 ?_
    refine lv_iload_n hx hb dX0_blockOver_16 rfl (lv_at hl 0 rfl) ?_
    obtain ⟨h_8, hw⟩ := hw
    refine va_iald hx hb hK hP 1 0 rfl rfl h_8 dX0_blockOver_17 ?_
    refine lv_iconst (v := 3) hx hb dX0_blockOver_18 (by decide) ?_
    refine lv_icmp_ne (tgt := 38) hx hb dX0_blockOver_19 (by decide) (fun c_9 => ?_) (fun c_9 => ?_)
    · have hw := hw.1 c_9
      exact B38  x1 r_1 ls (lv_sub hl [1, 2, 0] rfl) hw
    · have hw := hw.2 c_9
      refine lv_aload_n hx hb dX0_blockOver_22 rfl (lv_at hl 1 rfl) ?_
      refine lv_iload_n hx hb dX0_blockOver_23 rfl (lv_at hl 0 rfl) ?_
      refine lv_aload_n hx hb dX0_blockOver_24 rfl (lv_at hl 1 rfl) ?_
      refine va_get (D := D) (ci := 0) (v := .ref (g 9)) (C := RX0) (T := TX0) (N := 4) hx hb hts hinX0 hown hK hP 0 rfl rfl 1 (by decide) (hts (.fieldLink RX0 15 "SlabHeap$Pages" "forms" "[I") (by decide +kernel)) (fun _ h9 => h9) rfl dX0_blockOver_25 ?_
      refine lv_iload_n hx hb dX0_blockOver_28 rfl (lv_at hl 0 rfl) ?_
      obtain ⟨h_10, hw⟩ := hw
      refine va_iald hx hb hK hP 2 0 rfl rfl h_10 dX0_blockOver_29 ?_
      refine pcall (va_runS (As := [.int r_1, .int (fm r_1.toNatClampNeg)]) (rest := [.ref (g 7)]) hC (c_X0_alignedTo l D k r_1 (fm r_1.toNatClampNeg) _ hw s.heap) (va_cwS 2 hts gX0_blockOver_X0_alignedTo rfl rfl rfl (by decide +kernel) ⟨Nat.le_of_ble_eq_true rfl, Nat.le_of_ble_eq_true rfl⟩) (preS_p (hP.sub [] rfl) hK hZ hS) rfl rfl hl.1 rfl (lv_room (Nat.le_of_ble_eq_true rfl)) dX0_blockOver_30 ⟨Nat.le_of_ble_eq_true rfl, Nat.le_of_ble_eq_true rfl⟩) (fun r_11 hw => ?_)
      refine lv_iconst (v := 0) hx hb dX0_blockOver_33 (by decide) ?_
      refine pcall (va_runV (As := [.int r_11, .int 0]) (rest := []) hC (c_X0_blockIn l D g k kd fm tk mr r_11 0 _ hw s.heap) (cwV 2 hts gX0_blockOver_X0_blockIn rfl rfl rfl (by decide +kernel) ⟨Nat.le_of_ble_eq_true rfl, Nat.le_of_ble_eq_true rfl⟩) (preV_p (va_recv hK hP (ci := 0) (q0 := 0) rfl rfl) hP hK hZ hS) rfl rfl hl.1 rfl (lv_room (Nat.le_of_ble_eq_true rfl)) dX0_blockOver_34 ⟨Nat.le_of_ble_eq_true rfl, Nat.le_of_ble_eq_true rfl⟩) (fun r_12 hw => ?_)
      exact hret _ _ _ dX0_blockOver_37 hw
-- X0_isSlabOf
abbrev rmX0_isSlabOf : Room := { frames := 1, cells := 0, slots := 0, locals := 20 }
set_option maxHeartbeats 4000000 in
set_option maxRecDepth 100000 in
theorem c_X0_isSlabOf (l : Launch) (D : va_G) (g : Nat → Nat) (k : xC) (kd : Nat → Int32) (fm : Nat → Int32) (tk : Nat → Int32) (mr : Nat → Int32) (x1 : Int32) (x2 : Int32) (post : Int32 → Prop) (hw : wX0_isSlabOf post kd fm x1 x2) : CPi l yX0_isSlabOf wsX0_isSlabOf rmX0_isSlabOf D k [.ref (g 7), .int x1, .int x2] (xP g k kd fm tk mr) post := by
  refine met_pz (cc := cX0_isSlabOf) (nL := 3) (by decide) rfl (Nat.le_of_ble_eq_true rfl) ?_
  intro p e s m args below meth c Q ls hC hP hK hZ hS hl hret
  obtain ⟨hx, hb, hml, hown, hts⟩ := id hC
  have hC : CallFix p m c cX0_isSlabOf 3 s args wsX0_isSlabOf RX0 := hC
  have hown : s.vm.findClass RX0 = some m.cls := hown
  have hl : lv_has ls 3 [(0, .ref (g 7)), (1, .int x1), (2, .int x2)] := hl
  have hinX0 : ∀ w ∈ wsX00, w ∈ wsX0_isSlabOf := fun _ h => List.mem_cons_of_mem _ (List.mem_append_right _ h)
  unfold wX0_isSlabOf at hw
  refine lv_iload_n hx hb dX0_isSlabOf_0 rfl (lv_at hl 1 rfl) ?_
  refine pcall (va_runSN (As := [.int x1]) (rest := []) hC (c_X2_isPage l D k x1 _ hw s.heap) ⟨va_cnB 1 hts gX0_isSlabOf_X2_isPage_n30 rfl rfl rfl (hZ.2 (RX0, 30, yX2_isPage, "SlabHeap") (List.mem_of_getElem? (i := 2) rfl)) (hts (.initialized RX2) (by decide +kernel)) (by decide +kernel) ⟨Nat.le_of_ble_eq_true rfl, Nat.le_of_ble_eq_true rfl⟩, hts (.static yX2_isPage) (by decide +kernel), trivial⟩ (preS_p (hP.sub [] rfl) hK hZ hS) rfl rfl hl.1 rfl (lv_room (Nat.le_of_ble_eq_true rfl)) dX0_isSlabOf_1 ⟨Nat.le_of_ble_eq_true rfl, Nat.le_of_ble_eq_true rfl⟩) (fun r_1 hw => ?_)
  refine lv_if_eq (tgt := 31) hx hb dX0_isSlabOf_4 (by decide) (fun c_2 => ?_) (fun c_2 => ?_)
  · have hw := hw.1 c_2
    refine lv_iconst (v := 0) hx hb dX0_isSlabOf_31 (by decide) ?_
    exact hret _ _ _ dX0_isSlabOf_32 nb_0 hw
  · have hw := hw.2 c_2
    refine lv_aload_n hx hb dX0_isSlabOf_7 rfl (lv_at hl 0 rfl) ?_
    refine va_get (D := D) (ci := 0) (v := .ref (g 8)) (C := RX0) (T := TX0) (N := 4) hx hb hts hinX0 hown hK hP 0 rfl rfl 0 (by decide) (hts (.fieldLink RX0 9 "SlabHeap$Pages" "kinds" "[I") (by decide +kernel)) (fun _ h9 => h9) rfl dX0_isSlabOf_8 ?_
    refine lv_iload_n hx hb dX0_isSlabOf_11 rfl (lv_at hl 1 rfl) ?_
    obtain ⟨h_3, hw⟩ := hw
    refine va_iald hx hb hK hP 1 0 rfl rfl h_3 dX0_isSlabOf_12 ?_
    refine lv_iconst (v := 1) hx hb dX0_isSlabOf_13 (by decide) ?_
    refine lv_icmp_ne (tgt := 31) hx hb dX0_isSlabOf_14 (by decide) (fun c_4 => ?_) (fun c_4 => ?_)
    · have hw := hw.1 c_4
      refine lv_iconst (v := 0) hx hb dX0_isSlabOf_31 (by decide) ?_
      exact hret _ _ _ dX0_isSlabOf_32 nb_0 hw
    · have hw := hw.2 c_4
      refine lv_aload_n hx hb dX0_isSlabOf_17 rfl (lv_at hl 0 rfl) ?_
      refine va_get (D := D) (ci := 0) (v := .ref (g 9)) (C := RX0) (T := TX0) (N := 4) hx hb hts hinX0 hown hK hP 0 rfl rfl 1 (by decide) (hts (.fieldLink RX0 15 "SlabHeap$Pages" "forms" "[I") (by decide +kernel)) (fun _ h9 => h9) rfl dX0_isSlabOf_18 ?_
      refine lv_iload_n hx hb dX0_isSlabOf_21 rfl (lv_at hl 1 rfl) ?_
      obtain ⟨h_5, hw⟩ := hw
      refine va_iald hx hb hK hP 2 0 rfl rfl h_5 dX0_isSlabOf_22 ?_
      refine lv_iload_n hx hb dX0_isSlabOf_23 rfl (lv_at hl 2 rfl) ?_
      refine lv_icmp_ne (tgt := 31) hx hb dX0_isSlabOf_24 (by decide) (fun c_6 => ?_) (fun c_6 => ?_)
      · have hw := hw.1 c_6
        refine lv_iconst (v := 0) hx hb dX0_isSlabOf_31 (by decide) ?_
        exact hret _ _ _ dX0_isSlabOf_32 nb_0 hw
      · have hw := hw.2 c_6
        refine lv_iconst (v := 1) hx hb dX0_isSlabOf_27 (by decide) ?_
        refine lv_goto (tgt := 32) hx hb dX0_isSlabOf_28 (by decide) ?_
        exact hret _ _ _ dX0_isSlabOf_32 nb_1 hw
-- X0_emptySlot
abbrev rmX0_emptySlot : Room := { frames := 2, cells := 0, slots := 0, locals := 43 }
set_option maxHeartbeats 4000000 in
set_option maxRecDepth 100000 in
theorem c_X0_emptySlot (l : Launch) (D : va_G) (g : Nat → Nat) (k : xC) (kd : Nat → Int32) (fm : Nat → Int32) (tk : Nat → Int32) (mr : Nat → Int32) (x1 : Int32) (post : Int32 → Prop) (hw : wX0_emptySlot post kd fm tk x1) : CPi l yX0_emptySlot wsX0_emptySlot rmX0_emptySlot D k [.ref (g 7), .int x1] (xP g k kd fm tk mr) post := by
  refine met_pi (cc := cX0_emptySlot) (nL := 5) (by decide) rfl (Nat.le_of_ble_eq_true rfl) ?_
  intro p e s m args below meth c Q ls hC hP hK hZ hS hl hret
  obtain ⟨hx, hb, hml, hown, hts⟩ := id hC
  have hC : CallFix p m c cX0_emptySlot 5 s args wsX0_emptySlot RX0 := hC
  have hown : s.vm.findClass RX0 = some m.cls := hown
  have hl : lv_has ls 5 [(0, .ref (g 7)), (1, .int x1)] := hl
  have hinX0 : ∀ w ∈ wsX00, w ∈ wsX0_emptySlot := fun _ h => List.mem_cons_of_mem _ (List.mem_append_right _ h)
  have B30 : ∀ (J2 : Int32 → Int32 → Prop) (hJ2 : ∀ (x1 : Int32), ∀ (x2 : Int32), ∀ (ls : Array Slot), lv_has ls 5 [(0, .ref (g 7)), (1, .int x1), (2, .int x2)] → J2 x1 x2 → W p l e rmX0_emptySlot s m args below meth c s.heap [] 0 0 Q (F0 m 2 ls [])) (fu : Nat), ∀ (x1 : Int32), ∀ (x2 : Int32), ∀ (x3 : Int32), ∀ (x4 : Int32), ∀ (ls : Array Slot), lv_has ls 5 [(0, .ref (g 7)), (1, .int x1), (2, .int x2), (3, .int x3), (4, .int x4)] → wX0_emptySlot_30 post kd fm tk J2 fu x1 x2 x3 x4 → W p l e rmX0_emptySlot s m args below meth c s.heap [] 0 0 Q (F0 m 30 ls []) := by
    intro J2 hJ2 fu
    induction fu with
    | zero =>
      intro x1 x2 x3 x4 ls hl hw
      exact absurd hw (by unfold wX0_emptySlot_30; exact fun q => q)
    | succ n ih =>
      intro x1 x2 x3 x4 ls hl hw
      unfold wX0_emptySlot_30 at hw
      refine lv_iload hx hb dX0_emptySlot_30 (lv_at hl 4 rfl) ?_
      refine lv_iload_n hx hb dX0_emptySlot_32 rfl (lv_at hl 3 rfl) ?_
      refine lv_icmp_ge (tgt := 62) hx hb dX0_emptySlot_33 (by decide) (fun c_5 => ?_) (fun c_5 => ?_)
      · have hw := hw.1 c_5
        obtain ⟨x2_6, ex2_6⟩ : ∃ y : Int32, y = x2 + 1 := ⟨_, rfl⟩
        have hw := hw x2_6 ex2_6
        refine lv_iinc (v := x2_6) (lv' := [(2, .int x2_6), (0, .ref (g 7)), (1, .int x1), (3, .int x3), (4, .int x4)]) hx hb dX0_emptySlot_62 hl (k := 2) rfl (by rw [ex2_6]; rfl) (by decide) rfl (fun ls hl => ?_)
        refine lv_goto (tgt := 2) hx hb dX0_emptySlot_65 (by decide) ?_
        exact hJ2 x1 x2_6 ls (lv_sub hl [1, 2, 0] rfl) hw
      · have hw := hw.2 c_5
        refine lv_aload_n hx hb dX0_emptySlot_36 rfl (lv_at hl 0 rfl) ?_
        refine lv_iload_n hx hb dX0_emptySlot_37 rfl (lv_at hl 2 rfl) ?_
        refine lv_iload hx hb dX0_emptySlot_38 (lv_at hl 4 rfl) ?_
        refine pcall (va_runV (As := [.int x2, .int x4]) (rest := []) hC (c_X0_isTaken l D g k kd fm tk mr x2 x4 _ hw s.heap) (cwV 2 hts gX0_emptySlot_X0_isTaken rfl rfl rfl (by decide +kernel) ⟨Nat.le_of_ble_eq_true rfl, Nat.le_of_ble_eq_true rfl⟩) (preV_p (va_recv hK hP (ci := 0) (q0 := 0) rfl rfl) hP hK hZ hS) rfl rfl hl.1 rfl (lv_room (Nat.le_of_ble_eq_true rfl)) dX0_emptySlot_40 ⟨Nat.le_of_ble_eq_true rfl, Nat.le_of_ble_eq_true rfl⟩) (fun r_7 hw => ?_)
        refine lv_if_ne (tgt := 56) hx hb dX0_emptySlot_43 (by decide) (fun c_8 => ?_) (fun c_8 => ?_)
        · have hw := hw.1 c_8
          obtain ⟨x4_9, ex4_9⟩ : ∃ y : Int32, y = x4 + 1 := ⟨_, rfl⟩
          have hw := hw x4_9 ex4_9
          refine lv_iinc (v := x4_9) (lv' := [(4, .int x4_9), (0, .ref (g 7)), (1, .int x1), (2, .int x2), (3, .int x3)]) hx hb dX0_emptySlot_56 hl (k := 4) rfl (by rw [ex4_9]; rfl) (by decide) rfl (fun ls hl => ?_)
          refine lv_goto (tgt := 30) hx hb dX0_emptySlot_59 (by decide) ?_
          exact ih x1 x2 x3 x4_9 ls (lv_sub hl [1, 2, 3, 4, 0] rfl) hw
        · have hw := hw.2 c_8
          refine lv_iload_n hx hb dX0_emptySlot_46 rfl (lv_at hl 2 rfl) ?_
          refine lv_bipush (v := 16) hx hb dX0_emptySlot_47 (by decide) ?_
          refine lv_imul hx hb dX0_emptySlot_49 ?_
          refine lv_iload hx hb dX0_emptySlot_50 (lv_at hl 4 rfl) ?_
          refine lv_iload_n hx hb dX0_emptySlot_52 rfl (lv_at hl 1 rfl) ?_
          refine lv_imul hx hb dX0_emptySlot_53 ?_
          refine lv_iadd hx hb dX0_emptySlot_54 ?_
          exact hret _ _ _ dX0_emptySlot_55 hw
  have B2 : ∀ (fu : Nat), ∀ (x1 : Int32), ∀ (x2 : Int32), ∀ (ls : Array Slot), lv_has ls 5 [(0, .ref (g 7)), (1, .int x1), (2, .int x2)] → wX0_emptySlot_2 post kd fm tk fu x1 x2 → W p l e rmX0_emptySlot s m args below meth c s.heap [] 0 0 Q (F0 m 2 ls []) := by
    intro  fu
    induction fu with
    | zero =>
      intro x1 x2 ls hl hw
      exact absurd hw (by unfold wX0_emptySlot_2; exact fun q => q)
    | succ n ih =>
      intro x1 x2 ls hl hw
      unfold wX0_emptySlot_2 at hw
      refine lv_iload_n hx hb dX0_emptySlot_2 rfl (lv_at hl 2 rfl) ?_
      refine lv_sipush (v := 256) hx hb dX0_emptySlot_3 (by decide) ?_
      refine lv_icmp_ge (tgt := 68) hx hb dX0_emptySlot_6 (by decide) (fun c_1 => ?_) (fun c_1 => ?_)
      · have hw := hw.1 c_1
        refine lv_iconst (v := (-1)) hx hb dX0_emptySlot_68 (by decide) ?_
        exact hret _ _ _ dX0_emptySlot_69 hw
      · have hw := hw.2 c_1
        refine lv_aload_n hx hb dX0_emptySlot_9 rfl (lv_at hl 0 rfl) ?_
        refine lv_iload_n hx hb dX0_emptySlot_10 rfl (lv_at hl 2 rfl) ?_
        refine lv_iload_n hx hb dX0_emptySlot_11 rfl (lv_at hl 1 rfl) ?_
        refine pcall (va_runV (As := [.int x2, .int x1]) (rest := []) hC (c_X0_isSlabOf l D g k kd fm tk mr x2 x1 _ hw s.heap) (cwV 2 hts gX0_emptySlot_X0_isSlabOf rfl rfl rfl (by decide +kernel) ⟨Nat.le_of_ble_eq_true rfl, Nat.le_of_ble_eq_true rfl⟩) (preV_p (va_recv hK hP (ci := 0) (q0 := 0) rfl rfl) hP hK hZ hS) rfl rfl hl.1 rfl (lv_room (Nat.le_of_ble_eq_true rfl)) dX0_emptySlot_12 ⟨Nat.le_of_ble_eq_true rfl, Nat.le_of_ble_eq_true rfl⟩) (fun r_2 hw => ?_)
        refine lv_if_ne (tgt := 21) hx hb dX0_emptySlot_15 (by decide) (fun c_3 => ?_) (fun c_3 => ?_)
        · have hw := hw.1 c_3
          refine lv_aload_n hx hb dX0_emptySlot_21 rfl (lv_at hl 0 rfl) ?_
          refine lv_iload_n hx hb dX0_emptySlot_22 rfl (lv_at hl 2 rfl) ?_
          refine pcall (va_runV (As := [.int x2]) (rest := []) hC (c_X0_slotsOf l D g k kd fm tk mr x2 _ hw s.heap) (cwV 1 hts gX0_emptySlot_X0_slotsOf rfl rfl rfl (by decide +kernel) ⟨Nat.le_of_ble_eq_true rfl, Nat.le_of_ble_eq_true rfl⟩) (preV_p (va_recv hK hP (ci := 0) (q0 := 0) rfl rfl) hP hK hZ hS) rfl rfl hl.1 rfl (lv_room (Nat.le_of_ble_eq_true rfl)) dX0_emptySlot_23 ⟨Nat.le_of_ble_eq_true rfl, Nat.le_of_ble_eq_true rfl⟩) (fun r_4 hw => ?_)
          refine lv_istore_n (lv' := [(3, .int r_4), (0, .ref (g 7)), (1, .int x1), (2, .int x2)]) hx hb dX0_emptySlot_26 rfl hl (by decide) rfl (fun ls hl => ?_)
          refine lv_iconst (v := 0) hx hb dX0_emptySlot_27 (by decide) ?_
          refine lv_istore (lv' := [(4, .int 0), (3, .int r_4), (0, .ref (g 7)), (1, .int x1), (2, .int x2)]) hx hb dX0_emptySlot_28 hl (by decide) rfl (fun ls hl => ?_)
          obtain ⟨fu_10, hw⟩ := hw
          exact B30 (wX0_emptySlot_2 post kd fm tk n) ih fu_10 x1 x2 r_4 0 ls (lv_sub hl [2, 3, 4, 1, 0] rfl) hw
        · have hw := hw.2 c_3
          refine lv_goto (tgt := 62) hx hb dX0_emptySlot_18 (by decide) ?_
          obtain ⟨x2_11, ex2_11⟩ : ∃ y : Int32, y = x2 + 1 := ⟨_, rfl⟩
          have hw := hw x2_11 ex2_11
          refine lv_iinc (v := x2_11) (lv' := [(2, .int x2_11), (0, .ref (g 7)), (1, .int x1)]) hx hb dX0_emptySlot_62 hl (k := 2) rfl (by rw [ex2_11]; rfl) (by decide) rfl (fun ls hl => ?_)
          refine lv_goto (tgt := 2) hx hb dX0_emptySlot_65 (by decide) ?_
          exact ih x1 x2_11 ls (lv_sub hl [1, 2, 0] rfl) hw
  unfold wX0_emptySlot at hw
  refine lv_iconst (v := 1) hx hb dX0_emptySlot_0 (by decide) ?_
  refine lv_istore_n (lv' := [(2, .int 1), (0, .ref (g 7)), (1, .int x1)]) hx hb dX0_emptySlot_1 rfl hl (by decide) rfl (fun ls hl => ?_)
  obtain ⟨fu_12, hw⟩ := hw
  exact B2  fu_12 x1 1 ls (lv_sub hl [1, 2, 0] rfl) hw
-- X0_extentFor
abbrev rmX0_extentFor : Room := { frames := 3, cells := 0, slots := 0, locals := 67 }
set_option maxHeartbeats 4000000 in
set_option maxRecDepth 100000 in
theorem c_X0_extentFor (l : Launch) (D : va_G) (g : Nat → Nat) (k : xC) (kd : Nat → Int32) (fm : Nat → Int32) (tk : Nat → Int32) (mr : Nat → Int32) (x1 : Int32) (post : Int32 → Prop) (hw : wX0_extentFor post kd x1) : CPi l yX0_extentFor wsX0_extentFor rmX0_extentFor D k [.ref (g 7), .int x1] (xP g k kd fm tk mr) post := by
  refine met_pi (cc := cX0_extentFor) (nL := 4) (by decide) rfl (Nat.le_of_ble_eq_true rfl) ?_
  intro p e s m args below meth c Q ls hC hP hK hZ hS hl hret
  obtain ⟨hx, hb, hml, hown, hts⟩ := id hC
  have hC : CallFix p m c cX0_extentFor 4 s args wsX0_extentFor RX0 := hC
  have hown : s.vm.findClass RX0 = some m.cls := hown
  have hl : lv_has ls 4 [(0, .ref (g 7)), (1, .int x1)] := hl
  have hinX0 : ∀ w ∈ wsX00, w ∈ wsX0_extentFor := fun _ h => List.mem_cons_of_mem _ (List.mem_append_right _ h)
  have B19 : ∀ (J11 : Int32 → Prop) (hJ11 : ∀ (x2 : Int32), ∀ (ls : Array Slot), lv_has ls 4 [(0, .ref (g 7)), (2, .int x2)] → J11 x2 → W p l e rmX0_extentFor s m args below meth c s.heap [] 0 0 Q (F0 m 11 ls [])) (fu : Nat), ∀ (x2 : Int32), ∀ (x3 : Int32), ∀ (ls : Array Slot), lv_has ls 4 [(0, .ref (g 7)), (2, .int x2), (3, .int x3)] → wX0_extentFor_19 post kd J11 fu x2 x3 → W p l e rmX0_extentFor s m args below meth c s.heap [] 0 0 Q (F0 m 19 ls []) := by
    intro J11 hJ11 fu
    induction fu with
    | zero =>
      intro x2 x3 ls hl hw
      exact absurd hw (by unfold wX0_extentFor_19; exact fun q => q)
    | succ n ih =>
      intro x2 x3 ls hl hw
      unfold wX0_extentFor_19 at hw
      refine lv_iload_n hx hb dX0_extentFor_19 rfl (lv_at hl 2 rfl) ?_
      refine lv_sipush (v := 256) hx hb dX0_extentFor_20 (by decide) ?_
      refine lv_icmp_ge (tgt := 46) hx hb dX0_extentFor_23 (by decide) (fun c_4 => ?_) (fun c_4 => ?_)
      · have hw := hw.1 c_4
        obtain ⟨x2_5, ex2_5⟩ : ∃ y : Int32, y = x2 + 1 := ⟨_, rfl⟩
        have hw := hw x2_5 ex2_5
        refine lv_iinc (v := x2_5) (lv' := [(2, .int x2_5), (0, .ref (g 7)), (3, .int x3)]) hx hb dX0_extentFor_46 hl (k := 1) rfl (by rw [ex2_5]; rfl) (by decide) rfl (fun ls hl => ?_)
        refine lv_goto (tgt := 11) hx hb dX0_extentFor_49 (by decide) ?_
        exact hJ11 x2_5 ls (lv_sub hl [1, 0] rfl) hw
      · have hw := hw.2 c_4
        refine lv_aload_n hx hb dX0_extentFor_26 rfl (lv_at hl 0 rfl) ?_
        refine lv_iload_n hx hb dX0_extentFor_27 rfl (lv_at hl 2 rfl) ?_
        refine lv_iload_n hx hb dX0_extentFor_28 rfl (lv_at hl 1 rfl) ?_
        refine pcall (va_runV (As := [.int x3, .int x2]) (rest := []) hC (c_X0_isFreeExtent l D g k kd fm tk mr x3 x2 _ hw s.heap) (cwV 2 hts gX0_extentFor_X0_isFreeExtent rfl rfl rfl (by decide +kernel) ⟨Nat.le_of_ble_eq_true rfl, Nat.le_of_ble_eq_true rfl⟩) (preV_p (va_recv hK hP (ci := 0) (q0 := 0) rfl rfl) hP hK hZ hS) rfl rfl hl.1 rfl (lv_room (Nat.le_of_ble_eq_true rfl)) dX0_extentFor_29 ⟨Nat.le_of_ble_eq_true rfl, Nat.le_of_ble_eq_true rfl⟩) (fun r_6 hw => ?_)
        refine lv_if_eq (tgt := 37) hx hb dX0_extentFor_32 (by decide) (fun c_7 => ?_) (fun c_7 => ?_)
        · have hw := hw.1 c_7
          refine lv_iload_n hx hb dX0_extentFor_37 rfl (lv_at hl 2 rfl) ?_
          refine lv_iconst (v := 1) hx hb dX0_extentFor_38 (by decide) ?_
          refine lv_iload_n hx hb dX0_extentFor_39 rfl (lv_at hl 1 rfl) ?_
          refine lv_ishl hx hb dX0_extentFor_40 ?_
          refine lv_iadd hx hb dX0_extentFor_41 ?_
          refine lv_topi (fun x3_8 ex3_8 => ?_)
          have hw := hw x3_8 ex3_8
          refine lv_istore_n (lv' := [(3, .int x3_8), (0, .ref (g 7)), (2, .int x2)]) hx hb dX0_extentFor_42 rfl hl (by decide) rfl (fun ls hl => ?_)
          refine lv_goto (tgt := 19) hx hb dX0_extentFor_43 (by decide) ?_
          exact ih x2 x3_8 ls (lv_sub hl [1, 2, 0] rfl) hw
        · have hw := hw.2 c_7
          refine lv_iload_n hx hb dX0_extentFor_35 rfl (lv_at hl 2 rfl) ?_
          exact hret _ _ _ dX0_extentFor_36 hw
  have B11 : ∀ (fu : Nat), ∀ (x2 : Int32), ∀ (ls : Array Slot), lv_has ls 4 [(0, .ref (g 7)), (2, .int x2)] → wX0_extentFor_11 post kd fu x2 → W p l e rmX0_extentFor s m args below meth c s.heap [] 0 0 Q (F0 m 11 ls []) := by
    intro  fu
    induction fu with
    | zero =>
      intro x2 ls hl hw
      exact absurd hw (by unfold wX0_extentFor_11; exact fun q => q)
    | succ n ih =>
      intro x2 ls hl hw
      unfold wX0_extentFor_11 at hw
      refine lv_iload_n hx hb dX0_extentFor_11 rfl (lv_at hl 1 rfl) ?_
      refine lv_bipush (v := 8) hx hb dX0_extentFor_12 (by decide) ?_
      refine lv_icmp_gt (tgt := 52) hx hb dX0_extentFor_14 (by decide) (fun c_3 => ?_) (fun c_3 => ?_)
      · have hw := hw.1 c_3
        refine lv_iconst (v := (-1)) hx hb dX0_extentFor_52 (by decide) ?_
        exact hret _ _ _ dX0_extentFor_53 hw
      · have hw := hw.2 c_3
        refine lv_iconst (v := 0) hx hb dX0_extentFor_17 (by decide) ?_
        refine lv_istore_n (lv' := [(3, .int 0), (0, .ref (g 7)), (2, .int x2)]) hx hb dX0_extentFor_18 rfl hl (by decide) rfl (fun ls hl => ?_)
        obtain ⟨fu_9, hw⟩ := hw
        exact B19 (wX0_extentFor_11 post kd n) ih fu_9 x2 0 ls (lv_sub hl [1, 2, 0] rfl) hw
  unfold wX0_extentFor at hw
  refine lv_iload_n hx hb dX0_extentFor_0 rfl (lv_at hl 1 rfl) ?_
  refine pcall (va_runSN (As := [.int x1]) (rest := []) hC (c_X2_isOrder l D k x1 _ hw s.heap) ⟨va_cnB 1 hts gX0_extentFor_X2_isOrder_n110 rfl rfl rfl (hZ.2 (RX0, 110, yX2_isOrder, "SlabHeap") (List.mem_of_getElem? (i := 4) rfl)) (hts (.initialized RX2) (by decide +kernel)) (by decide +kernel) ⟨Nat.le_of_ble_eq_true rfl, Nat.le_of_ble_eq_true rfl⟩, hts (.static yX2_isOrder) (by decide +kernel), trivial⟩ (preS_p (hP.sub [] rfl) hK hZ hS) rfl rfl hl.1 rfl (lv_room (Nat.le_of_ble_eq_true rfl)) dX0_extentFor_1 ⟨Nat.le_of_ble_eq_true rfl, Nat.le_of_ble_eq_true rfl⟩) (fun r_1 hw => ?_)
  refine lv_if_ne (tgt := 9) hx hb dX0_extentFor_4 (by decide) (fun c_2 => ?_) (fun c_2 => ?_)
  · have hw := hw.1 c_2
    refine lv_iload_n hx hb dX0_extentFor_9 rfl (lv_at hl 1 rfl) ?_
    refine lv_istore_n (lv' := [(2, .int x1), (0, .ref (g 7)), (1, .int x1)]) hx hb dX0_extentFor_10 rfl hl (by decide) rfl (fun ls hl => ?_)
    obtain ⟨fu_10, hw⟩ := hw
    exact B11  fu_10 x1 ls (lv_sub hl [1, 0] rfl) hw
  · have hw := hw.2 c_2
    refine lv_iconst (v := (-1)) hx hb dX0_extentFor_7 (by decide) ?_
    exact hret _ _ _ dX0_extentFor_8 hw
-- X0_placeFor
abbrev rmX0_placeFor : Room := { frames := 4, cells := 0, slots := 0, locals := 90 }
set_option maxHeartbeats 4000000 in
set_option maxRecDepth 100000 in
theorem c_X0_placeFor (l : Launch) (D : va_G) (g : Nat → Nat) (k : xC) (kd : Nat → Int32) (fm : Nat → Int32) (tk : Nat → Int32) (mr : Nat → Int32) (x1 : Int32) (post : Int32 → Prop) (hw : wX0_placeFor post kd fm tk x1) : CPi l yX0_placeFor wsX0_placeFor rmX0_placeFor D k [.ref (g 7), .int x1] (xP g k kd fm tk mr) post := by
  refine met_pi (cc := cX0_placeFor) (nL := 5) (by decide) rfl (Nat.le_of_ble_eq_true rfl) ?_
  intro p e s m args below meth c Q ls hC hP hK hZ hS hl hret
  obtain ⟨hx, hb, hml, hown, hts⟩ := id hC
  have hC : CallFix p m c cX0_placeFor 5 s args wsX0_placeFor RX0 := hC
  have hown : s.vm.findClass RX0 = some m.cls := hown
  have hl : lv_has ls 5 [(0, .ref (g 7)), (1, .int x1)] := hl
  have hinX0 : ∀ w ∈ wsX00, w ∈ wsX0_placeFor := fun _ h => List.mem_cons_of_mem _ (List.mem_append_right _ h)
  have B39 : ∀ (z0 : Int32), ∀ (ls : Array Slot), lv_has ls 5 [] → wX0_placeFor_39 post kd fm tk z0 → W p l e rmX0_placeFor s m args below meth c s.heap [] 0 0 Q (F0 m 39 ls [.int z0, .ref (g 7)]) := by
    intro  z0 ls hl hw
    unfold wX0_placeFor_39 at hw
    refine pcall (va_runV (As := [.int z0]) (rest := []) hC (c_X0_extentFor l D g k kd fm tk mr z0 _ hw s.heap) (cwV 1 hts gX0_placeFor_X0_extentFor rfl rfl rfl (by decide +kernel) ⟨Nat.le_of_ble_eq_true rfl, Nat.le_of_ble_eq_true rfl⟩) (preV_p (va_recv hK hP (ci := 0) (q0 := 0) rfl rfl) hP hK hZ hS) rfl rfl hl.1 rfl (lv_room (Nat.le_of_ble_eq_true rfl)) dX0_placeFor_39 ⟨Nat.le_of_ble_eq_true rfl, Nat.le_of_ble_eq_true rfl⟩) (fun r_6 hw => ?_)
    refine lv_istore (lv' := [(4, .int r_6)]) hx hb dX0_placeFor_42 hl (by decide) rfl (fun ls hl => ?_)
    refine lv_iload hx hb dX0_placeFor_44 (lv_at hl 0 rfl) ?_
    refine lv_iconst (v := (-1)) hx hb dX0_placeFor_46 (by decide) ?_
    refine lv_icmp_ne (tgt := 54) hx hb dX0_placeFor_47 (by decide) (fun c_7 => ?_) (fun c_7 => ?_)
    · have hw := hw.1 c_7
      refine lv_iload hx hb dX0_placeFor_54 (lv_at hl 0 rfl) ?_
      refine lv_bipush (v := 16) hx hb dX0_placeFor_56 (by decide) ?_
      refine lv_imul hx hb dX0_placeFor_58 ?_
      exact hret _ _ _ dX0_placeFor_59 hw
    · have hw := hw.2 c_7
      refine lv_iconst (v := (-1)) hx hb dX0_placeFor_50 (by decide) ?_
      refine lv_goto (tgt := 59) hx hb dX0_placeFor_51 (by decide) ?_
      exact hret _ _ _ dX0_placeFor_59 hw
  have B18 : ∀ (x1 : Int32), ∀ (x2 : Int32), ∀ (z0 : Int32), ∀ (ls : Array Slot), lv_has ls 5 [(0, .ref (g 7)), (1, .int x1), (2, .int x2)] → wX0_placeFor_18 post kd fm tk x1 x2 z0 → W p l e rmX0_placeFor s m args below meth c s.heap [] 0 0 Q (F0 m 18 ls [.int z0]) := by
    intro  x1 x2 z0 ls hl hw
    unfold wX0_placeFor_18 at hw
    refine lv_istore_n (lv' := [(3, .int z0), (0, .ref (g 7)), (1, .int x1), (2, .int x2)]) hx hb dX0_placeFor_18 rfl hl (by decide) rfl (fun ls hl => ?_)
    refine lv_iload_n hx hb dX0_placeFor_19 rfl (lv_at hl 0 rfl) ?_
    refine lv_iconst (v := (-1)) hx hb dX0_placeFor_20 (by decide) ?_
    refine lv_icmp_eq (tgt := 26) hx hb dX0_placeFor_21 (by decide) (fun c_3 => ?_) (fun c_3 => ?_)
    · have hw := hw.1 c_3
      refine lv_aload_n hx hb dX0_placeFor_26 rfl (lv_at hl 1 rfl) ?_
      refine lv_iload_n hx hb dX0_placeFor_27 rfl (lv_at hl 3 rfl) ?_
      refine lv_if_le (tgt := 35) hx hb dX0_placeFor_28 (by decide) (fun c_4 => ?_) (fun c_4 => ?_)
      · have hw := hw.1 c_4
        refine lv_iload_n hx hb dX0_placeFor_35 rfl (lv_at hl 2 rfl) ?_
        refine pcall (va_runSN (As := [.int x1]) (rest := [.ref (g 7)]) hC (c_X2_orderFor l D k x1 _ hw s.heap) ⟨va_cnB 1 hts gX0_placeFor_X2_orderFor_n75 rfl rfl rfl (hZ.2 (RX0, 75, yX2_orderFor, "SlabHeap") (List.mem_of_getElem? (i := 3) rfl)) (hts (.initialized RX2) (by decide +kernel)) (by decide +kernel) ⟨Nat.le_of_ble_eq_true rfl, Nat.le_of_ble_eq_true rfl⟩, hts (.static yX2_orderFor) (by decide +kernel), trivial⟩ (preS_p (hP.sub [] rfl) hK hZ hS) rfl rfl hl.1 rfl (lv_room (Nat.le_of_ble_eq_true rfl)) dX0_placeFor_36 ⟨Nat.le_of_ble_eq_true rfl, Nat.le_of_ble_eq_true rfl⟩) (fun r_5 hw => ?_)
        exact B39  r_5 ls (lv_sub hl [] rfl) hw
      · have hw := hw.2 c_4
        refine lv_iconst (v := 0) hx hb dX0_placeFor_31 (by decide) ?_
        refine lv_goto (tgt := 39) hx hb dX0_placeFor_32 (by decide) ?_
        exact B39  0 ls (lv_sub hl [] rfl) hw
    · have hw := hw.2 c_3
      refine lv_iload_n hx hb dX0_placeFor_24 rfl (lv_at hl 0 rfl) ?_
      exact hret _ _ _ dX0_placeFor_25 hw
  unfold wX0_placeFor at hw
  refine lv_iload_n hx hb dX0_placeFor_0 rfl (lv_at hl 1 rfl) ?_
  refine pcall (va_runSN (As := [.int x1]) (rest := []) hC (c_X2_classFor l D k x1 _ hw s.heap) ⟨va_cnB 1 hts gX0_placeFor_X2_classFor_n69 rfl rfl rfl (hZ.2 (RX0, 69, yX2_classFor, "SlabHeap") (List.mem_of_getElem? (i := 1) rfl)) (hts (.initialized RX2) (by decide +kernel)) (by decide +kernel) ⟨Nat.le_of_ble_eq_true rfl, Nat.le_of_ble_eq_true rfl⟩, hts (.static yX2_classFor) (by decide +kernel), trivial⟩ (preS_p (hP.sub [] rfl) hK hZ hS) rfl rfl hl.1 rfl (lv_room (Nat.le_of_ble_eq_true rfl)) dX0_placeFor_1 ⟨Nat.le_of_ble_eq_true rfl, Nat.le_of_ble_eq_true rfl⟩) (fun r_1 hw => ?_)
  refine lv_istore_n (lv' := [(2, .int r_1), (0, .ref (g 7)), (1, .int x1)]) hx hb dX0_placeFor_4 rfl hl (by decide) rfl (fun ls hl => ?_)
  refine lv_iload_n hx hb dX0_placeFor_5 rfl (lv_at hl 0 rfl) ?_
  refine lv_if_le (tgt := 17) hx hb dX0_placeFor_6 (by decide) (fun c_2 => ?_) (fun c_2 => ?_)
  · have hw := hw.1 c_2
    refine lv_iconst (v := (-1)) hx hb dX0_placeFor_17 (by decide) ?_
    exact B18  x1 r_1 (-1) ls (lv_sub hl [1, 2, 0] rfl) hw
  · have hw := hw.2 c_2
    refine lv_aload_n hx hb dX0_placeFor_9 rfl (lv_at hl 1 rfl) ?_
    refine lv_iload_n hx hb dX0_placeFor_10 rfl (lv_at hl 0 rfl) ?_
    refine pcall (va_runV (As := [.int r_1]) (rest := []) hC (c_X0_emptySlot l D g k kd fm tk mr r_1 _ hw s.heap) (cwV 1 hts gX0_placeFor_X0_emptySlot rfl rfl rfl (by decide +kernel) ⟨Nat.le_of_ble_eq_true rfl, Nat.le_of_ble_eq_true rfl⟩) (preV_p (va_recv hK hP (ci := 0) (q0 := 0) rfl rfl) hP hK hZ hS) rfl rfl hl.1 rfl (lv_room (Nat.le_of_ble_eq_true rfl)) dX0_placeFor_11 ⟨Nat.le_of_ble_eq_true rfl, Nat.le_of_ble_eq_true rfl⟩) (fun r_8 hw => ?_)
    refine lv_goto (tgt := 18) hx hb dX0_placeFor_14 (by decide) ?_
    exact B18  x1 r_1 r_8 ls (lv_sub hl [1, 2, 0] rfl) hw
-- X0_canHold
abbrev rmX0_canHold : Room := { frames := 2, cells := 0, slots := 0, locals := 45 }
set_option maxHeartbeats 4000000 in
set_option maxRecDepth 100000 in
theorem c_X0_canHold (l : Launch) (D : va_G) (g : Nat → Nat) (k : xC) (kd : Nat → Int32) (fm : Nat → Int32) (tk : Nat → Int32) (mr : Nat → Int32) (x1 : Int32) (x2 : Int32) (post : Int32 → Prop) (hw : wX0_canHold post kd fm x1 x2) : CPi l yX0_canHold wsX0_canHold rmX0_canHold D k [.ref (g 7), .int x1, .int x2] (xP g k kd fm tk mr) post := by
  refine met_pz (cc := cX0_canHold) (nL := 6) (by decide) rfl (Nat.le_of_ble_eq_true rfl) ?_
  intro p e s m args below meth c Q ls hC hP hK hZ hS hl hret
  obtain ⟨hx, hb, hml, hown, hts⟩ := id hC
  have hC : CallFix p m c cX0_canHold 6 s args wsX0_canHold RX0 := hC
  have hown : s.vm.findClass RX0 = some m.cls := hown
  have hl : lv_has ls 6 [(0, .ref (g 7)), (1, .int x1), (2, .int x2)] := hl
  have hinX0 : ∀ w ∈ wsX00, w ∈ wsX0_canHold := fun _ h => List.mem_cons_of_mem _ (List.mem_append_right _ h)
  have B34 : ∀ (x3 : Int32), ∀ (x4 : Int32), ∀ (z0 : Int32), ∀ (ls : Array Slot), lv_has ls 6 [(0, .ref (g 7)), (3, .int x3), (4, .int x4)] → wX0_canHold_34 post kd fm x3 x4 z0 → W p l e rmX0_canHold s m args below meth c s.heap [] 0 0 Q (F0 m 34 ls [.int z0]) := by
    intro  x3 x4 z0 ls hl hw
    unfold wX0_canHold_34 at hw
    refine lv_istore (lv' := [(5, .int z0), (0, .ref (g 7)), (3, .int x3), (4, .int x4)]) hx hb dX0_canHold_34 hl (by decide) rfl (fun ls hl => ?_)
    refine lv_iload hx hb dX0_canHold_36 (lv_at hl 0 rfl) ?_
    refine lv_if_eq (tgt := 63) hx hb dX0_canHold_38 (by decide) (fun c_12 => ?_) (fun c_12 => ?_)
    · have hw := hw.1 c_12
      refine lv_iconst (v := 0) hx hb dX0_canHold_63 (by decide) ?_
      exact hret _ _ _ dX0_canHold_64 nb_0 hw
    · have hw := hw.2 c_12
      refine lv_aload_n hx hb dX0_canHold_41 rfl (lv_at hl 1 rfl) ?_
      refine lv_iload_n hx hb dX0_canHold_42 rfl (lv_at hl 2 rfl) ?_
      refine pcall (va_runV (As := [.int x3]) (rest := []) hC (c_X0_kindOf l D g k kd fm tk mr x3 _ hw s.heap) (cwV 1 hts gX0_canHold_X0_kindOf rfl rfl rfl (by decide +kernel) ⟨Nat.le_of_ble_eq_true rfl, Nat.le_of_ble_eq_true rfl⟩) (preV_p (va_recv hK hP (ci := 0) (q0 := 0) rfl rfl) hP hK hZ hS) rfl rfl hl.1 rfl (lv_room (Nat.le_of_ble_eq_true rfl)) dX0_canHold_43 ⟨Nat.le_of_ble_eq_true rfl, Nat.le_of_ble_eq_true rfl⟩) (fun r_13 hw => ?_)
      refine lv_if_eq (tgt := 59) hx hb dX0_canHold_46 (by decide) (fun c_14 => ?_) (fun c_14 => ?_)
      · have hw := hw.1 c_14
        refine lv_iconst (v := 1) hx hb dX0_canHold_59 (by decide) ?_
        refine lv_goto (tgt := 64) hx hb dX0_canHold_60 (by decide) ?_
        exact hret _ _ _ dX0_canHold_64 nb_1 hw
      · have hw := hw.2 c_14
        refine lv_aload_n hx hb dX0_canHold_49 rfl (lv_at hl 1 rfl) ?_
        refine lv_iload_n hx hb dX0_canHold_50 rfl (lv_at hl 2 rfl) ?_
        refine lv_iload hx hb dX0_canHold_51 (lv_at hl 3 rfl) ?_
        refine pcall (va_runV (As := [.int x3, .int x4]) (rest := []) hC (c_X0_isSlabOf l D g k kd fm tk mr x3 x4 _ hw s.heap) (cwV 2 hts gX0_canHold_X0_isSlabOf rfl rfl rfl (by decide +kernel) ⟨Nat.le_of_ble_eq_true rfl, Nat.le_of_ble_eq_true rfl⟩) (preV_p (va_recv hK hP (ci := 0) (q0 := 0) rfl rfl) hP hK hZ hS) rfl rfl hl.1 rfl (lv_room (Nat.le_of_ble_eq_true rfl)) dX0_canHold_53 ⟨Nat.le_of_ble_eq_true rfl, Nat.le_of_ble_eq_true rfl⟩) (fun r_15 hw => ?_)
        refine lv_if_eq (tgt := 63) hx hb dX0_canHold_56 (by decide) (fun c_16 => ?_) (fun c_16 => ?_)
        · have hw := hw.1 c_16
          refine lv_iconst (v := 0) hx hb dX0_canHold_63 (by decide) ?_
          exact hret _ _ _ dX0_canHold_64 nb_0 hw
        · have hw := hw.2 c_16
          refine lv_iconst (v := 1) hx hb dX0_canHold_59 (by decide) ?_
          refine lv_goto (tgt := 64) hx hb dX0_canHold_60 (by decide) ?_
          exact hret _ _ _ dX0_canHold_64 nb_1 hw
  unfold wX0_canHold at hw
  refine lv_iload_n hx hb dX0_canHold_0 rfl (lv_at hl 1 rfl) ?_
  refine pcall (va_runS (As := [.int x1]) (rest := []) hC (c_X0_pageOf l D k x1 _ hw s.heap) (va_cwS 1 hts gX0_canHold_X0_pageOf rfl rfl rfl (by decide +kernel) ⟨Nat.le_of_ble_eq_true rfl, Nat.le_of_ble_eq_true rfl⟩) (preS_p (hP.sub [] rfl) hK hZ hS) rfl rfl hl.1 rfl (lv_room (Nat.le_of_ble_eq_true rfl)) dX0_canHold_1 ⟨Nat.le_of_ble_eq_true rfl, Nat.le_of_ble_eq_true rfl⟩) (fun r_1 hw => ?_)
  refine lv_istore_n (lv' := [(3, .int r_1), (0, .ref (g 7)), (1, .int x1), (2, .int x2)]) hx hb dX0_canHold_4 rfl hl (by decide) rfl (fun ls hl => ?_)
  refine lv_iload_n hx hb dX0_canHold_5 rfl (lv_at hl 3 rfl) ?_
  refine pcall (va_runSN (As := [.int x2]) (rest := []) hC (c_X2_classFor l D k x2 _ hw s.heap) ⟨va_cnB 1 hts gX0_canHold_X2_classFor_n69 rfl rfl rfl (hZ.2 (RX0, 69, yX2_classFor, "SlabHeap") (List.mem_of_getElem? (i := 1) rfl)) (hts (.initialized RX2) (by decide +kernel)) (by decide +kernel) ⟨Nat.le_of_ble_eq_true rfl, Nat.le_of_ble_eq_true rfl⟩, hts (.static yX2_classFor) (by decide +kernel), trivial⟩ (preS_p (hP.sub [] rfl) hK hZ hS) rfl rfl hl.1 rfl (lv_room (Nat.le_of_ble_eq_true rfl)) dX0_canHold_6 ⟨Nat.le_of_ble_eq_true rfl, Nat.le_of_ble_eq_true rfl⟩) (fun r_2 hw => ?_)
  refine lv_istore (lv' := [(4, .int r_2), (3, .int r_1), (0, .ref (g 7)), (1, .int x1), (2, .int x2)]) hx hb dX0_canHold_9 hl (by decide) rfl (fun ls hl => ?_)
  refine lv_iload hx hb dX0_canHold_11 (lv_at hl 0 rfl) ?_
  refine lv_if_le (tgt := 65) hx hb dX0_canHold_13 (by decide) (fun c_3 => ?_) (fun c_3 => ?_)
  · have hw := hw.1 c_3
    refine lv_iload_n hx hb dX0_canHold_65 rfl (lv_at hl 4 rfl) ?_
    refine pcall (va_runSN (As := [.int x2]) (rest := []) hC (c_X2_orderFor l D k x2 _ hw s.heap) ⟨va_cnB 1 hts gX0_canHold_X2_orderFor_n75 rfl rfl rfl (hZ.2 (RX0, 75, yX2_orderFor, "SlabHeap") (List.mem_of_getElem? (i := 3) rfl)) (hts (.initialized RX2) (by decide +kernel)) (by decide +kernel) ⟨Nat.le_of_ble_eq_true rfl, Nat.le_of_ble_eq_true rfl⟩, hts (.static yX2_orderFor) (by decide +kernel), trivial⟩ (preS_p (hP.sub [] rfl) hK hZ hS) rfl rfl hl.1 rfl (lv_room (Nat.le_of_ble_eq_true rfl)) dX0_canHold_66 ⟨Nat.le_of_ble_eq_true rfl, Nat.le_of_ble_eq_true rfl⟩) (fun r_4 hw => ?_)
    refine lv_istore (lv' := [(5, .int r_4), (4, .int r_2), (3, .int r_1), (0, .ref (g 7)), (1, .int x1), (2, .int x2)]) hx hb dX0_canHold_69 hl (by decide) rfl (fun ls hl => ?_)
    refine lv_iload_n hx hb dX0_canHold_71 rfl (lv_at hl 4 rfl) ?_
    refine lv_bipush (v := 16) hx hb dX0_canHold_72 (by decide) ?_
    refine lv_irem hx hb dX0_canHold_74 (by decide) ?_
    refine lv_if_ne (tgt := 102) hx hb dX0_canHold_75 (by decide) (fun c_5 => ?_) (fun c_5 => ?_)
    · have hw := hw.1 c_5
      refine lv_iconst (v := 0) hx hb dX0_canHold_102 (by decide) ?_
      exact hret _ _ _ dX0_canHold_103 nb_0 hw
    · have hw := hw.2 c_5
      refine lv_iload_n hx hb dX0_canHold_78 rfl (lv_at hl 2 rfl) ?_
      refine lv_iload hx hb dX0_canHold_79 (lv_at hl 0 rfl) ?_
      refine pcall (va_runS (As := [.int r_1, .int r_4]) (rest := []) hC (c_X0_alignedTo l D k r_1 r_4 _ hw s.heap) (va_cwS 2 hts gX0_canHold_X0_alignedTo rfl rfl rfl (by decide +kernel) ⟨Nat.le_of_ble_eq_true rfl, Nat.le_of_ble_eq_true rfl⟩) (preS_p (hP.sub [] rfl) hK hZ hS) rfl rfl hl.1 rfl (lv_room (Nat.le_of_ble_eq_true rfl)) dX0_canHold_81 ⟨Nat.le_of_ble_eq_true rfl, Nat.le_of_ble_eq_true rfl⟩) (fun r_6 hw => ?_)
      refine lv_iload_n hx hb dX0_canHold_84 rfl (lv_at hl 2 rfl) ?_
      refine lv_icmp_ne (tgt := 102) hx hb dX0_canHold_85 (by decide) (fun c_7 => ?_) (fun c_7 => ?_)
      · have hw := hw.1 c_7
        refine lv_iconst (v := 0) hx hb dX0_canHold_102 (by decide) ?_
        exact hret _ _ _ dX0_canHold_103 nb_0 hw
      · have hw := hw.2 c_7
        refine lv_aload_n hx hb dX0_canHold_88 rfl (lv_at hl 3 rfl) ?_
        refine lv_iload_n hx hb dX0_canHold_89 rfl (lv_at hl 2 rfl) ?_
        refine lv_iload hx hb dX0_canHold_90 (lv_at hl 0 rfl) ?_
        refine pcall (va_runV (As := [.int r_1, .int r_4]) (rest := []) hC (c_X0_isFreeRun l D g k kd fm tk mr r_1 r_4 _ hw s.heap) (cwV 2 hts gX0_canHold_X0_isFreeRun rfl rfl rfl (by decide +kernel) ⟨Nat.le_of_ble_eq_true rfl, Nat.le_of_ble_eq_true rfl⟩) (preV_p (va_recv hK hP (ci := 0) (q0 := 0) rfl rfl) hP hK hZ hS) rfl rfl hl.1 rfl (lv_room (Nat.le_of_ble_eq_true rfl)) dX0_canHold_92 ⟨Nat.le_of_ble_eq_true rfl, Nat.le_of_ble_eq_true rfl⟩) (fun r_8 hw => ?_)
        refine lv_if_eq (tgt := 102) hx hb dX0_canHold_95 (by decide) (fun c_9 => ?_) (fun c_9 => ?_)
        · have hw := hw.1 c_9
          refine lv_iconst (v := 0) hx hb dX0_canHold_102 (by decide) ?_
          exact hret _ _ _ dX0_canHold_103 nb_0 hw
        · have hw := hw.2 c_9
          refine lv_iconst (v := 1) hx hb dX0_canHold_98 (by decide) ?_
          refine lv_goto (tgt := 103) hx hb dX0_canHold_99 (by decide) ?_
          exact hret _ _ _ dX0_canHold_103 nb_1 hw
  · have hw := hw.2 c_3
    refine lv_iload hx hb dX0_canHold_16 (lv_at hl 0 rfl) ?_
    refine lv_iload_n hx hb dX0_canHold_18 rfl (lv_at hl 3 rfl) ?_
    refine lv_bipush (v := 16) hx hb dX0_canHold_19 (by decide) ?_
    refine lv_irem hx hb dX0_canHold_21 (by decide) ?_
    refine pcall (va_runS (As := [.int r_2, .int (x1 - x1 / 16 * 16)]) (rest := []) hC (c_X0_slotBy l D k r_2 (x1 - x1 / 16 * 16) _ hw s.heap) (va_cwS 2 hts gX0_canHold_X0_slotBy rfl rfl rfl (by decide +kernel) ⟨Nat.le_of_ble_eq_true rfl, Nat.le_of_ble_eq_true rfl⟩) (preS_p (hP.sub [] rfl) hK hZ hS) rfl rfl hl.1 rfl (lv_room (Nat.le_of_ble_eq_true rfl)) dX0_canHold_22 ⟨Nat.le_of_ble_eq_true rfl, Nat.le_of_ble_eq_true rfl⟩) (fun r_10 hw => ?_)
    refine lv_iconst (v := (-1)) hx hb dX0_canHold_25 (by decide) ?_
    refine lv_icmp_eq (tgt := 33) hx hb dX0_canHold_26 (by decide) (fun c_11 => ?_) (fun c_11 => ?_)
    · have hw := hw.1 c_11
      refine lv_iconst (v := 0) hx hb dX0_canHold_33 (by decide) ?_
      exact B34  r_1 r_2 0 ls (lv_sub hl [2, 1, 0] rfl) hw
    · have hw := hw.2 c_11
      refine lv_iconst (v := 1) hx hb dX0_canHold_29 (by decide) ?_
      refine lv_goto (tgt := 34) hx hb dX0_canHold_30 (by decide) ?_
      exact B34  r_1 r_2 1 ls (lv_sub hl [2, 1, 0] rfl) hw
-- X0_lay
abbrev rmX0_lay : Room := { frames := 1, cells := 0, slots := 0, locals := 20 }
set_option maxHeartbeats 4000000 in
set_option maxRecDepth 100000 in
theorem c_X0_lay (l : Launch) (D : va_G) (g : Nat → Nat) (k : xC) (kd : Nat → Int32) (fm : Nat → Int32) (tk : Nat → Int32) (mr : Nat → Int32) (x1 : Int32) (x2 : Int32) (x3 : Int32) (post : (Nat → Int32) → (Nat → Int32) → Prop) (hw : wX0_lay post kd fm x1 x2 x3) : CMv l yX0_lay wsX0_lay rmX0_lay D k [.ref (g 7), .int x1, .int x2, .int x3] (fun v : (Nat → Int32) × (Nat → Int32) => (xP g k (v.1) (v.2) tk mr)) (kd, fm) (fun v => post (v.1) (v.2)) := by
  refine met_mv (cc := cX0_lay) (nL := 4) (by decide) rfl (Nat.le_of_ble_eq_true rfl) ?_
  intro p e s m args below meth c Q A ls hC hP hD hA hK hZ hS hl hret
  obtain ⟨hx, hb, hml, hown, hts⟩ := id hC
  have hC : CallFix p m c cX0_lay 4 s args wsX0_lay RX0 := hC
  have hown : s.vm.findClass RX0 = some m.cls := hown
  have hl : lv_has ls 4 [(0, .ref (g 7)), (1, .int x1), (2, .int x2), (3, .int x3)] := hl
  have hP : va_P D vwCl (xP g k kd fm tk mr) s.heap := hP
  have hD : va_D A (xP g k kd fm tk mr) := hD
  have hinX0 : ∀ w ∈ wsX00, w ∈ wsX0_lay := fun _ h => List.mem_cons_of_mem _ (List.mem_append_right _ h)
  unfold wX0_lay at hw
  suffices main : ∀ (H : Heap) (locs : List Loc), va_P D vwCl (xP g k kd fm tk mr) H → va_D A (xP g k kd fm tk mr) → va_S A s.heap H locs → W p l e rmX0_lay s m args below meth c H locs 0 0 Q (F0 m 0 ls []) from main _ _ hP hD hS
  intro H locs hP hD hS
  refine lv_iload_n hx hb dX0_lay_0 rfl (lv_at hl 1 rfl) ?_
  refine pcall (va_runSN (As := [.int x1]) (rest := []) hC (c_X2_isPage l D k x1 _ hw H) ⟨va_cnB 1 hts gX0_lay_X2_isPage_n30 rfl rfl rfl (hZ.2 (RX0, 30, yX2_isPage, "SlabHeap") (List.mem_of_getElem? (i := 2) rfl)) (hts (.initialized RX2) (by decide +kernel)) (by decide +kernel) ⟨Nat.le_of_ble_eq_true rfl, Nat.le_of_ble_eq_true rfl⟩, hts (.static yX2_isPage) (by decide +kernel), trivial⟩ (preS_p (hP.sub [] rfl) hK hZ hS) rfl rfl hl.1 rfl (lv_room (Nat.le_of_ble_eq_true rfl)) dX0_lay_1 ⟨Nat.le_of_ble_eq_true rfl, Nat.le_of_ble_eq_true rfl⟩) (fun r_1 hw => ?_)
  refine lv_if_eq (tgt := 21) hx hb dX0_lay_4 (by decide) (fun c_2 => ?_) (fun c_2 => ?_)
  · have hw := hw.1 c_2
    exact hret _ _ (kd, fm) _ _ hP hD hS dX0_lay_21 hw
  · have hw := hw.2 c_2
    refine lv_aload_n hx hb dX0_lay_7 rfl (lv_at hl 0 rfl) ?_
    refine va_get (D := D) (ci := 0) (v := .ref (g 8)) (C := RX0) (T := TX0) (N := 4) hx hb hts hinX0 hown hK hP 0 rfl rfl 0 (by decide) (hts (.fieldLink RX0 9 "SlabHeap$Pages" "kinds" "[I") (by decide +kernel)) (fun _ h9 => h9) rfl dX0_lay_8 ?_
    refine lv_iload_n hx hb dX0_lay_11 rfl (lv_at hl 1 rfl) ?_
    refine lv_iload_n hx hb dX0_lay_12 rfl (lv_at hl 2 rfl) ?_
    obtain ⟨h_3, hw⟩ := hw
    refine va_iast hx hb hK hP hD hS 1 0 rfl rfl h_3 dX0_lay_13 (fun H locs hP hD hS => ?_)
    have hP : va_P D vwCl (xP g k (upd kd x1.toNatClampNeg x2) fm tk mr) H := hP
    have hD : va_D A (xP g k (upd kd x1.toNatClampNeg x2) fm tk mr) := hD
    refine lv_aload_n hx hb dX0_lay_14 rfl (lv_at hl 0 rfl) ?_
    refine va_get (D := D) (ci := 0) (v := .ref (g 9)) (C := RX0) (T := TX0) (N := 4) hx hb hts hinX0 hown hK hP 0 rfl rfl 1 (by decide) (hts (.fieldLink RX0 15 "SlabHeap$Pages" "forms" "[I") (by decide +kernel)) (fun _ h9 => h9) rfl dX0_lay_15 ?_
    refine lv_iload_n hx hb dX0_lay_18 rfl (lv_at hl 1 rfl) ?_
    refine lv_iload_n hx hb dX0_lay_19 rfl (lv_at hl 3 rfl) ?_
    obtain ⟨h_4, hw⟩ := hw
    refine va_iast hx hb hK hP hD hS 2 0 rfl rfl h_4 dX0_lay_20 (fun H locs hP hD hS => ?_)
    have hP : va_P D vwCl (xP g k (upd kd x1.toNatClampNeg x2) (upd fm x1.toNatClampNeg x3) tk mr) H := hP
    have hD : va_D A (xP g k (upd kd x1.toNatClampNeg x2) (upd fm x1.toNatClampNeg x3) tk mr) := hD
    exact hret _ _ ((upd kd x1.toNatClampNeg x2), (upd fm x1.toNatClampNeg x3)) _ _ hP hD hS dX0_lay_21 hw
-- X0_layExtent
abbrev rmX0_layExtent : Room := { frames := 2, cells := 0, slots := 0, locals := 43 }
set_option maxHeartbeats 4000000 in
set_option maxRecDepth 100000 in
theorem c_X0_layExtent (l : Launch) (D : va_G) (g : Nat → Nat) (k : xC) (kd : Nat → Int32) (fm : Nat → Int32) (tk : Nat → Int32) (mr : Nat → Int32) (x1 : Int32) (x2 : Int32) (post : (Nat → Int32) → (Nat → Int32) → Prop) (hw : wX0_layExtent post kd fm x1 x2) : CMv l yX0_layExtent wsX0_layExtent rmX0_layExtent D k [.ref (g 7), .int x1, .int x2] (fun v : (Nat → Int32) × (Nat → Int32) => (xP g k (v.1) (v.2) tk mr)) (kd, fm) (fun v => post (v.1) (v.2)) := by
  refine met_mv (cc := cX0_layExtent) (nL := 5) (by decide) rfl (Nat.le_of_ble_eq_true rfl) ?_
  intro p e s m args below meth c Q A ls hC hP hD hA hK hZ hS hl hret
  obtain ⟨hx, hb, hml, hown, hts⟩ := id hC
  have hC : CallFix p m c cX0_layExtent 5 s args wsX0_layExtent RX0 := hC
  have hown : s.vm.findClass RX0 = some m.cls := hown
  have hl : lv_has ls 5 [(0, .ref (g 7)), (1, .int x1), (2, .int x2)] := hl
  have hP : va_P D vwCl (xP g k kd fm tk mr) s.heap := hP
  have hD : va_D A (xP g k kd fm tk mr) := hD
  have hinX0 : ∀ w ∈ wsX00, w ∈ wsX0_layExtent := fun _ h => List.mem_cons_of_mem _ (List.mem_append_right _ h)
  have B22 : ∀ (fu : Nat), ∀ (x1 : Int32), ∀ (x2 : Int32), ∀ (x3 : Int32), ∀ (x4 : Int32), ∀ (kd : Nat → Int32), ∀ (fm : Nat → Int32), ∀ (H : Heap) (locs : List Loc), va_P D vwCl (xP g k kd fm tk mr) H → va_D A (xP g k kd fm tk mr) → va_S A s.heap H locs → ∀ (ls : Array Slot), lv_has ls 5 [(0, .ref (g 7)), (1, .int x1), (2, .int x2), (3, .int x3), (4, .int x4)] → wX0_layExtent_22 post fu x1 x2 x3 x4 kd fm → W p l e rmX0_layExtent s m args below meth c H locs 0 0 Q (F0 m 22 ls []) := by
    intro  fu
    induction fu with
    | zero =>
      intro x1 x2 x3 x4 kd fm H locs hP hD hS ls hl hw
      exact absurd hw (by unfold wX0_layExtent_22; exact fun q => q)
    | succ n ih =>
      intro x1 x2 x3 x4 kd fm H locs hP hD hS ls hl hw
      unfold wX0_layExtent_22 at hw
      refine lv_iload hx hb dX0_layExtent_22 (lv_at hl 4 rfl) ?_
      refine lv_iload_n hx hb dX0_layExtent_24 rfl (lv_at hl 3 rfl) ?_
      refine lv_icmp_ge (tgt := 44) hx hb dX0_layExtent_25 (by decide) (fun c_6 => ?_) (fun c_6 => ?_)
      · have hw := hw.1 c_6
        exact hret _ _ (kd, fm) _ _ hP hD hS dX0_layExtent_44 hw
      · have hw := hw.2 c_6
        refine lv_aload_n hx hb dX0_layExtent_28 rfl (lv_at hl 0 rfl) ?_
        refine lv_iload_n hx hb dX0_layExtent_29 rfl (lv_at hl 1 rfl) ?_
        refine lv_iload hx hb dX0_layExtent_30 (lv_at hl 4 rfl) ?_
        refine lv_iadd hx hb dX0_layExtent_32 ?_
        refine lv_iconst (v := 3) hx hb dX0_layExtent_33 (by decide) ?_
        refine lv_iload_n hx hb dX0_layExtent_34 rfl (lv_at hl 2 rfl) ?_
        refine vcall (wr := []) (va_runV (As := [.int (x1 + x4), .int 3, .int x2]) (rest := []) hC (c_X0_lay l D g k kd fm tk mr (x1 + x4) 3 x2 _ hw H.size) (cwV 3 hts gX0_layExtent_X0_lay rfl rfl rfl (by decide +kernel) ⟨Nat.le_of_ble_eq_true rfl, Nat.le_of_ble_eq_true rfl⟩) (preV_m (va_recv hK hP (ci := 0) (q0 := 0) rfl rfl) hP hD hA hK hZ hS [0, 1, 2, 3, 4] rfl rfl (by decide)) rfl rfl hl.1 rfl (lv_room (Nat.le_of_ble_eq_true rfl)) dX0_layExtent_35 ⟨Nat.le_of_ble_eq_true rfl, Nat.le_of_ble_eq_true rfl⟩) hP hD hA hS [0, 1, 2, 3, 4] [] rfl rfl (by decide) (by decide) (fun u' H locs hw hP hD hS => ?_)
        obtain ⟨kd_7, fm_8⟩ := u'
        try dsimp only at hw
        have hP : va_P D vwCl (xP g k kd_7 fm_8 tk mr) H := hP
        have hD : va_D A (xP g k kd_7 fm_8 tk mr) := hD
        obtain ⟨x4_9, ex4_9⟩ : ∃ y : Int32, y = x4 + 1 := ⟨_, rfl⟩
        have hw := hw x4_9 ex4_9
        refine lv_iinc (v := x4_9) (lv' := [(4, .int x4_9), (0, .ref (g 7)), (1, .int x1), (2, .int x2), (3, .int x3)]) hx hb dX0_layExtent_38 hl (k := 4) rfl (by rw [ex4_9]; rfl) (by decide) rfl (fun ls hl => ?_)
        refine lv_goto (tgt := 22) hx hb dX0_layExtent_41 (by decide) ?_
        exact ih x1 x2 x3 x4_9 kd_7 fm_8 H locs hP hD hS ls (lv_sub hl [1, 2, 3, 4, 0] rfl) hw
  unfold wX0_layExtent at hw
  suffices main : ∀ (H : Heap) (locs : List Loc), va_P D vwCl (xP g k kd fm tk mr) H → va_D A (xP g k kd fm tk mr) → va_S A s.heap H locs → W p l e rmX0_layExtent s m args below meth c H locs 0 0 Q (F0 m 0 ls []) from main _ _ hP hD hS
  intro H locs hP hD hS
  refine lv_iload_n hx hb dX0_layExtent_0 rfl (lv_at hl 2 rfl) ?_
  refine pcall (va_runSN (As := [.int x2]) (rest := []) hC (c_X2_isOrder l D k x2 _ hw H) ⟨va_cnB 1 hts gX0_layExtent_X2_isOrder_n110 rfl rfl rfl (hZ.2 (RX0, 110, yX2_isOrder, "SlabHeap") (List.mem_of_getElem? (i := 4) rfl)) (hts (.initialized RX2) (by decide +kernel)) (by decide +kernel) ⟨Nat.le_of_ble_eq_true rfl, Nat.le_of_ble_eq_true rfl⟩, hts (.static yX2_isOrder) (by decide +kernel), trivial⟩ (preS_p (hP.sub [] rfl) hK hZ hS) rfl rfl hl.1 rfl (lv_room (Nat.le_of_ble_eq_true rfl)) dX0_layExtent_1 ⟨Nat.le_of_ble_eq_true rfl, Nat.le_of_ble_eq_true rfl⟩) (fun r_1 hw => ?_)
  refine lv_if_ne (tgt := 8) hx hb dX0_layExtent_4 (by decide) (fun c_2 => ?_) (fun c_2 => ?_)
  · have hw := hw.1 c_2
    refine lv_aload_n hx hb dX0_layExtent_8 rfl (lv_at hl 0 rfl) ?_
    refine lv_iload_n hx hb dX0_layExtent_9 rfl (lv_at hl 1 rfl) ?_
    refine lv_iconst (v := 2) hx hb dX0_layExtent_10 (by decide) ?_
    refine lv_iload_n hx hb dX0_layExtent_11 rfl (lv_at hl 2 rfl) ?_
    refine vcall (wr := []) (va_runV (As := [.int x1, .int 2, .int x2]) (rest := []) hC (c_X0_lay l D g k kd fm tk mr x1 2 x2 _ hw H.size) (cwV 3 hts gX0_layExtent_X0_lay rfl rfl rfl (by decide +kernel) ⟨Nat.le_of_ble_eq_true rfl, Nat.le_of_ble_eq_true rfl⟩) (preV_m (va_recv hK hP (ci := 0) (q0 := 0) rfl rfl) hP hD hA hK hZ hS [0, 1, 2, 3, 4] rfl rfl (by decide)) rfl rfl hl.1 rfl (lv_room (Nat.le_of_ble_eq_true rfl)) dX0_layExtent_12 ⟨Nat.le_of_ble_eq_true rfl, Nat.le_of_ble_eq_true rfl⟩) hP hD hA hS [0, 1, 2, 3, 4] [] rfl rfl (by decide) (by decide) (fun u' H locs hw hP hD hS => ?_)
    obtain ⟨kd_3, fm_4⟩ := u'
    try dsimp only at hw
    have hP : va_P D vwCl (xP g k kd_3 fm_4 tk mr) H := hP
    have hD : va_D A (xP g k kd_3 fm_4 tk mr) := hD
    refine lv_iconst (v := 1) hx hb dX0_layExtent_15 (by decide) ?_
    refine lv_iload_n hx hb dX0_layExtent_16 rfl (lv_at hl 2 rfl) ?_
    refine lv_ishl hx hb dX0_layExtent_17 ?_
    refine lv_topi (fun x3_5 ex3_5 => ?_)
    have hw := hw x3_5 ex3_5
    refine lv_istore_n (lv' := [(3, .int x3_5), (0, .ref (g 7)), (1, .int x1), (2, .int x2)]) hx hb dX0_layExtent_18 rfl hl (by decide) rfl (fun ls hl => ?_)
    refine lv_iconst (v := 1) hx hb dX0_layExtent_19 (by decide) ?_
    refine lv_istore (lv' := [(4, .int 1), (3, .int x3_5), (0, .ref (g 7)), (1, .int x1), (2, .int x2)]) hx hb dX0_layExtent_20 hl (by decide) rfl (fun ls hl => ?_)
    obtain ⟨fu_10, hw⟩ := hw
    exact B22  fu_10 x1 x2 x3_5 1 kd_3 fm_4 H locs hP hD hS ls (lv_sub hl [2, 3, 4, 1, 0] rfl) hw
  · have hw := hw.2 c_2
    exact hret _ _ (kd, fm) _ _ hP hD hS dX0_layExtent_7 hw
-- X0_add
abbrev rmX0_add : Room := { frames := 3, cells := 0, slots := 0, locals := 67 }
set_option maxHeartbeats 4000000 in
set_option maxRecDepth 100000 in
theorem c_X0_add (l : Launch) (D : va_G) (g : Nat → Nat) (k : xC) (kd : Nat → Int32) (fm : Nat → Int32) (tk : Nat → Int32) (mr : Nat → Int32) (x1 : Int32) (x2 : Int32) (post : (Nat → Int32) → (Nat → Int32) → (Nat → Int32) → Prop) (hw : wX0_add post kd fm tk x1 x2) : CMv l yX0_add wsX0_add rmX0_add D k [.ref (g 7), .int x1, .int x2] (fun v : (Nat → Int32) × (Nat → Int32) × (Nat → Int32) => (xP g k (v.1) (v.2.1) (v.2.2) mr)) (kd, fm, tk) (fun v => post (v.1) (v.2.1) (v.2.2)) := by
  refine met_mv (cc := cX0_add) (nL := 6) (by decide) rfl (Nat.le_of_ble_eq_true rfl) ?_
  intro p e s m args below meth c Q A ls hC hP hD hA hK hZ hS hl hret
  obtain ⟨hx, hb, hml, hown, hts⟩ := id hC
  have hC : CallFix p m c cX0_add 6 s args wsX0_add RX0 := hC
  have hown : s.vm.findClass RX0 = some m.cls := hown
  have hl : lv_has ls 6 [(0, .ref (g 7)), (1, .int x1), (2, .int x2)] := hl
  have hP : va_P D vwCl (xP g k kd fm tk mr) s.heap := hP
  have hD : va_D A (xP g k kd fm tk mr) := hD
  have hinX0 : ∀ w ∈ wsX00, w ∈ wsX0_add := fun _ h => List.mem_cons_of_mem _ (List.mem_append_right _ h)
  have B36 : ∀ (x1 : Int32), ∀ (x3 : Int32), ∀ (kd : Nat → Int32), ∀ (fm : Nat → Int32), ∀ (tk : Nat → Int32), ∀ (H : Heap) (locs : List Loc), va_P D vwCl (xP g k kd fm tk mr) H → va_D A (xP g k kd fm tk mr) → va_S A s.heap H locs → ∀ (ls : Array Slot), lv_has ls 6 [(0, .ref (g 7)), (1, .int x1), (3, .int x3)] → wX0_add_36 post x1 x3 kd fm tk → W p l e rmX0_add s m args below meth c H locs 0 0 Q (F0 m 36 ls []) := by
    intro  x1 x3 kd fm tk H locs hP hD hS ls hl hw
    unfold wX0_add_36 at hw
    refine lv_aload_n hx hb dX0_add_36 rfl (lv_at hl 0 rfl) ?_
    refine lv_iload_n hx hb dX0_add_37 rfl (lv_at hl 1 rfl) ?_
    refine pcall (va_runV (As := [.int x1]) (rest := []) hC (c_X0_slotAt l D g k kd fm tk mr x1 _ hw H) (cwV 1 hts gX0_add_X0_slotAt rfl rfl rfl (by decide +kernel) ⟨Nat.le_of_ble_eq_true rfl, Nat.le_of_ble_eq_true rfl⟩) (preV_p (va_recv hK hP (ci := 0) (q0 := 0) rfl rfl) hP hK hZ hS) rfl rfl hl.1 rfl (lv_room (Nat.le_of_ble_eq_true rfl)) dX0_add_38 ⟨Nat.le_of_ble_eq_true rfl, Nat.le_of_ble_eq_true rfl⟩) (fun r_7 hw => ?_)
    refine lv_istore (lv' := [(5, .int r_7), (0, .ref (g 7)), (1, .int x1), (3, .int x3)]) hx hb dX0_add_41 hl (by decide) rfl (fun ls hl => ?_)
    refine lv_iload_n hx hb dX0_add_43 rfl (lv_at hl 3 rfl) ?_
    refine pcall (va_runSN (As := [.int x3]) (rest := []) hC (c_X2_isPage l D k x3 _ hw H) ⟨va_cnB 1 hts gX0_add_X2_isPage_n30 rfl rfl rfl (hZ.2 (RX0, 30, yX2_isPage, "SlabHeap") (List.mem_of_getElem? (i := 2) rfl)) (hts (.initialized RX2) (by decide +kernel)) (by decide +kernel) ⟨Nat.le_of_ble_eq_true rfl, Nat.le_of_ble_eq_true rfl⟩, hts (.static yX2_isPage) (by decide +kernel), trivial⟩ (preS_p (hP.sub [] rfl) hK hZ hS) rfl rfl hl.1 rfl (lv_room (Nat.le_of_ble_eq_true rfl)) dX0_add_44 ⟨Nat.le_of_ble_eq_true rfl, Nat.le_of_ble_eq_true rfl⟩) (fun r_8 hw => ?_)
    refine lv_if_eq (tgt := 69) hx hb dX0_add_47 (by decide) (fun c_9 => ?_) (fun c_9 => ?_)
    · have hw := hw.1 c_9
      exact hret _ _ (kd, fm, tk) _ _ hP hD hS dX0_add_69 hw
    · have hw := hw.2 c_9
      refine lv_iload hx hb dX0_add_50 (lv_at hl 0 rfl) ?_
      refine lv_iconst (v := (-1)) hx hb dX0_add_52 (by decide) ?_
      refine lv_icmp_eq (tgt := 69) hx hb dX0_add_53 (by decide) (fun c_10 => ?_) (fun c_10 => ?_)
      · have hw := hw.1 c_10
        exact hret _ _ (kd, fm, tk) _ _ hP hD hS dX0_add_69 hw
      · have hw := hw.2 c_10
        refine lv_aload_n hx hb dX0_add_56 rfl (lv_at hl 1 rfl) ?_
        refine va_get (D := D) (ci := 0) (v := .ref (g 10)) (C := RX0) (T := TX0) (N := 4) hx hb hts hinX0 hown hK hP 0 rfl rfl 2 (by decide) (hts (.fieldLink RX0 18 "SlabHeap$Pages" "taken" "[I") (by decide +kernel)) (fun _ h9 => h9) rfl dX0_add_57 ?_
        refine lv_iload_n hx hb dX0_add_60 rfl (lv_at hl 3 rfl) ?_
        refine lv_dup2_11 hx hb dX0_add_61 rfl rfl ?_
        obtain ⟨h_11, hw⟩ := hw
        refine va_iald hx hb hK hP 3 0 rfl rfl h_11 dX0_add_62 ?_
        refine lv_iconst (v := 1) hx hb dX0_add_63 (by decide) ?_
        refine lv_iload hx hb dX0_add_64 (lv_at hl 0 rfl) ?_
        refine lv_ishl hx hb dX0_add_66 ?_
        refine lv_ior hx hb dX0_add_67 ?_
        obtain ⟨h_12, hw⟩ := hw
        refine va_iast hx hb hK hP hD hS 3 0 rfl rfl h_12 dX0_add_68 (fun H locs hP hD hS => ?_)
        have hP : va_P D vwCl (xP g k kd fm (upd tk x3.toNatClampNeg ((tk x3.toNatClampNeg) ||| ((1 : Int32) <<< (r_7 &&& 31)))) mr) H := hP
        have hD : va_D A (xP g k kd fm (upd tk x3.toNatClampNeg ((tk x3.toNatClampNeg) ||| ((1 : Int32) <<< (r_7 &&& 31)))) mr) := hD
        exact hret _ _ (kd, fm, (upd tk x3.toNatClampNeg ((tk x3.toNatClampNeg) ||| ((1 : Int32) <<< (r_7 &&& 31))))) _ _ hP hD hS dX0_add_69 hw
  unfold wX0_add at hw
  suffices main : ∀ (H : Heap) (locs : List Loc), va_P D vwCl (xP g k kd fm tk mr) H → va_D A (xP g k kd fm tk mr) → va_S A s.heap H locs → W p l e rmX0_add s m args below meth c H locs 0 0 Q (F0 m 0 ls []) from main _ _ hP hD hS
  intro H locs hP hD hS
  refine lv_iload_n hx hb dX0_add_0 rfl (lv_at hl 1 rfl) ?_
  refine pcall (va_runS (As := [.int x1]) (rest := []) hC (c_X0_pageOf l D k x1 _ hw H) (va_cwS 1 hts gX0_add_X0_pageOf rfl rfl rfl (by decide +kernel) ⟨Nat.le_of_ble_eq_true rfl, Nat.le_of_ble_eq_true rfl⟩) (preS_p (hP.sub [] rfl) hK hZ hS) rfl rfl hl.1 rfl (lv_room (Nat.le_of_ble_eq_true rfl)) dX0_add_1 ⟨Nat.le_of_ble_eq_true rfl, Nat.le_of_ble_eq_true rfl⟩) (fun r_1 hw => ?_)
  refine lv_istore_n (lv' := [(3, .int r_1), (0, .ref (g 7)), (1, .int x1), (2, .int x2)]) hx hb dX0_add_4 rfl hl (by decide) rfl (fun ls hl => ?_)
  refine lv_iload_n hx hb dX0_add_5 rfl (lv_at hl 3 rfl) ?_
  refine pcall (va_runSN (As := [.int x2]) (rest := []) hC (c_X2_classFor l D k x2 _ hw H) ⟨va_cnB 1 hts gX0_add_X2_classFor_n69 rfl rfl rfl (hZ.2 (RX0, 69, yX2_classFor, "SlabHeap") (List.mem_of_getElem? (i := 1) rfl)) (hts (.initialized RX2) (by decide +kernel)) (by decide +kernel) ⟨Nat.le_of_ble_eq_true rfl, Nat.le_of_ble_eq_true rfl⟩, hts (.static yX2_classFor) (by decide +kernel), trivial⟩ (preS_p (hP.sub [] rfl) hK hZ hS) rfl rfl hl.1 rfl (lv_room (Nat.le_of_ble_eq_true rfl)) dX0_add_6 ⟨Nat.le_of_ble_eq_true rfl, Nat.le_of_ble_eq_true rfl⟩) (fun r_2 hw => ?_)
  refine lv_istore (lv' := [(4, .int r_2), (3, .int r_1), (0, .ref (g 7)), (1, .int x1), (2, .int x2)]) hx hb dX0_add_9 hl (by decide) rfl (fun ls hl => ?_)
  refine lv_iload hx hb dX0_add_11 (lv_at hl 0 rfl) ?_
  refine lv_if_le (tgt := 27) hx hb dX0_add_13 (by decide) (fun c_3 => ?_) (fun c_3 => ?_)
  · have hw := hw.1 c_3
    refine lv_aload_n hx hb dX0_add_27 rfl (lv_at hl 2 rfl) ?_
    refine lv_iload_n hx hb dX0_add_28 rfl (lv_at hl 1 rfl) ?_
    refine lv_iload_n hx hb dX0_add_29 rfl (lv_at hl 4 rfl) ?_
    refine pcall (va_runSN (As := [.int x2]) (rest := [.int r_1, .ref (g 7)]) hC (c_X2_orderFor l D k x2 _ hw H) ⟨va_cnB 1 hts gX0_add_X2_orderFor_n75 rfl rfl rfl (hZ.2 (RX0, 75, yX2_orderFor, "SlabHeap") (List.mem_of_getElem? (i := 3) rfl)) (hts (.initialized RX2) (by decide +kernel)) (by decide +kernel) ⟨Nat.le_of_ble_eq_true rfl, Nat.le_of_ble_eq_true rfl⟩, hts (.static yX2_orderFor) (by decide +kernel), trivial⟩ (preS_p (hP.sub [] rfl) hK hZ hS) rfl rfl hl.1 rfl (lv_room (Nat.le_of_ble_eq_true rfl)) dX0_add_30 ⟨Nat.le_of_ble_eq_true rfl, Nat.le_of_ble_eq_true rfl⟩) (fun r_4 hw => ?_)
    refine vcall (wr := []) (va_runV (As := [.int r_1, .int r_4]) (rest := []) hC (c_X0_layExtent l D g k kd fm tk mr r_1 r_4 _ hw H.size) (cwV 2 hts gX0_add_X0_layExtent rfl rfl rfl (by decide +kernel) ⟨Nat.le_of_ble_eq_true rfl, Nat.le_of_ble_eq_true rfl⟩) (preV_m (va_recv hK hP (ci := 0) (q0 := 0) rfl rfl) hP hD hA hK hZ hS [0, 1, 2, 3, 4] rfl rfl (by decide)) rfl rfl hl.1 rfl (lv_room (Nat.le_of_ble_eq_true rfl)) dX0_add_33 ⟨Nat.le_of_ble_eq_true rfl, Nat.le_of_ble_eq_true rfl⟩) hP hD hA hS [0, 1, 2, 3, 4] [] rfl rfl (by decide) (by decide) (fun u' H locs hw hP hD hS => ?_)
    obtain ⟨kd_5, fm_6⟩ := u'
    try dsimp only at hw
    have hP : va_P D vwCl (xP g k kd_5 fm_6 tk mr) H := hP
    have hD : va_D A (xP g k kd_5 fm_6 tk mr) := hD
    exact B36  x1 r_1 kd_5 fm_6 tk H locs hP hD hS ls (lv_sub hl [2, 3, 1] rfl) hw
  · have hw := hw.2 c_3
    refine lv_aload_n hx hb dX0_add_16 rfl (lv_at hl 2 rfl) ?_
    refine lv_iload_n hx hb dX0_add_17 rfl (lv_at hl 1 rfl) ?_
    refine lv_iconst (v := 1) hx hb dX0_add_18 (by decide) ?_
    refine lv_iload hx hb dX0_add_19 (lv_at hl 0 rfl) ?_
    refine vcall (wr := []) (va_runV (As := [.int r_1, .int 1, .int r_2]) (rest := []) hC (c_X0_lay l D g k kd fm tk mr r_1 1 r_2 _ hw H.size) (cwV 3 hts gX0_add_X0_lay rfl rfl rfl (by decide +kernel) ⟨Nat.le_of_ble_eq_true rfl, Nat.le_of_ble_eq_true rfl⟩) (preV_m (va_recv hK hP (ci := 0) (q0 := 0) rfl rfl) hP hD hA hK hZ hS [0, 1, 2, 3, 4] rfl rfl (by decide)) rfl rfl hl.1 rfl (lv_room (Nat.le_of_ble_eq_true rfl)) dX0_add_21 ⟨Nat.le_of_ble_eq_true rfl, Nat.le_of_ble_eq_true rfl⟩) hP hD hA hS [0, 1, 2, 3, 4] [] rfl rfl (by decide) (by decide) (fun u' H locs hw hP hD hS => ?_)
    obtain ⟨kd_13, fm_14⟩ := u'
    try dsimp only at hw
    have hP : va_P D vwCl (xP g k kd_13 fm_14 tk mr) H := hP
    have hD : va_D A (xP g k kd_13 fm_14 tk mr) := hD
    refine lv_goto (tgt := 36) hx hb dX0_add_24 (by decide) ?_
    exact B36  x1 r_1 kd_13 fm_14 tk H locs hP hD hS ls (lv_sub hl [2, 3, 1] rfl) hw
-- X0_remove
abbrev rmX0_remove : Room := { frames := 2, cells := 0, slots := 0, locals := 43 }
set_option maxHeartbeats 4000000 in
set_option maxRecDepth 100000 in
theorem c_X0_remove (l : Launch) (D : va_G) (g : Nat → Nat) (k : xC) (kd : Nat → Int32) (fm : Nat → Int32) (tk : Nat → Int32) (mr : Nat → Int32) (x1 : Int32) (post : (Nat → Int32) → (Nat → Int32) → (Nat → Int32) → Prop) (hw : wX0_remove post kd fm tk x1) : CMv l yX0_remove wsX0_remove rmX0_remove D k [.ref (g 7), .int x1] (fun v : (Nat → Int32) × (Nat → Int32) × (Nat → Int32) => (xP g k (v.1) (v.2.1) (v.2.2) mr)) (kd, fm, tk) (fun v => post (v.1) (v.2.1) (v.2.2)) := by
  refine met_mv (cc := cX0_remove) (nL := 6) (by decide) rfl (Nat.le_of_ble_eq_true rfl) ?_
  intro p e s m args below meth c Q A ls hC hP hD hA hK hZ hS hl hret
  obtain ⟨hx, hb, hml, hown, hts⟩ := id hC
  have hC : CallFix p m c cX0_remove 6 s args wsX0_remove RX0 := hC
  have hown : s.vm.findClass RX0 = some m.cls := hown
  have hl : lv_has ls 6 [(0, .ref (g 7)), (1, .int x1)] := hl
  have hP : va_P D vwCl (xP g k kd fm tk mr) s.heap := hP
  have hD : va_D A (xP g k kd fm tk mr) := hD
  have hinX0 : ∀ w ∈ wsX00, w ∈ wsX0_remove := fun _ h => List.mem_cons_of_mem _ (List.mem_append_right _ h)
  have B78 : ∀ (fu : Nat), ∀ (x2 : Int32), ∀ (x4 : Int32), ∀ (x5 : Int32), ∀ (kd : Nat → Int32), ∀ (fm : Nat → Int32), ∀ (tk : Nat → Int32), ∀ (H : Heap) (locs : List Loc), va_P D vwCl (xP g k kd fm tk mr) H → va_D A (xP g k kd fm tk mr) → va_S A s.heap H locs → ∀ (ls : Array Slot), lv_has ls 6 [(0, .ref (g 7)), (2, .int x2), (4, .int x4), (5, .int x5)] → wX0_remove_78 post fu x2 x4 x5 kd fm tk → W p l e rmX0_remove s m args below meth c H locs 0 0 Q (F0 m 78 ls []) := by
    intro  fu
    induction fu with
    | zero =>
      intro x2 x4 x5 kd fm tk H locs hP hD hS ls hl hw
      exact absurd hw (by unfold wX0_remove_78; exact fun q => q)
    | succ n ih =>
      intro x2 x4 x5 kd fm tk H locs hP hD hS ls hl hw
      unfold wX0_remove_78 at hw
      refine lv_iload hx hb dX0_remove_78 (lv_at hl 3 rfl) ?_
      refine lv_iload hx hb dX0_remove_80 (lv_at hl 2 rfl) ?_
      refine lv_icmp_ge (tgt := 101) hx hb dX0_remove_82 (by decide) (fun c_13 => ?_) (fun c_13 => ?_)
      · have hw := hw.1 c_13
        exact hret _ _ (kd, fm, tk) _ _ hP hD hS dX0_remove_101 hw
      · have hw := hw.2 c_13
        refine lv_aload_n hx hb dX0_remove_85 rfl (lv_at hl 0 rfl) ?_
        refine lv_iload_n hx hb dX0_remove_86 rfl (lv_at hl 1 rfl) ?_
        refine lv_iload hx hb dX0_remove_87 (lv_at hl 3 rfl) ?_
        refine lv_iadd hx hb dX0_remove_89 ?_
        refine lv_iconst (v := 0) hx hb dX0_remove_90 (by decide) ?_
        refine lv_iconst (v := 0) hx hb dX0_remove_91 (by decide) ?_
        refine vcall (wr := []) (va_runV (As := [.int (x2 + x5), .int 0, .int 0]) (rest := []) hC (c_X0_lay l D g k kd fm tk mr (x2 + x5) 0 0 _ hw H.size) (cwV 3 hts gX0_remove_X0_lay rfl rfl rfl (by decide +kernel) ⟨Nat.le_of_ble_eq_true rfl, Nat.le_of_ble_eq_true rfl⟩) (preV_m (va_recv hK hP (ci := 0) (q0 := 0) rfl rfl) hP hD hA hK hZ hS [0, 1, 2, 3, 4] rfl rfl (by decide)) rfl rfl hl.1 rfl (lv_room (Nat.le_of_ble_eq_true rfl)) dX0_remove_92 ⟨Nat.le_of_ble_eq_true rfl, Nat.le_of_ble_eq_true rfl⟩) hP hD hA hS [0, 1, 2, 3, 4] [] rfl rfl (by decide) (by decide) (fun u' H locs hw hP hD hS => ?_)
        obtain ⟨kd_14, fm_15⟩ := u'
        try dsimp only at hw
        have hP : va_P D vwCl (xP g k kd_14 fm_15 tk mr) H := hP
        have hD : va_D A (xP g k kd_14 fm_15 tk mr) := hD
        obtain ⟨x5_16, ex5_16⟩ : ∃ y : Int32, y = x5 + 1 := ⟨_, rfl⟩
        have hw := hw x5_16 ex5_16
        refine lv_iinc (v := x5_16) (lv' := [(5, .int x5_16), (0, .ref (g 7)), (2, .int x2), (4, .int x4)]) hx hb dX0_remove_95 hl (k := 3) rfl (by rw [ex5_16]; rfl) (by decide) rfl (fun ls hl => ?_)
        refine lv_goto (tgt := 78) hx hb dX0_remove_98 (by decide) ?_
        exact ih x2 x4 x5_16 kd_14 fm_15 tk H locs hP hD hS ls (lv_sub hl [1, 2, 3, 0] rfl) hw
  unfold wX0_remove at hw
  suffices main : ∀ (H : Heap) (locs : List Loc), va_P D vwCl (xP g k kd fm tk mr) H → va_D A (xP g k kd fm tk mr) → va_S A s.heap H locs → W p l e rmX0_remove s m args below meth c H locs 0 0 Q (F0 m 0 ls []) from main _ _ hP hD hS
  intro H locs hP hD hS
  refine lv_iload_n hx hb dX0_remove_0 rfl (lv_at hl 1 rfl) ?_
  refine pcall (va_runS (As := [.int x1]) (rest := []) hC (c_X0_pageOf l D k x1 _ hw H) (va_cwS 1 hts gX0_remove_X0_pageOf rfl rfl rfl (by decide +kernel) ⟨Nat.le_of_ble_eq_true rfl, Nat.le_of_ble_eq_true rfl⟩) (preS_p (hP.sub [] rfl) hK hZ hS) rfl rfl hl.1 rfl (lv_room (Nat.le_of_ble_eq_true rfl)) dX0_remove_1 ⟨Nat.le_of_ble_eq_true rfl, Nat.le_of_ble_eq_true rfl⟩) (fun r_1 hw => ?_)
  refine lv_istore_n (lv' := [(2, .int r_1), (0, .ref (g 7)), (1, .int x1)]) hx hb dX0_remove_4 rfl hl (by decide) rfl (fun ls hl => ?_)
  refine lv_aload_n hx hb dX0_remove_5 rfl (lv_at hl 1 rfl) ?_
  refine lv_iload_n hx hb dX0_remove_6 rfl (lv_at hl 2 rfl) ?_
  refine pcall (va_runV (As := [.int x1]) (rest := []) hC (c_X0_slotAt l D g k kd fm tk mr x1 _ hw H) (cwV 1 hts gX0_remove_X0_slotAt rfl rfl rfl (by decide +kernel) ⟨Nat.le_of_ble_eq_true rfl, Nat.le_of_ble_eq_true rfl⟩) (preV_p (va_recv hK hP (ci := 0) (q0 := 0) rfl rfl) hP hK hZ hS) rfl rfl hl.1 rfl (lv_room (Nat.le_of_ble_eq_true rfl)) dX0_remove_7 ⟨Nat.le_of_ble_eq_true rfl, Nat.le_of_ble_eq_true rfl⟩) (fun r_2 hw => ?_)
  refine lv_istore_n (lv' := [(3, .int r_2), (2, .int r_1), (0, .ref (g 7)), (1, .int x1)]) hx hb dX0_remove_10 rfl hl (by decide) rfl (fun ls hl => ?_)
  refine lv_iload_n hx hb dX0_remove_11 rfl (lv_at hl 1 rfl) ?_
  refine pcall (va_runSN (As := [.int r_1]) (rest := []) hC (c_X2_isPage l D k r_1 _ hw H) ⟨va_cnB 1 hts gX0_remove_X2_isPage_n30 rfl rfl rfl (hZ.2 (RX0, 30, yX2_isPage, "SlabHeap") (List.mem_of_getElem? (i := 2) rfl)) (hts (.initialized RX2) (by decide +kernel)) (by decide +kernel) ⟨Nat.le_of_ble_eq_true rfl, Nat.le_of_ble_eq_true rfl⟩, hts (.static yX2_isPage) (by decide +kernel), trivial⟩ (preS_p (hP.sub [] rfl) hK hZ hS) rfl rfl hl.1 rfl (lv_room (Nat.le_of_ble_eq_true rfl)) dX0_remove_12 ⟨Nat.le_of_ble_eq_true rfl, Nat.le_of_ble_eq_true rfl⟩) (fun r_3 hw => ?_)
  refine lv_if_eq (tgt := 27) hx hb dX0_remove_15 (by decide) (fun c_4 => ?_) (fun c_4 => ?_)
  · have hw := hw.1 c_4
    exact hret _ _ (kd, fm, tk) _ _ hP hD hS dX0_remove_27 hw
  · have hw := hw.2 c_4
    refine lv_aload_n hx hb dX0_remove_18 rfl (lv_at hl 2 rfl) ?_
    refine lv_iload_n hx hb dX0_remove_19 rfl (lv_at hl 1 rfl) ?_
    refine lv_iload_n hx hb dX0_remove_20 rfl (lv_at hl 0 rfl) ?_
    refine pcall (va_runV (As := [.int r_1, .int r_2]) (rest := []) hC (c_X0_isTaken l D g k kd fm tk mr r_1 r_2 _ hw H) (cwV 2 hts gX0_remove_X0_isTaken rfl rfl rfl (by decide +kernel) ⟨Nat.le_of_ble_eq_true rfl, Nat.le_of_ble_eq_true rfl⟩) (preV_p (va_recv hK hP (ci := 0) (q0 := 0) rfl rfl) hP hK hZ hS) rfl rfl hl.1 rfl (lv_room (Nat.le_of_ble_eq_true rfl)) dX0_remove_21 ⟨Nat.le_of_ble_eq_true rfl, Nat.le_of_ble_eq_true rfl⟩) (fun r_5 hw => ?_)
    refine lv_if_ne (tgt := 28) hx hb dX0_remove_24 (by decide) (fun c_6 => ?_) (fun c_6 => ?_)
    · have hw := hw.1 c_6
      refine lv_aload_n hx hb dX0_remove_28 rfl (lv_at hl 2 rfl) ?_
      refine va_get (D := D) (ci := 0) (v := .ref (g 10)) (C := RX0) (T := TX0) (N := 4) hx hb hts hinX0 hown hK hP 0 rfl rfl 2 (by decide) (hts (.fieldLink RX0 18 "SlabHeap$Pages" "taken" "[I") (by decide +kernel)) (fun _ h9 => h9) rfl dX0_remove_29 ?_
      refine lv_iload_n hx hb dX0_remove_32 rfl (lv_at hl 1 rfl) ?_
      refine lv_dup2_11 hx hb dX0_remove_33 rfl rfl ?_
      obtain ⟨h_7, hw⟩ := hw
      refine va_iald hx hb hK hP 3 0 rfl rfl h_7 dX0_remove_34 ?_
      refine lv_iconst (v := 1) hx hb dX0_remove_35 (by decide) ?_
      refine lv_iload_n hx hb dX0_remove_36 rfl (lv_at hl 0 rfl) ?_
      refine lv_ishl hx hb dX0_remove_37 ?_
      refine lv_iconst (v := (-1)) hx hb dX0_remove_38 (by decide) ?_
      refine lv_ixor hx hb dX0_remove_39 ?_
      refine lv_iand hx hb dX0_remove_40 ?_
      obtain ⟨h_8, hw⟩ := hw
      refine va_iast hx hb hK hP hD hS 3 0 rfl rfl h_8 dX0_remove_41 (fun H locs hP hD hS => ?_)
      have hP : va_P D vwCl (xP g k kd fm (upd tk r_1.toNatClampNeg ((tk r_1.toNatClampNeg) &&& (((1 : Int32) <<< (r_2 &&& 31)) ^^^ (-1)))) mr) H := hP
      have hD : va_D A (xP g k kd fm (upd tk r_1.toNatClampNeg ((tk r_1.toNatClampNeg) &&& (((1 : Int32) <<< (r_2 &&& 31)) ^^^ (-1)))) mr) := hD
      refine lv_aload_n hx hb dX0_remove_42 rfl (lv_at hl 2 rfl) ?_
      refine va_get (D := D) (ci := 0) (v := .ref (g 10)) (C := RX0) (T := TX0) (N := 4) hx hb hts hinX0 hown hK hP 0 rfl rfl 2 (by decide) (hts (.fieldLink RX0 18 "SlabHeap$Pages" "taken" "[I") (by decide +kernel)) (fun _ h9 => h9) rfl dX0_remove_43 ?_
      refine lv_iload_n hx hb dX0_remove_46 rfl (lv_at hl 1 rfl) ?_
      obtain ⟨h_9, hw⟩ := hw
      refine va_iald hx hb hK hP 3 0 rfl rfl h_9 dX0_remove_47 ?_
      refine lv_if_ne (tgt := 101) hx hb dX0_remove_48 (by decide) (fun c_10 => ?_) (fun c_10 => ?_)
      · have hw := hw.1 c_10
        exact hret _ _ (kd, fm, (upd tk r_1.toNatClampNeg ((tk r_1.toNatClampNeg) &&& (((1 : Int32) <<< (r_2 &&& 31)) ^^^ (-1))))) _ _ hP hD hS dX0_remove_101 hw
      · have hw := hw.2 c_10
        refine lv_aload_n hx hb dX0_remove_51 rfl (lv_at hl 2 rfl) ?_
        refine va_get (D := D) (ci := 0) (v := .ref (g 8)) (C := RX0) (T := TX0) (N := 4) hx hb hts hinX0 hown hK hP 0 rfl rfl 0 (by decide) (hts (.fieldLink RX0 9 "SlabHeap$Pages" "kinds" "[I") (by decide +kernel)) (fun _ h9 => h9) rfl dX0_remove_52 ?_
        refine lv_iload_n hx hb dX0_remove_55 rfl (lv_at hl 1 rfl) ?_
        obtain ⟨h_11, hw⟩ := hw
        refine va_iald hx hb hK hP 1 0 rfl rfl h_11 dX0_remove_56 ?_
        refine lv_iconst (v := 2) hx hb dX0_remove_57 (by decide) ?_
        refine lv_icmp_ne (tgt := 72) hx hb dX0_remove_58 (by decide) (fun c_12 => ?_) (fun c_12 => ?_)
        · have hw := hw.1 c_12
          refine lv_iconst (v := 1) hx hb dX0_remove_72 (by decide) ?_
          refine lv_istore (lv' := [(4, .int 1), (3, .int r_2), (2, .int r_1), (0, .ref (g 7)), (1, .int x1)]) hx hb dX0_remove_73 hl (by decide) rfl (fun ls hl => ?_)
          refine lv_iconst (v := 0) hx hb dX0_remove_75 (by decide) ?_
          refine lv_istore (lv' := [(5, .int 0), (4, .int 1), (3, .int r_2), (2, .int r_1), (0, .ref (g 7)), (1, .int x1)]) hx hb dX0_remove_76 hl (by decide) rfl (fun ls hl => ?_)
          obtain ⟨fu_17, hw⟩ := hw
          exact B78  fu_17 r_1 1 0 kd fm (upd tk r_1.toNatClampNeg ((tk r_1.toNatClampNeg) &&& (((1 : Int32) <<< (r_2 &&& 31)) ^^^ (-1)))) H locs hP hD hS ls (lv_sub hl [4, 3, 1, 0] rfl) hw
        · have hw := hw.2 c_12
          refine lv_iconst (v := 1) hx hb dX0_remove_61 (by decide) ?_
          refine lv_aload_n hx hb dX0_remove_62 rfl (lv_at hl 2 rfl) ?_
          refine va_get (D := D) (ci := 0) (v := .ref (g 9)) (C := RX0) (T := TX0) (N := 4) hx hb hts hinX0 hown hK hP 0 rfl rfl 1 (by decide) (hts (.fieldLink RX0 15 "SlabHeap$Pages" "forms" "[I") (by decide +kernel)) (fun _ h9 => h9) rfl dX0_remove_63 ?_
          refine lv_iload_n hx hb dX0_remove_66 rfl (lv_at hl 1 rfl) ?_
          obtain ⟨h_18, hw⟩ := hw
          refine va_iald hx hb hK hP 2 0 rfl rfl h_18 dX0_remove_67 ?_
          refine lv_ishl hx hb dX0_remove_68 ?_
          refine lv_goto (tgt := 73) hx hb dX0_remove_69 (by decide) ?_
          refine lv_topi (fun x4_19 ex4_19 => ?_)
          have hw := hw x4_19 ex4_19
          refine lv_istore (lv' := [(4, .int x4_19), (3, .int r_2), (2, .int r_1), (0, .ref (g 7)), (1, .int x1)]) hx hb dX0_remove_73 hl (by decide) rfl (fun ls hl => ?_)
          refine lv_iconst (v := 0) hx hb dX0_remove_75 (by decide) ?_
          refine lv_istore (lv' := [(5, .int 0), (4, .int x4_19), (3, .int r_2), (2, .int r_1), (0, .ref (g 7)), (1, .int x1)]) hx hb dX0_remove_76 hl (by decide) rfl (fun ls hl => ?_)
          obtain ⟨fu_20, hw⟩ := hw
          exact B78  fu_20 r_1 x4_19 0 kd fm (upd tk r_1.toNatClampNeg ((tk r_1.toNatClampNeg) &&& (((1 : Int32) <<< (r_2 &&& 31)) ^^^ (-1)))) H locs hP hD hS ls (lv_sub hl [4, 3, 1, 0] rfl) hw
    · have hw := hw.2 c_6
      exact hret _ _ (kd, fm, tk) _ _ hP hD hS dX0_remove_27 hw
-- X0_clearMarks
abbrev rmX0_clearMarks : Room := { frames := 1, cells := 0, slots := 0, locals := 23 }
set_option maxHeartbeats 4000000 in
set_option maxRecDepth 100000 in
theorem c_X0_clearMarks (l : Launch) (D : va_G) (g : Nat → Nat) (k : xC) (kd : Nat → Int32) (fm : Nat → Int32) (tk : Nat → Int32) (mr : Nat → Int32)  (post : (Nat → Int32) → Prop) (hw : wX0_clearMarks post mr) : CMv l yX0_clearMarks wsX0_clearMarks rmX0_clearMarks D k [.ref (g 7)] (fun v : (Nat → Int32) => (xP g k kd fm tk v)) mr (fun v => post v) := by
  refine met_mv (cc := cX0_clearMarks) (nL := 1) (by decide) rfl (Nat.le_of_ble_eq_true rfl) ?_
  intro p e s m args below meth c Q A ls hC hP hD hA hK hZ hS hl hret
  obtain ⟨hx, hb, hml, hown, hts⟩ := id hC
  have hC : CallFix p m c cX0_clearMarks 1 s args wsX0_clearMarks RX0 := hC
  have hown : s.vm.findClass RX0 = some m.cls := hown
  have hl : lv_has ls 1 [(0, .ref (g 7))] := hl
  have hP : va_P D vwCl (xP g k kd fm tk mr) s.heap := hP
  have hD : va_D A (xP g k kd fm tk mr) := hD
  have hinX0 : ∀ w ∈ wsX00, w ∈ wsX0_clearMarks := fun _ h => List.mem_cons_of_mem _ (List.mem_append_right _ h)
  unfold wX0_clearMarks at hw
  suffices main : ∀ (H : Heap) (locs : List Loc), va_P D vwCl (xP g k kd fm tk mr) H → va_D A (xP g k kd fm tk mr) → va_S A s.heap H locs → W p l e rmX0_clearMarks s m args below meth c H locs 0 0 Q (F0 m 0 ls []) from main _ _ hP hD hS
  intro H locs hP hD hS
  refine lv_aload_n hx hb dX0_clearMarks_0 rfl (lv_at hl 0 rfl) ?_
  refine va_get (D := D) (ci := 0) (v := .ref (g 11)) (C := RX0) (T := TX0) (N := 4) hx hb hts hinX0 hown hK hP 0 rfl rfl 3 (by decide) (hts (.fieldLink RX0 21 "SlabHeap$Pages" "marks" "[I") (by decide +kernel)) (fun _ h9 => h9) rfl dX0_clearMarks_1 ?_
  refine lv_iconst (v := 0) hx hb dX0_clearMarks_4 (by decide) ?_
  refine vcall (wr := [(g 7, .inr (0, [.ref (g 8), .ref (g 9), .ref (g 10), .ref (g 11)])), (g 8, .inl (k.1, 256, .inl kd)), (g 9, .inl (k.1, 256, .inl fm)), (g 10, .inl (k.1, 256, .inl tk))]) (va_runS (As := [.ref (g 11), .int 0]) (rest := []) hC (c_J7_fill_53178 l D (fun _ => g 11) k mr 0 _ hw H.size) (va_cwS 2 hts gX0_clearMarks_J7_fill_53178 rfl rfl rfl (by decide +kernel) ⟨Nat.le_of_ble_eq_true rfl, Nat.le_of_ble_eq_true rfl⟩) (preS_m hP hD hA hK hZ hS [4] rfl rfl (by decide)) rfl rfl hl.1 rfl (lv_room (Nat.le_of_ble_eq_true rfl)) dX0_clearMarks_5 ⟨Nat.le_of_ble_eq_true rfl, Nat.le_of_ble_eq_true rfl⟩) hP hD hA hS [4] [0, 1, 2, 3] rfl rfl (by decide) (by decide) (fun u' H locs hw hP hD hS => ?_)
  obtain ⟨mr_1, rfl⟩ : ∃ z, z = u' := ⟨_, rfl⟩
  try dsimp only at hw
  have hP : va_P D vwCl (xP g k kd fm tk mr_1) H := hP.sub [0, 1, 2, 3, 4] rfl
  have hD : va_D A (xP g k kd fm tk mr_1) := hD.sub [0, 1, 2, 3, 4] (by decide) rfl
  exact hret _ _ mr_1 _ _ hP hD hS dX0_clearMarks_8 hw
-- X0_isMarked
abbrev rmX0_isMarked : Room := { frames := 2, cells := 0, slots := 0, locals := 43 }
set_option maxHeartbeats 4000000 in
set_option maxRecDepth 100000 in
theorem c_X0_isMarked (l : Launch) (D : va_G) (g : Nat → Nat) (k : xC) (kd : Nat → Int32) (fm : Nat → Int32) (tk : Nat → Int32) (mr : Nat → Int32) (x1 : Int32) (post : Int32 → Prop) (hw : wX0_isMarked post kd fm tk mr x1) : CPi l yX0_isMarked wsX0_isMarked rmX0_isMarked D k [.ref (g 7), .int x1] (xP g k kd fm tk mr) post := by
  refine met_pz (cc := cX0_isMarked) (nL := 4) (by decide) rfl (Nat.le_of_ble_eq_true rfl) ?_
  intro p e s m args below meth c Q ls hC hP hK hZ hS hl hret
  obtain ⟨hx, hb, hml, hown, hts⟩ := id hC
  have hC : CallFix p m c cX0_isMarked 4 s args wsX0_isMarked RX0 := hC
  have hown : s.vm.findClass RX0 = some m.cls := hown
  have hl : lv_has ls 4 [(0, .ref (g 7)), (1, .int x1)] := hl
  have hinX0 : ∀ w ∈ wsX00, w ∈ wsX0_isMarked := fun _ h => List.mem_cons_of_mem _ (List.mem_append_right _ h)
  unfold wX0_isMarked at hw
  refine lv_iload_n hx hb dX0_isMarked_0 rfl (lv_at hl 1 rfl) ?_
  refine pcall (va_runS (As := [.int x1]) (rest := []) hC (c_X0_pageOf l D k x1 _ hw s.heap) (va_cwS 1 hts gX0_isMarked_X0_pageOf rfl rfl rfl (by decide +kernel) ⟨Nat.le_of_ble_eq_true rfl, Nat.le_of_ble_eq_true rfl⟩) (preS_p (hP.sub [] rfl) hK hZ hS) rfl rfl hl.1 rfl (lv_room (Nat.le_of_ble_eq_true rfl)) dX0_isMarked_1 ⟨Nat.le_of_ble_eq_true rfl, Nat.le_of_ble_eq_true rfl⟩) (fun r_1 hw => ?_)
  refine lv_istore_n (lv' := [(2, .int r_1), (0, .ref (g 7)), (1, .int x1)]) hx hb dX0_isMarked_4 rfl hl (by decide) rfl (fun ls hl => ?_)
  refine lv_aload_n hx hb dX0_isMarked_5 rfl (lv_at hl 1 rfl) ?_
  refine lv_iload_n hx hb dX0_isMarked_6 rfl (lv_at hl 2 rfl) ?_
  refine pcall (va_runV (As := [.int x1]) (rest := []) hC (c_X0_slotAt l D g k kd fm tk mr x1 _ hw s.heap) (cwV 1 hts gX0_isMarked_X0_slotAt rfl rfl rfl (by decide +kernel) ⟨Nat.le_of_ble_eq_true rfl, Nat.le_of_ble_eq_true rfl⟩) (preV_p (va_recv hK hP (ci := 0) (q0 := 0) rfl rfl) hP hK hZ hS) rfl rfl hl.1 rfl (lv_room (Nat.le_of_ble_eq_true rfl)) dX0_isMarked_7 ⟨Nat.le_of_ble_eq_true rfl, Nat.le_of_ble_eq_true rfl⟩) (fun r_2 hw => ?_)
  refine lv_istore_n (lv' := [(3, .int r_2), (2, .int r_1), (0, .ref (g 7)), (1, .int x1)]) hx hb dX0_isMarked_10 rfl hl (by decide) rfl (fun ls hl => ?_)
  refine lv_iload_n hx hb dX0_isMarked_11 rfl (lv_at hl 1 rfl) ?_
  refine pcall (va_runSN (As := [.int r_1]) (rest := []) hC (c_X2_isPage l D k r_1 _ hw s.heap) ⟨va_cnB 1 hts gX0_isMarked_X2_isPage_n30 rfl rfl rfl (hZ.2 (RX0, 30, yX2_isPage, "SlabHeap") (List.mem_of_getElem? (i := 2) rfl)) (hts (.initialized RX2) (by decide +kernel)) (by decide +kernel) ⟨Nat.le_of_ble_eq_true rfl, Nat.le_of_ble_eq_true rfl⟩, hts (.static yX2_isPage) (by decide +kernel), trivial⟩ (preS_p (hP.sub [] rfl) hK hZ hS) rfl rfl hl.1 rfl (lv_room (Nat.le_of_ble_eq_true rfl)) dX0_isMarked_12 ⟨Nat.le_of_ble_eq_true rfl, Nat.le_of_ble_eq_true rfl⟩) (fun r_3 hw => ?_)
  refine lv_if_eq (tgt := 45) hx hb dX0_isMarked_15 (by decide) (fun c_4 => ?_) (fun c_4 => ?_)
  · have hw := hw.1 c_4
    refine lv_iconst (v := 0) hx hb dX0_isMarked_45 (by decide) ?_
    exact hret _ _ _ dX0_isMarked_46 nb_0 hw
  · have hw := hw.2 c_4
    refine lv_aload_n hx hb dX0_isMarked_18 rfl (lv_at hl 2 rfl) ?_
    refine lv_iload_n hx hb dX0_isMarked_19 rfl (lv_at hl 1 rfl) ?_
    refine lv_iload_n hx hb dX0_isMarked_20 rfl (lv_at hl 0 rfl) ?_
    refine pcall (va_runV (As := [.int r_1, .int r_2]) (rest := []) hC (c_X0_isTaken l D g k kd fm tk mr r_1 r_2 _ hw s.heap) (cwV 2 hts gX0_isMarked_X0_isTaken rfl rfl rfl (by decide +kernel) ⟨Nat.le_of_ble_eq_true rfl, Nat.le_of_ble_eq_true rfl⟩) (preV_p (va_recv hK hP (ci := 0) (q0 := 0) rfl rfl) hP hK hZ hS) rfl rfl hl.1 rfl (lv_room (Nat.le_of_ble_eq_true rfl)) dX0_isMarked_21 ⟨Nat.le_of_ble_eq_true rfl, Nat.le_of_ble_eq_true rfl⟩) (fun r_5 hw => ?_)
    refine lv_if_eq (tgt := 45) hx hb dX0_isMarked_24 (by decide) (fun c_6 => ?_) (fun c_6 => ?_)
    · have hw := hw.1 c_6
      refine lv_iconst (v := 0) hx hb dX0_isMarked_45 (by decide) ?_
      exact hret _ _ _ dX0_isMarked_46 nb_0 hw
    · have hw := hw.2 c_6
      refine lv_aload_n hx hb dX0_isMarked_27 rfl (lv_at hl 2 rfl) ?_
      refine va_get (D := D) (ci := 0) (v := .ref (g 11)) (C := RX0) (T := TX0) (N := 4) hx hb hts hinX0 hown hK hP 0 rfl rfl 3 (by decide) (hts (.fieldLink RX0 21 "SlabHeap$Pages" "marks" "[I") (by decide +kernel)) (fun _ h9 => h9) rfl dX0_isMarked_28 ?_
      refine lv_iload_n hx hb dX0_isMarked_31 rfl (lv_at hl 1 rfl) ?_
      obtain ⟨h_7, hw⟩ := hw
      refine va_iald hx hb hK hP 4 0 rfl rfl h_7 dX0_isMarked_32 ?_
      refine lv_iload_n hx hb dX0_isMarked_33 rfl (lv_at hl 0 rfl) ?_
      refine lv_iushr (v := ((mr r_1.toNatClampNeg).toUInt32 >>> (r_2.toUInt32 &&& Int32.toUInt32 31)).toInt32) hx hb dX0_isMarked_34 rfl ?_
      refine lv_iconst (v := 1) hx hb dX0_isMarked_35 (by decide) ?_
      refine lv_iand hx hb dX0_isMarked_36 ?_
      refine lv_iconst (v := 1) hx hb dX0_isMarked_37 (by decide) ?_
      refine lv_icmp_ne (tgt := 45) hx hb dX0_isMarked_38 (by decide) (fun c_8 => ?_) (fun c_8 => ?_)
      · have hw := hw.1 c_8
        refine lv_iconst (v := 0) hx hb dX0_isMarked_45 (by decide) ?_
        exact hret _ _ _ dX0_isMarked_46 nb_0 hw
      · have hw := hw.2 c_8
        refine lv_iconst (v := 1) hx hb dX0_isMarked_41 (by decide) ?_
        refine lv_goto (tgt := 46) hx hb dX0_isMarked_42 (by decide) ?_
        exact hret _ _ _ dX0_isMarked_46 nb_1 hw
-- X0_mark
abbrev rmX0_mark : Room := { frames := 3, cells := 0, slots := 0, locals := 66 }
set_option maxHeartbeats 4000000 in
set_option maxRecDepth 100000 in
theorem c_X0_mark (l : Launch) (D : va_G) (g : Nat → Nat) (k : xC) (kd : Nat → Int32) (fm : Nat → Int32) (tk : Nat → Int32) (mr : Nat → Int32) (x1 : Int32) (post : Int32 → (Nat → Int32) → Prop) (hw : wX0_mark post kd fm tk mr x1) : CMi l yX0_mark wsX0_mark rmX0_mark D k [.ref (g 7), .int x1] (fun v : (Nat → Int32) => (xP g k kd fm tk v)) mr (fun r v => post r v) := by
  refine met_mz (cc := cX0_mark) (nL := 3) (by decide) rfl (Nat.le_of_ble_eq_true rfl) ?_
  intro p e s m args below meth c Q A ls hC hP hD hA hK hZ hS hl hret
  obtain ⟨hx, hb, hml, hown, hts⟩ := id hC
  have hC : CallFix p m c cX0_mark 3 s args wsX0_mark RX0 := hC
  have hown : s.vm.findClass RX0 = some m.cls := hown
  have hl : lv_has ls 3 [(0, .ref (g 7)), (1, .int x1)] := hl
  have hP : va_P D vwCl (xP g k kd fm tk mr) s.heap := hP
  have hD : va_D A (xP g k kd fm tk mr) := hD
  have hinX0 : ∀ w ∈ wsX00, w ∈ wsX0_mark := fun _ h => List.mem_cons_of_mem _ (List.mem_append_right _ h)
  unfold wX0_mark at hw
  suffices main : ∀ (H : Heap) (locs : List Loc), va_P D vwCl (xP g k kd fm tk mr) H → va_D A (xP g k kd fm tk mr) → va_S A s.heap H locs → W p l e rmX0_mark s m args below meth c H locs 0 0 Q (F0 m 0 ls []) from main _ _ hP hD hS
  intro H locs hP hD hS
  refine lv_iload_n hx hb dX0_mark_0 rfl (lv_at hl 1 rfl) ?_
  refine pcall (va_runS (As := [.int x1]) (rest := []) hC (c_X0_pageOf l D k x1 _ hw H) (va_cwS 1 hts gX0_mark_X0_pageOf rfl rfl rfl (by decide +kernel) ⟨Nat.le_of_ble_eq_true rfl, Nat.le_of_ble_eq_true rfl⟩) (preS_p (hP.sub [] rfl) hK hZ hS) rfl rfl hl.1 rfl (lv_room (Nat.le_of_ble_eq_true rfl)) dX0_mark_1 ⟨Nat.le_of_ble_eq_true rfl, Nat.le_of_ble_eq_true rfl⟩) (fun r_1 hw => ?_)
  refine lv_istore_n (lv' := [(2, .int r_1), (0, .ref (g 7)), (1, .int x1)]) hx hb dX0_mark_4 rfl hl (by decide) rfl (fun ls hl => ?_)
  refine lv_iload_n hx hb dX0_mark_5 rfl (lv_at hl 0 rfl) ?_
  refine pcall (va_runSN (As := [.int r_1]) (rest := []) hC (c_X2_isPage l D k r_1 _ hw H) ⟨va_cnB 1 hts gX0_mark_X2_isPage_n30 rfl rfl rfl (hZ.2 (RX0, 30, yX2_isPage, "SlabHeap") (List.mem_of_getElem? (i := 2) rfl)) (hts (.initialized RX2) (by decide +kernel)) (by decide +kernel) ⟨Nat.le_of_ble_eq_true rfl, Nat.le_of_ble_eq_true rfl⟩, hts (.static yX2_isPage) (by decide +kernel), trivial⟩ (preS_p (hP.sub [] rfl) hK hZ hS) rfl rfl hl.1 rfl (lv_room (Nat.le_of_ble_eq_true rfl)) dX0_mark_6 ⟨Nat.le_of_ble_eq_true rfl, Nat.le_of_ble_eq_true rfl⟩) (fun r_2 hw => ?_)
  refine lv_if_eq (tgt := 28) hx hb dX0_mark_9 (by decide) (fun c_3 => ?_) (fun c_3 => ?_)
  · have hw := hw.1 c_3
    refine lv_iconst (v := 0) hx hb dX0_mark_28 (by decide) ?_
    exact hret _ _ _ mr _ _ hP hD hS dX0_mark_29 nb_0 hw
  · have hw := hw.2 c_3
    refine lv_aload_n hx hb dX0_mark_12 rfl (lv_at hl 1 rfl) ?_
    refine lv_iload_n hx hb dX0_mark_13 rfl (lv_at hl 2 rfl) ?_
    refine pcall (va_runV (As := [.int x1]) (rest := []) hC (c_X0_isLive l D g k kd fm tk mr x1 _ hw H) (cwV 1 hts gX0_mark_X0_isLive rfl rfl rfl (by decide +kernel) ⟨Nat.le_of_ble_eq_true rfl, Nat.le_of_ble_eq_true rfl⟩) (preV_p (va_recv hK hP (ci := 0) (q0 := 0) rfl rfl) hP hK hZ hS) rfl rfl hl.1 rfl (lv_room (Nat.le_of_ble_eq_true rfl)) dX0_mark_14 ⟨Nat.le_of_ble_eq_true rfl, Nat.le_of_ble_eq_true rfl⟩) (fun r_4 hw => ?_)
    refine lv_if_eq (tgt := 28) hx hb dX0_mark_17 (by decide) (fun c_5 => ?_) (fun c_5 => ?_)
    · have hw := hw.1 c_5
      refine lv_iconst (v := 0) hx hb dX0_mark_28 (by decide) ?_
      exact hret _ _ _ mr _ _ hP hD hS dX0_mark_29 nb_0 hw
    · have hw := hw.2 c_5
      refine lv_aload_n hx hb dX0_mark_20 rfl (lv_at hl 1 rfl) ?_
      refine lv_iload_n hx hb dX0_mark_21 rfl (lv_at hl 2 rfl) ?_
      refine pcall (va_runV (As := [.int x1]) (rest := []) hC (c_X0_isMarked l D g k kd fm tk mr x1 _ hw H) (cwV 1 hts gX0_mark_X0_isMarked rfl rfl rfl (by decide +kernel) ⟨Nat.le_of_ble_eq_true rfl, Nat.le_of_ble_eq_true rfl⟩) (preV_p (va_recv hK hP (ci := 0) (q0 := 0) rfl rfl) hP hK hZ hS) rfl rfl hl.1 rfl (lv_room (Nat.le_of_ble_eq_true rfl)) dX0_mark_22 ⟨Nat.le_of_ble_eq_true rfl, Nat.le_of_ble_eq_true rfl⟩) (fun r_6 hw => ?_)
      refine lv_if_eq (tgt := 30) hx hb dX0_mark_25 (by decide) (fun c_7 => ?_) (fun c_7 => ?_)
      · have hw := hw.1 c_7
        refine lv_aload_n hx hb dX0_mark_30 rfl (lv_at hl 1 rfl) ?_
        refine va_get (D := D) (ci := 0) (v := .ref (g 11)) (C := RX0) (T := TX0) (N := 4) hx hb hts hinX0 hown hK hP 0 rfl rfl 3 (by decide) (hts (.fieldLink RX0 21 "SlabHeap$Pages" "marks" "[I") (by decide +kernel)) (fun _ h9 => h9) rfl dX0_mark_31 ?_
        refine lv_iload_n hx hb dX0_mark_34 rfl (lv_at hl 0 rfl) ?_
        refine lv_dup2_11 hx hb dX0_mark_35 rfl rfl ?_
        obtain ⟨h_8, hw⟩ := hw
        refine va_iald hx hb hK hP 4 0 rfl rfl h_8 dX0_mark_36 ?_
        refine lv_iconst (v := 1) hx hb dX0_mark_37 (by decide) ?_
        refine lv_aload_n hx hb dX0_mark_38 rfl (lv_at hl 1 rfl) ?_
        refine lv_iload_n hx hb dX0_mark_39 rfl (lv_at hl 2 rfl) ?_
        refine pcall (va_runV (As := [.int x1]) (rest := [.int 1, .int (mr r_1.toNatClampNeg), .int r_1, .ref (g 11)]) hC (c_X0_slotAt l D g k kd fm tk mr x1 _ hw H) (cwV 1 hts gX0_mark_X0_slotAt rfl rfl rfl (by decide +kernel) ⟨Nat.le_of_ble_eq_true rfl, Nat.le_of_ble_eq_true rfl⟩) (preV_p (va_recv hK hP (ci := 0) (q0 := 0) rfl rfl) hP hK hZ hS) rfl rfl hl.1 rfl (lv_room (Nat.le_of_ble_eq_true rfl)) dX0_mark_40 ⟨Nat.le_of_ble_eq_true rfl, Nat.le_of_ble_eq_true rfl⟩) (fun r_9 hw => ?_)
        refine lv_ishl hx hb dX0_mark_43 ?_
        refine lv_ior hx hb dX0_mark_44 ?_
        obtain ⟨h_10, hw⟩ := hw
        refine va_iast hx hb hK hP hD hS 4 0 rfl rfl h_10 dX0_mark_45 (fun H locs hP hD hS => ?_)
        have hP : va_P D vwCl (xP g k kd fm tk (upd mr r_1.toNatClampNeg ((mr r_1.toNatClampNeg) ||| ((1 : Int32) <<< (r_9 &&& 31))))) H := hP
        have hD : va_D A (xP g k kd fm tk (upd mr r_1.toNatClampNeg ((mr r_1.toNatClampNeg) ||| ((1 : Int32) <<< (r_9 &&& 31))))) := hD
        refine lv_iconst (v := 1) hx hb dX0_mark_46 (by decide) ?_
        exact hret _ _ _ (upd mr r_1.toNatClampNeg ((mr r_1.toNatClampNeg) ||| ((1 : Int32) <<< (r_9 &&& 31)))) _ _ hP hD hS dX0_mark_47 nb_1 hw
      · have hw := hw.2 c_7
        refine lv_iconst (v := 0) hx hb dX0_mark_28 (by decide) ?_
        exact hret _ _ _ mr _ _ hP hD hS dX0_mark_29 nb_0 hw
-- X0_howMany
abbrev rmX0_howMany : Room := { frames := 1, cells := 0, slots := 0, locals := 21 }
set_option maxHeartbeats 4000000 in
set_option maxRecDepth 100000 in
theorem c_X0_howMany (l : Launch) (D : va_G) (g : Nat → Nat) (k : xC) (kd : Nat → Int32) (fm : Nat → Int32) (tk : Nat → Int32) (mr : Nat → Int32) (x1 : Int32) (post : Int32 → Prop) (hw : wX0_howMany post kd x1) : CPi l yX0_howMany wsX0_howMany rmX0_howMany D k [.ref (g 7), .int x1] (xP g k kd fm tk mr) post := by
  refine met_pi (cc := cX0_howMany) (nL := 4) (by decide) rfl (Nat.le_of_ble_eq_true rfl) ?_
  intro p e s m args below meth c Q ls hC hP hK hZ hS hl hret
  obtain ⟨hx, hb, hml, hown, hts⟩ := id hC
  have hC : CallFix p m c cX0_howMany 4 s args wsX0_howMany RX0 := hC
  have hown : s.vm.findClass RX0 = some m.cls := hown
  have hl : lv_has ls 4 [(0, .ref (g 7)), (1, .int x1)] := hl
  have hinX0 : ∀ w ∈ wsX00, w ∈ wsX0_howMany := fun _ h => List.mem_cons_of_mem _ (List.mem_append_right _ h)
  have B4 : ∀ (fu : Nat), ∀ (x1 : Int32), ∀ (x2 : Int32), ∀ (x3 : Int32), ∀ (ls : Array Slot), lv_has ls 4 [(0, .ref (g 7)), (1, .int x1), (2, .int x2), (3, .int x3)] → wX0_howMany_4 post kd fu x1 x2 x3 → W p l e rmX0_howMany s m args below meth c s.heap [] 0 0 Q (F0 m 4 ls []) := by
    intro  fu
    induction fu with
    | zero =>
      intro x1 x2 x3 ls hl hw
      exact absurd hw (by unfold wX0_howMany_4; exact fun q => q)
    | succ n ih =>
      intro x1 x2 x3 ls hl hw
      unfold wX0_howMany_4 at hw
      refine lv_iload_n hx hb dX0_howMany_4 rfl (lv_at hl 3 rfl) ?_
      refine lv_sipush (v := 256) hx hb dX0_howMany_5 (by decide) ?_
      refine lv_icmp_ge (tgt := 29) hx hb dX0_howMany_8 (by decide) (fun c_1 => ?_) (fun c_1 => ?_)
      · have hw := hw.1 c_1
        refine lv_iload_n hx hb dX0_howMany_29 rfl (lv_at hl 2 rfl) ?_
        exact hret _ _ _ dX0_howMany_30 hw
      · have hw := hw.2 c_1
        refine lv_aload_n hx hb dX0_howMany_11 rfl (lv_at hl 0 rfl) ?_
        refine lv_iload_n hx hb dX0_howMany_12 rfl (lv_at hl 3 rfl) ?_
        refine pcall (va_runV (As := [.int x3]) (rest := []) hC (c_X0_kindOf l D g k kd fm tk mr x3 _ hw s.heap) (cwV 1 hts gX0_howMany_X0_kindOf rfl rfl rfl (by decide +kernel) ⟨Nat.le_of_ble_eq_true rfl, Nat.le_of_ble_eq_true rfl⟩) (preV_p (va_recv hK hP (ci := 0) (q0 := 0) rfl rfl) hP hK hZ hS) rfl rfl hl.1 rfl (lv_room (Nat.le_of_ble_eq_true rfl)) dX0_howMany_13 ⟨Nat.le_of_ble_eq_true rfl, Nat.le_of_ble_eq_true rfl⟩) (fun r_2 hw => ?_)
        refine lv_iload_n hx hb dX0_howMany_16 rfl (lv_at hl 1 rfl) ?_
        refine lv_icmp_ne (tgt := 23) hx hb dX0_howMany_17 (by decide) (fun c_3 => ?_) (fun c_3 => ?_)
        · have hw := hw.1 c_3
          obtain ⟨x3_4, ex3_4⟩ : ∃ y : Int32, y = x3 + 1 := ⟨_, rfl⟩
          have hw := hw x3_4 ex3_4
          refine lv_iinc (v := x3_4) (lv' := [(3, .int x3_4), (0, .ref (g 7)), (1, .int x1), (2, .int x2)]) hx hb dX0_howMany_23 hl (k := 3) rfl (by rw [ex3_4]; rfl) (by decide) rfl (fun ls hl => ?_)
          refine lv_goto (tgt := 4) hx hb dX0_howMany_26 (by decide) ?_
          exact ih x1 x2 x3_4 ls (lv_sub hl [1, 2, 3, 0] rfl) hw
        · have hw := hw.2 c_3
          obtain ⟨x2_5, ex2_5⟩ : ∃ y : Int32, y = x2 + 1 := ⟨_, rfl⟩
          have hw := hw x2_5 ex2_5
          refine lv_iinc (v := x2_5) (lv' := [(2, .int x2_5), (0, .ref (g 7)), (1, .int x1), (3, .int x3)]) hx hb dX0_howMany_20 hl (k := 2) rfl (by rw [ex2_5]; rfl) (by decide) rfl (fun ls hl => ?_)
          obtain ⟨x3_6, ex3_6⟩ : ∃ y : Int32, y = x3 + 1 := ⟨_, rfl⟩
          have hw := hw x3_6 ex3_6
          refine lv_iinc (v := x3_6) (lv' := [(3, .int x3_6), (2, .int x2_5), (0, .ref (g 7)), (1, .int x1)]) hx hb dX0_howMany_23 hl (k := 3) rfl (by rw [ex3_6]; rfl) (by decide) rfl (fun ls hl => ?_)
          refine lv_goto (tgt := 4) hx hb dX0_howMany_26 (by decide) ?_
          exact ih x1 x2_5 x3_6 ls (lv_sub hl [2, 3, 1, 0] rfl) hw
  unfold wX0_howMany at hw
  refine lv_iconst (v := 0) hx hb dX0_howMany_0 (by decide) ?_
  refine lv_istore_n (lv' := [(2, .int 0), (0, .ref (g 7)), (1, .int x1)]) hx hb dX0_howMany_1 rfl hl (by decide) rfl (fun ls hl => ?_)
  refine lv_iconst (v := 0) hx hb dX0_howMany_2 (by decide) ?_
  refine lv_istore_n (lv' := [(3, .int 0), (2, .int 0), (0, .ref (g 7)), (1, .int x1)]) hx hb dX0_howMany_3 rfl hl (by decide) rfl (fun ls hl => ?_)
  obtain ⟨fu_7, hw⟩ := hw
  exact B4  fu_7 x1 0 0 ls (lv_sub hl [2, 3, 1, 0] rfl) hw
-- X0_emptySlots
abbrev rmX0_emptySlots : Room := { frames := 2, cells := 0, slots := 0, locals := 43 }
set_option maxHeartbeats 4000000 in
set_option maxRecDepth 100000 in
theorem c_X0_emptySlots (l : Launch) (D : va_G) (g : Nat → Nat) (k : xC) (kd : Nat → Int32) (fm : Nat → Int32) (tk : Nat → Int32) (mr : Nat → Int32)  (post : Int32 → Prop) (hw : wX0_emptySlots post kd fm tk) : CPi l yX0_emptySlots wsX0_emptySlots rmX0_emptySlots D k [.ref (g 7)] (xP g k kd fm tk mr) post := by
  refine met_pi (cc := cX0_emptySlots) (nL := 3) (by decide) rfl (Nat.le_of_ble_eq_true rfl) ?_
  intro p e s m args below meth c Q ls hC hP hK hZ hS hl hret
  obtain ⟨hx, hb, hml, hown, hts⟩ := id hC
  have hC : CallFix p m c cX0_emptySlots 3 s args wsX0_emptySlots RX0 := hC
  have hown : s.vm.findClass RX0 = some m.cls := hown
  have hl : lv_has ls 3 [(0, .ref (g 7))] := hl
  have hinX0 : ∀ w ∈ wsX00, w ∈ wsX0_emptySlots := fun _ h => List.mem_cons_of_mem _ (List.mem_append_right _ h)
  have B4 : ∀ (fu : Nat), ∀ (x1 : Int32), ∀ (x2 : Int32), ∀ (ls : Array Slot), lv_has ls 3 [(0, .ref (g 7)), (1, .int x1), (2, .int x2)] → wX0_emptySlots_4 post kd fm tk fu x1 x2 → W p l e rmX0_emptySlots s m args below meth c s.heap [] 0 0 Q (F0 m 4 ls []) := by
    intro  fu
    induction fu with
    | zero =>
      intro x1 x2 ls hl hw
      exact absurd hw (by unfold wX0_emptySlots_4; exact fun q => q)
    | succ n ih =>
      intro x1 x2 ls hl hw
      unfold wX0_emptySlots_4 at hw
      refine lv_iload_n hx hb dX0_emptySlots_4 rfl (lv_at hl 2 rfl) ?_
      refine lv_sipush (v := 256) hx hb dX0_emptySlots_5 (by decide) ?_
      refine lv_icmp_ge (tgt := 31) hx hb dX0_emptySlots_8 (by decide) (fun c_1 => ?_) (fun c_1 => ?_)
      · have hw := hw.1 c_1
        refine lv_iload_n hx hb dX0_emptySlots_31 rfl (lv_at hl 1 rfl) ?_
        exact hret _ _ _ dX0_emptySlots_32 hw
      · have hw := hw.2 c_1
        refine lv_iload_n hx hb dX0_emptySlots_11 rfl (lv_at hl 1 rfl) ?_
        refine lv_aload_n hx hb dX0_emptySlots_12 rfl (lv_at hl 0 rfl) ?_
        refine lv_iload_n hx hb dX0_emptySlots_13 rfl (lv_at hl 2 rfl) ?_
        refine pcall (va_runV (As := [.int x2]) (rest := [.int x1]) hC (c_X0_slotsOf l D g k kd fm tk mr x2 _ hw s.heap) (cwV 1 hts gX0_emptySlots_X0_slotsOf rfl rfl rfl (by decide +kernel) ⟨Nat.le_of_ble_eq_true rfl, Nat.le_of_ble_eq_true rfl⟩) (preV_p (va_recv hK hP (ci := 0) (q0 := 0) rfl rfl) hP hK hZ hS) rfl rfl hl.1 rfl (lv_room (Nat.le_of_ble_eq_true rfl)) dX0_emptySlots_14 ⟨Nat.le_of_ble_eq_true rfl, Nat.le_of_ble_eq_true rfl⟩) (fun r_2 hw => ?_)
        refine lv_aload_n hx hb dX0_emptySlots_17 rfl (lv_at hl 0 rfl) ?_
        refine lv_iload_n hx hb dX0_emptySlots_18 rfl (lv_at hl 2 rfl) ?_
        refine pcall (va_runV (As := [.int x2]) (rest := [.int r_2, .int x1]) hC (c_X0_blocksOn l D g k kd fm tk mr x2 _ hw s.heap) (cwV 1 hts gX0_emptySlots_X0_blocksOn rfl rfl rfl (by decide +kernel) ⟨Nat.le_of_ble_eq_true rfl, Nat.le_of_ble_eq_true rfl⟩) (preV_p (va_recv hK hP (ci := 0) (q0 := 0) rfl rfl) hP hK hZ hS) rfl rfl hl.1 rfl (lv_room (Nat.le_of_ble_eq_true rfl)) dX0_emptySlots_19 ⟨Nat.le_of_ble_eq_true rfl, Nat.le_of_ble_eq_true rfl⟩) (fun r_3 hw => ?_)
        refine lv_isub hx hb dX0_emptySlots_22 ?_
        refine lv_iadd hx hb dX0_emptySlots_23 ?_
        refine lv_topi (fun x1_4 ex1_4 => ?_)
        have hw := hw x1_4 ex1_4
        refine lv_istore_n (lv' := [(1, .int x1_4), (0, .ref (g 7)), (2, .int x2)]) hx hb dX0_emptySlots_24 rfl hl (by decide) rfl (fun ls hl => ?_)
        obtain ⟨x2_5, ex2_5⟩ : ∃ y : Int32, y = x2 + 1 := ⟨_, rfl⟩
        have hw := hw x2_5 ex2_5
        refine lv_iinc (v := x2_5) (lv' := [(2, .int x2_5), (1, .int x1_4), (0, .ref (g 7))]) hx hb dX0_emptySlots_25 hl (k := 2) rfl (by rw [ex2_5]; rfl) (by decide) rfl (fun ls hl => ?_)
        refine lv_goto (tgt := 4) hx hb dX0_emptySlots_28 (by decide) ?_
        exact ih x1_4 x2_5 ls (lv_sub hl [2, 1, 0] rfl) hw
  unfold wX0_emptySlots at hw
  refine lv_iconst (v := 0) hx hb dX0_emptySlots_0 (by decide) ?_
  refine lv_istore_n (lv' := [(1, .int 0), (0, .ref (g 7))]) hx hb dX0_emptySlots_1 rfl hl (by decide) rfl (fun ls hl => ?_)
  refine lv_iconst (v := 0) hx hb dX0_emptySlots_2 (by decide) ?_
  refine lv_istore_n (lv' := [(2, .int 0), (1, .int 0), (0, .ref (g 7))]) hx hb dX0_emptySlots_3 rfl hl (by decide) rfl (fun ls hl => ?_)
  obtain ⟨fu_6, hw⟩ := hw
  exact B4  fu_6 0 0 ls (lv_sub hl [2, 1, 0] rfl) hw
-- X0_freeExtents
abbrev rmX0_freeExtents : Room := { frames := 3, cells := 0, slots := 0, locals := 67 }
set_option maxHeartbeats 4000000 in
set_option maxRecDepth 100000 in
theorem c_X0_freeExtents (l : Launch) (D : va_G) (g : Nat → Nat) (k : xC) (kd : Nat → Int32) (fm : Nat → Int32) (tk : Nat → Int32) (mr : Nat → Int32) (x1 : Int32) (post : Int32 → Prop) (hw : wX0_freeExtents post kd x1) : CPi l yX0_freeExtents wsX0_freeExtents rmX0_freeExtents D k [.ref (g 7), .int x1] (xP g k kd fm tk mr) post := by
  refine met_pi (cc := cX0_freeExtents) (nL := 4) (by decide) rfl (Nat.le_of_ble_eq_true rfl) ?_
  intro p e s m args below meth c Q ls hC hP hK hZ hS hl hret
  obtain ⟨hx, hb, hml, hown, hts⟩ := id hC
  have hC : CallFix p m c cX0_freeExtents 4 s args wsX0_freeExtents RX0 := hC
  have hown : s.vm.findClass RX0 = some m.cls := hown
  have hl : lv_has ls 4 [(0, .ref (g 7)), (1, .int x1)] := hl
  have hinX0 : ∀ w ∈ wsX00, w ∈ wsX0_freeExtents := fun _ h => List.mem_cons_of_mem _ (List.mem_append_right _ h)
  have B13 : ∀ (fu : Nat), ∀ (x1 : Int32), ∀ (x2 : Int32), ∀ (x3 : Int32), ∀ (ls : Array Slot), lv_has ls 4 [(0, .ref (g 7)), (1, .int x1), (2, .int x2), (3, .int x3)] → wX0_freeExtents_13 post kd fu x1 x2 x3 → W p l e rmX0_freeExtents s m args below meth c s.heap [] 0 0 Q (F0 m 13 ls []) := by
    intro  fu
    induction fu with
    | zero =>
      intro x1 x2 x3 ls hl hw
      exact absurd hw (by unfold wX0_freeExtents_13; exact fun q => q)
    | succ n ih =>
      intro x1 x2 x3 ls hl hw
      unfold wX0_freeExtents_13 at hw
      refine lv_iload_n hx hb dX0_freeExtents_13 rfl (lv_at hl 3 rfl) ?_
      refine lv_sipush (v := 256) hx hb dX0_freeExtents_14 (by decide) ?_
      refine lv_icmp_ge (tgt := 41) hx hb dX0_freeExtents_17 (by decide) (fun c_3 => ?_) (fun c_3 => ?_)
      · have hw := hw.1 c_3
        refine lv_iload_n hx hb dX0_freeExtents_41 rfl (lv_at hl 2 rfl) ?_
        exact hret _ _ _ dX0_freeExtents_42 hw
      · have hw := hw.2 c_3
        refine lv_aload_n hx hb dX0_freeExtents_20 rfl (lv_at hl 0 rfl) ?_
        refine lv_iload_n hx hb dX0_freeExtents_21 rfl (lv_at hl 3 rfl) ?_
        refine lv_iload_n hx hb dX0_freeExtents_22 rfl (lv_at hl 1 rfl) ?_
        refine pcall (va_runV (As := [.int x3, .int x1]) (rest := []) hC (c_X0_isFreeExtent l D g k kd fm tk mr x3 x1 _ hw s.heap) (cwV 2 hts gX0_freeExtents_X0_isFreeExtent rfl rfl rfl (by decide +kernel) ⟨Nat.le_of_ble_eq_true rfl, Nat.le_of_ble_eq_true rfl⟩) (preV_p (va_recv hK hP (ci := 0) (q0 := 0) rfl rfl) hP hK hZ hS) rfl rfl hl.1 rfl (lv_room (Nat.le_of_ble_eq_true rfl)) dX0_freeExtents_23 ⟨Nat.le_of_ble_eq_true rfl, Nat.le_of_ble_eq_true rfl⟩) (fun r_4 hw => ?_)
        refine lv_if_eq (tgt := 32) hx hb dX0_freeExtents_26 (by decide) (fun c_5 => ?_) (fun c_5 => ?_)
        · have hw := hw.1 c_5
          refine lv_iload_n hx hb dX0_freeExtents_32 rfl (lv_at hl 3 rfl) ?_
          refine lv_iconst (v := 1) hx hb dX0_freeExtents_33 (by decide) ?_
          refine lv_iload_n hx hb dX0_freeExtents_34 rfl (lv_at hl 1 rfl) ?_
          refine lv_ishl hx hb dX0_freeExtents_35 ?_
          refine lv_iadd hx hb dX0_freeExtents_36 ?_
          refine lv_topi (fun x3_6 ex3_6 => ?_)
          have hw := hw x3_6 ex3_6
          refine lv_istore_n (lv' := [(3, .int x3_6), (0, .ref (g 7)), (1, .int x1), (2, .int x2)]) hx hb dX0_freeExtents_37 rfl hl (by decide) rfl (fun ls hl => ?_)
          refine lv_goto (tgt := 13) hx hb dX0_freeExtents_38 (by decide) ?_
          exact ih x1 x2 x3_6 ls (lv_sub hl [1, 2, 3, 0] rfl) hw
        · have hw := hw.2 c_5
          obtain ⟨x2_7, ex2_7⟩ : ∃ y : Int32, y = x2 + 1 := ⟨_, rfl⟩
          have hw := hw x2_7 ex2_7
          refine lv_iinc (v := x2_7) (lv' := [(2, .int x2_7), (0, .ref (g 7)), (1, .int x1), (3, .int x3)]) hx hb dX0_freeExtents_29 hl (k := 2) rfl (by rw [ex2_7]; rfl) (by decide) rfl (fun ls hl => ?_)
          refine lv_iload_n hx hb dX0_freeExtents_32 rfl (lv_at hl 3 rfl) ?_
          refine lv_iconst (v := 1) hx hb dX0_freeExtents_33 (by decide) ?_
          refine lv_iload_n hx hb dX0_freeExtents_34 rfl (lv_at hl 2 rfl) ?_
          refine lv_ishl hx hb dX0_freeExtents_35 ?_
          refine lv_iadd hx hb dX0_freeExtents_36 ?_
          refine lv_topi (fun x3_8 ex3_8 => ?_)
          have hw := hw x3_8 ex3_8
          refine lv_istore_n (lv' := [(3, .int x3_8), (2, .int x2_7), (0, .ref (g 7)), (1, .int x1)]) hx hb dX0_freeExtents_37 rfl hl (by decide) rfl (fun ls hl => ?_)
          refine lv_goto (tgt := 13) hx hb dX0_freeExtents_38 (by decide) ?_
          exact ih x1 x2_7 x3_8 ls (lv_sub hl [2, 3, 1, 0] rfl) hw
  unfold wX0_freeExtents at hw
  refine lv_iload_n hx hb dX0_freeExtents_0 rfl (lv_at hl 1 rfl) ?_
  refine pcall (va_runSN (As := [.int x1]) (rest := []) hC (c_X2_isOrder l D k x1 _ hw s.heap) ⟨va_cnB 1 hts gX0_freeExtents_X2_isOrder_n110 rfl rfl rfl (hZ.2 (RX0, 110, yX2_isOrder, "SlabHeap") (List.mem_of_getElem? (i := 4) rfl)) (hts (.initialized RX2) (by decide +kernel)) (by decide +kernel) ⟨Nat.le_of_ble_eq_true rfl, Nat.le_of_ble_eq_true rfl⟩, hts (.static yX2_isOrder) (by decide +kernel), trivial⟩ (preS_p (hP.sub [] rfl) hK hZ hS) rfl rfl hl.1 rfl (lv_room (Nat.le_of_ble_eq_true rfl)) dX0_freeExtents_1 ⟨Nat.le_of_ble_eq_true rfl, Nat.le_of_ble_eq_true rfl⟩) (fun r_1 hw => ?_)
  refine lv_if_ne (tgt := 9) hx hb dX0_freeExtents_4 (by decide) (fun c_2 => ?_) (fun c_2 => ?_)
  · have hw := hw.1 c_2
    refine lv_iconst (v := 0) hx hb dX0_freeExtents_9 (by decide) ?_
    refine lv_istore_n (lv' := [(2, .int 0), (0, .ref (g 7)), (1, .int x1)]) hx hb dX0_freeExtents_10 rfl hl (by decide) rfl (fun ls hl => ?_)
    refine lv_iconst (v := 0) hx hb dX0_freeExtents_11 (by decide) ?_
    refine lv_istore_n (lv' := [(3, .int 0), (2, .int 0), (0, .ref (g 7)), (1, .int x1)]) hx hb dX0_freeExtents_12 rfl hl (by decide) rfl (fun ls hl => ?_)
    obtain ⟨fu_9, hw⟩ := hw
    exact B13  fu_9 x1 0 0 ls (lv_sub hl [2, 3, 1, 0] rfl) hw
  · have hw := hw.2 c_2
    refine lv_iconst (v := (-1)) hx hb dX0_freeExtents_7 (by decide) ?_
    exact hret _ _ _ dX0_freeExtents_8 hw
