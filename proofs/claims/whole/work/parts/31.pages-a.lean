-- X0_freeAll
abbrev rmX0_freeAll : Room := { frames := 1, cells := 0, slots := 0, locals := 23 }
set_option maxHeartbeats 4000000 in
set_option maxRecDepth 100000 in
theorem c_X0_freeAll (l : Launch) (D : va_G) (g : Nat → Nat) (k : xC) (kd : Nat → Int32) (fm : Nat → Int32) (tk : Nat → Int32) (mr : Nat → Int32)  (post : (Nat → Int32) → (Nat → Int32) → Prop) (hw : wX0_freeAll post kd tk) : CMv l yX0_freeAll wsX0_freeAll rmX0_freeAll D k [.ref (g 7)] (fun v : (Nat → Int32) × (Nat → Int32) => (xP g k (v.1) fm (v.2) mr)) (kd, tk) (fun v => post (v.1) (v.2)) := by
  refine met_mv (cc := cX0_freeAll) (nL := 1) (by decide) rfl (Nat.le_of_ble_eq_true rfl) ?_
  intro p e s m args below meth c Q A ls hC hP hD hA hK hZ hS hl hret
  obtain ⟨hx, hb, hml, hown, hts⟩ := id hC
  have hC : CallFix p m c cX0_freeAll 1 s args wsX0_freeAll RX0 := hC
  have hown : s.vm.findClass RX0 = some m.cls := hown
  have hl : lv_has ls 1 [(0, .ref (g 7))] := hl
  have hP : va_P D vwCl (xP g k kd fm tk mr) s.heap := hP
  have hD : va_D A (xP g k kd fm tk mr) := hD
  have hinX0 : ∀ w ∈ wsX00, w ∈ wsX0_freeAll := fun _ h => List.mem_cons_of_mem _ (List.mem_append_right _ h)
  unfold wX0_freeAll at hw
  suffices main : ∀ (H : Heap) (locs : List Loc), va_P D vwCl (xP g k kd fm tk mr) H → va_D A (xP g k kd fm tk mr) → va_S A s.heap H locs → W p l e rmX0_freeAll s m args below meth c H locs 0 0 Q (F0 m 0 ls []) from main _ _ hP hD hS
  intro H locs hP hD hS
  refine lv_aload_n hx hb dX0_freeAll_0 rfl (lv_at hl 0 rfl) ?_
  refine va_get (D := D) (ci := 0) (v := .ref (g 8)) (C := RX0) (T := TX0) (N := 4) hx hb hts hinX0 hown hK hP 0 rfl rfl 0 (by decide) (hts (.fieldLink RX0 9 "SlabHeap$Pages" "kinds" "[I") (by decide +kernel)) (fun _ h9 => h9) rfl dX0_freeAll_1 ?_
  refine lv_iconst (v := 0) hx hb dX0_freeAll_4 (by decide) ?_
  refine vcall (wr := [(g 7, .inr (0, [.ref (g 8), .ref (g 9), .ref (g 10), .ref (g 11)])), (g 9, .inl (k.1, 256, .inl fm)), (g 10, .inl (k.1, 256, .inl tk)), (g 11, .inl (k.1, 256, .inl mr))]) (va_runS (As := [.ref (g 8), .int 0]) (rest := []) hC (c_J7_fill_53178 l D (fun _ => g 8) k kd 0 _ hw H.size) (va_cwS 2 hts gX0_freeAll_J7_fill_53178 rfl rfl rfl (by decide +kernel) ⟨Nat.le_of_ble_eq_true rfl, Nat.le_of_ble_eq_true rfl⟩) (preS_m hP hD hA hK hZ hS [1] rfl rfl (by decide)) rfl rfl hl.1 rfl (lv_room (Nat.le_of_ble_eq_true rfl)) dX0_freeAll_5 ⟨Nat.le_of_ble_eq_true rfl, Nat.le_of_ble_eq_true rfl⟩) hP hD hA hS [1] [0, 2, 3, 4] rfl rfl (by decide) (by decide) (fun u' H locs hw hP hD hS => ?_)
  obtain ⟨kd_1, rfl⟩ : ∃ z, z = u' := ⟨_, rfl⟩
  try dsimp only at hw
  have hP : va_P D vwCl (xP g k kd_1 fm tk mr) H := hP.sub [0, 4, 1, 2, 3] rfl
  have hD : va_D A (xP g k kd_1 fm tk mr) := hD.sub [0, 4, 1, 2, 3] (by decide) rfl
  refine lv_aload_n hx hb dX0_freeAll_8 rfl (lv_at hl 0 rfl) ?_
  refine va_get (D := D) (ci := 0) (v := .ref (g 10)) (C := RX0) (T := TX0) (N := 4) hx hb hts hinX0 hown hK hP 0 rfl rfl 2 (by decide) (hts (.fieldLink RX0 18 "SlabHeap$Pages" "taken" "[I") (by decide +kernel)) (fun _ h9 => h9) rfl dX0_freeAll_9 ?_
  refine lv_iconst (v := 0) hx hb dX0_freeAll_12 (by decide) ?_
  refine vcall (wr := [(g 7, .inr (0, [.ref (g 8), .ref (g 9), .ref (g 10), .ref (g 11)])), (g 8, .inl (k.1, 256, .inl kd_1)), (g 9, .inl (k.1, 256, .inl fm)), (g 11, .inl (k.1, 256, .inl mr))]) (va_runS (As := [.ref (g 10), .int 0]) (rest := []) hC (c_J7_fill_53178 l D (fun _ => g 10) k tk 0 _ hw H.size) (va_cwS 2 hts gX0_freeAll_J7_fill_53178 rfl rfl rfl (by decide +kernel) ⟨Nat.le_of_ble_eq_true rfl, Nat.le_of_ble_eq_true rfl⟩) (preS_m hP hD hA hK hZ hS [3] rfl rfl (by decide)) rfl rfl hl.1 rfl (lv_room (Nat.le_of_ble_eq_true rfl)) dX0_freeAll_13 ⟨Nat.le_of_ble_eq_true rfl, Nat.le_of_ble_eq_true rfl⟩) hP hD hA hS [3] [0, 1, 2, 4] rfl rfl (by decide) (by decide) (fun u' H locs hw hP hD hS => ?_)
  obtain ⟨tk_2, rfl⟩ : ∃ z, z = u' := ⟨_, rfl⟩
  try dsimp only at hw
  have hP : va_P D vwCl (xP g k kd_1 fm tk_2 mr) H := hP.sub [0, 1, 2, 4, 3] rfl
  have hD : va_D A (xP g k kd_1 fm tk_2 mr) := hD.sub [0, 1, 2, 4, 3] (by decide) rfl
  refine lv_aload_n hx hb dX0_freeAll_16 rfl (lv_at hl 0 rfl) ?_
  refine va_get (D := D) (ci := 0) (v := .ref (g 8)) (C := RX0) (T := TX0) (N := 4) hx hb hts hinX0 hown hK hP 0 rfl rfl 0 (by decide) (hts (.fieldLink RX0 9 "SlabHeap$Pages" "kinds" "[I") (by decide +kernel)) (fun _ h9 => h9) rfl dX0_freeAll_17 ?_
  refine lv_iconst (v := 0) hx hb dX0_freeAll_20 (by decide) ?_
  refine lv_iconst (v := 4) hx hb dX0_freeAll_21 (by decide) ?_
  obtain ⟨h_3, hw⟩ := hw
  refine va_iast hx hb hK hP hD hS 1 0 rfl rfl h_3 dX0_freeAll_22 (fun H locs hP hD hS => ?_)
  have hP : va_P D vwCl (xP g k (upd kd_1 (0 : Int32).toNatClampNeg 4) fm tk_2 mr) H := hP
  have hD : va_D A (xP g k (upd kd_1 (0 : Int32).toNatClampNeg 4) fm tk_2 mr) := hD
  exact hret _ _ ((upd kd_1 (0 : Int32).toNatClampNeg 4), tk_2) _ _ hP hD hS dX0_freeAll_23 hw
-- X0_kindOf
abbrev rmX0_kindOf : Room := { frames := 0, cells := 0, slots := 0, locals := 0 }
set_option maxHeartbeats 4000000 in
set_option maxRecDepth 100000 in
theorem c_X0_kindOf (l : Launch) (D : va_G) (g : Nat → Nat) (k : xC) (kd : Nat → Int32) (fm : Nat → Int32) (tk : Nat → Int32) (mr : Nat → Int32) (x1 : Int32) (post : Int32 → Prop) (hw : wX0_kindOf post kd x1) : CPi l yX0_kindOf wsX0_kindOf rmX0_kindOf D k [.ref (g 7), .int x1] (xP g k kd fm tk mr) post := by
  refine met_pi (cc := cX0_kindOf) (nL := 2) (by decide) rfl (Nat.le_of_ble_eq_true rfl) ?_
  intro p e s m args below meth c Q ls hC hP hK hZ hS hl hret
  obtain ⟨hx, hb, hml, hown, hts⟩ := id hC
  have hC : CallFix p m c cX0_kindOf 2 s args wsX0_kindOf RX0 := hC
  have hown : s.vm.findClass RX0 = some m.cls := hown
  have hl : lv_has ls 2 [(0, .ref (g 7)), (1, .int x1)] := hl
  have hinX0 : ∀ w ∈ wsX00, w ∈ wsX0_kindOf := fun _ h => List.mem_cons_of_mem _ (List.mem_append_right _ h)
  unfold wX0_kindOf at hw
  refine lv_iload_n hx hb dX0_kindOf_0 rfl (lv_at hl 1 rfl) ?_
  refine lv_if_lt (tgt := 20) hx hb dX0_kindOf_1 (by decide) (fun c_1 => ?_) (fun c_1 => ?_)
  · have hw := hw.1 c_1
    refine lv_iconst (v := (-1)) hx hb dX0_kindOf_20 (by decide) ?_
    exact hret _ _ _ dX0_kindOf_21 hw
  · have hw := hw.2 c_1
    refine lv_iload_n hx hb dX0_kindOf_4 rfl (lv_at hl 1 rfl) ?_
    refine lv_sipush (v := 256) hx hb dX0_kindOf_5 (by decide) ?_
    refine lv_icmp_ge (tgt := 20) hx hb dX0_kindOf_8 (by decide) (fun c_2 => ?_) (fun c_2 => ?_)
    · have hw := hw.1 c_2
      refine lv_iconst (v := (-1)) hx hb dX0_kindOf_20 (by decide) ?_
      exact hret _ _ _ dX0_kindOf_21 hw
    · have hw := hw.2 c_2
      refine lv_aload_n hx hb dX0_kindOf_11 rfl (lv_at hl 0 rfl) ?_
      refine va_get (D := D) (ci := 0) (v := .ref (g 8)) (C := RX0) (T := TX0) (N := 4) hx hb hts hinX0 hown hK hP 0 rfl rfl 0 (by decide) (hts (.fieldLink RX0 9 "SlabHeap$Pages" "kinds" "[I") (by decide +kernel)) (fun _ h9 => h9) rfl dX0_kindOf_12 ?_
      refine lv_iload_n hx hb dX0_kindOf_15 rfl (lv_at hl 1 rfl) ?_
      obtain ⟨h_3, hw⟩ := hw
      refine va_iald hx hb hK hP 1 0 rfl rfl h_3 dX0_kindOf_16 ?_
      refine lv_goto (tgt := 21) hx hb dX0_kindOf_17 (by decide) ?_
      exact hret _ _ _ dX0_kindOf_21 hw
-- X0_alignedTo
abbrev rmX0_alignedTo : Room := { frames := 1, cells := 0, slots := 0, locals := 20 }
set_option maxHeartbeats 4000000 in
set_option maxRecDepth 100000 in
theorem c_X0_alignedTo (l : Launch) (D : va_G) (k : xC)  (x0 : Int32) (x1 : Int32) (post : Int32 → Prop) (hw : wX0_alignedTo post x0 x1) : CPi l yX0_alignedTo wsX0_alignedTo rmX0_alignedTo D k [.int x0, .int x1] [] post := by
  refine met_pi (cc := cX0_alignedTo) (nL := 2) (by decide) rfl (Nat.le_of_ble_eq_true rfl) ?_
  intro p e s m args below meth c Q ls hC hP hK hZ hS hl hret
  obtain ⟨hx, hb, hml, hown, hts⟩ := id hC
  have hC : CallFix p m c cX0_alignedTo 2 s args wsX0_alignedTo RX0 := hC
  have hown : s.vm.findClass RX0 = some m.cls := hown
  have hl : lv_has ls 2 [(0, .int x0), (1, .int x1)] := hl
  unfold wX0_alignedTo at hw
  refine lv_iload_n hx hb dX0_alignedTo_0 rfl (lv_at hl 1 rfl) ?_
  refine pcall (va_runSN (As := [.int x1]) (rest := []) hC (c_X2_isOrder l D k x1 _ hw s.heap) ⟨va_cnB 1 hts gX0_alignedTo_X2_isOrder_n110 rfl rfl rfl (hZ.2 (RX0, 110, yX2_isOrder, "SlabHeap") (List.mem_of_getElem? (i := 4) rfl)) (hts (.initialized RX2) (by decide +kernel)) (by decide +kernel) ⟨Nat.le_of_ble_eq_true rfl, Nat.le_of_ble_eq_true rfl⟩, hts (.static yX2_isOrder) (by decide +kernel), trivial⟩ (preS_p hP hK hZ hS) rfl rfl hl.1 rfl (lv_room (Nat.le_of_ble_eq_true rfl)) dX0_alignedTo_1 ⟨Nat.le_of_ble_eq_true rfl, Nat.le_of_ble_eq_true rfl⟩) (fun r_1 hw => ?_)
  refine lv_if_eq (tgt := 15) hx hb dX0_alignedTo_4 (by decide) (fun c_2 => ?_) (fun c_2 => ?_)
  · have hw := hw.1 c_2
    refine lv_iload_n hx hb dX0_alignedTo_15 rfl (lv_at hl 0 rfl) ?_
    exact hret _ _ _ dX0_alignedTo_16 hw
  · have hw := hw.2 c_2
    refine lv_iload_n hx hb dX0_alignedTo_7 rfl (lv_at hl 0 rfl) ?_
    refine lv_iload_n hx hb dX0_alignedTo_8 rfl (lv_at hl 1 rfl) ?_
    refine lv_ishr hx hb dX0_alignedTo_9 ?_
    refine lv_iload_n hx hb dX0_alignedTo_10 rfl (lv_at hl 1 rfl) ?_
    refine lv_ishl hx hb dX0_alignedTo_11 ?_
    refine lv_goto (tgt := 16) hx hb dX0_alignedTo_12 (by decide) ?_
    exact hret _ _ _ dX0_alignedTo_16 hw
-- X0_isFreeRun
abbrev rmX0_isFreeRun : Room := { frames := 1, cells := 0, slots := 0, locals := 21 }
set_option maxHeartbeats 4000000 in
set_option maxRecDepth 100000 in
theorem c_X0_isFreeRun (l : Launch) (D : va_G) (g : Nat → Nat) (k : xC) (kd : Nat → Int32) (fm : Nat → Int32) (tk : Nat → Int32) (mr : Nat → Int32) (x1 : Int32) (x2 : Int32) (post : Int32 → Prop) (hw : wX0_isFreeRun post kd x1 x2) : CPi l yX0_isFreeRun wsX0_isFreeRun rmX0_isFreeRun D k [.ref (g 7), .int x1, .int x2] (xP g k kd fm tk mr) post := by
  refine met_pz (cc := cX0_isFreeRun) (nL := 5) (by decide) rfl (Nat.le_of_ble_eq_true rfl) ?_
  intro p e s m args below meth c Q ls hC hP hK hZ hS hl hret
  obtain ⟨hx, hb, hml, hown, hts⟩ := id hC
  have hC : CallFix p m c cX0_isFreeRun 5 s args wsX0_isFreeRun RX0 := hC
  have hown : s.vm.findClass RX0 = some m.cls := hown
  have hl : lv_has ls 5 [(0, .ref (g 7)), (1, .int x1), (2, .int x2)] := hl
  have hinX0 : ∀ w ∈ wsX00, w ∈ wsX0_isFreeRun := fun _ h => List.mem_cons_of_mem _ (List.mem_append_right _ h)
  have B31 : ∀ (fu : Nat), ∀ (x1 : Int32), ∀ (x3 : Int32), ∀ (x4 : Int32), ∀ (ls : Array Slot), lv_has ls 5 [(0, .ref (g 7)), (1, .int x1), (3, .int x3), (4, .int x4)] → wX0_isFreeRun_31 post kd fu x1 x3 x4 → W p l e rmX0_isFreeRun s m args below meth c s.heap [] 0 0 Q (F0 m 31 ls []) := by
    intro  fu
    induction fu with
    | zero =>
      intro x1 x3 x4 ls hl hw
      exact absurd hw (by unfold wX0_isFreeRun_31; exact fun q => q)
    | succ n ih =>
      intro x1 x3 x4 ls hl hw
      unfold wX0_isFreeRun_31 at hw
      refine lv_iload hx hb dX0_isFreeRun_31 (lv_at hl 3 rfl) ?_
      refine lv_iload_n hx hb dX0_isFreeRun_33 rfl (lv_at hl 2 rfl) ?_
      refine lv_icmp_ge (tgt := 56) hx hb dX0_isFreeRun_34 (by decide) (fun c_6 => ?_) (fun c_6 => ?_)
      · have hw := hw.1 c_6
        refine lv_iconst (v := 1) hx hb dX0_isFreeRun_56 (by decide) ?_
        exact hret _ _ _ dX0_isFreeRun_57 nb_1 hw
      · have hw := hw.2 c_6
        refine lv_aload_n hx hb dX0_isFreeRun_37 rfl (lv_at hl 0 rfl) ?_
        refine lv_iload_n hx hb dX0_isFreeRun_38 rfl (lv_at hl 1 rfl) ?_
        refine lv_iload hx hb dX0_isFreeRun_39 (lv_at hl 3 rfl) ?_
        refine lv_iadd hx hb dX0_isFreeRun_41 ?_
        refine pcall (va_runV (As := [.int (x1 + x4)]) (rest := []) hC (c_X0_kindOf l D g k kd fm tk mr (x1 + x4) _ hw s.heap) (cwV 1 hts gX0_isFreeRun_X0_kindOf rfl rfl rfl (by decide +kernel) ⟨Nat.le_of_ble_eq_true rfl, Nat.le_of_ble_eq_true rfl⟩) (preV_p (va_recv hK hP (ci := 0) (q0 := 0) rfl rfl) hP hK hZ hS) rfl rfl hl.1 rfl (lv_room (Nat.le_of_ble_eq_true rfl)) dX0_isFreeRun_42 ⟨Nat.le_of_ble_eq_true rfl, Nat.le_of_ble_eq_true rfl⟩) (fun r_7 hw => ?_)
        refine lv_if_eq (tgt := 50) hx hb dX0_isFreeRun_45 (by decide) (fun c_8 => ?_) (fun c_8 => ?_)
        · have hw := hw.1 c_8
          obtain ⟨x4_9, ex4_9⟩ : ∃ y : Int32, y = x4 + 1 := ⟨_, rfl⟩
          have hw := hw x4_9 ex4_9
          refine lv_iinc (v := x4_9) (lv' := [(4, .int x4_9), (0, .ref (g 7)), (1, .int x1), (3, .int x3)]) hx hb dX0_isFreeRun_50 hl (k := 3) rfl (by rw [ex4_9]; rfl) (by decide) rfl (fun ls hl => ?_)
          refine lv_goto (tgt := 31) hx hb dX0_isFreeRun_53 (by decide) ?_
          exact ih x1 x3 x4_9 ls (lv_sub hl [1, 2, 3, 0] rfl) hw
        · have hw := hw.2 c_8
          refine lv_iconst (v := 0) hx hb dX0_isFreeRun_48 (by decide) ?_
          exact hret _ _ _ dX0_isFreeRun_49 nb_0 hw
  unfold wX0_isFreeRun at hw
  refine lv_iload_n hx hb dX0_isFreeRun_0 rfl (lv_at hl 2 rfl) ?_
  refine pcall (va_runSN (As := [.int x2]) (rest := []) hC (c_X2_isOrder l D k x2 _ hw s.heap) ⟨va_cnB 1 hts gX0_isFreeRun_X2_isOrder_n110 rfl rfl rfl (hZ.2 (RX0, 110, yX2_isOrder, "SlabHeap") (List.mem_of_getElem? (i := 4) rfl)) (hts (.initialized RX2) (by decide +kernel)) (by decide +kernel) ⟨Nat.le_of_ble_eq_true rfl, Nat.le_of_ble_eq_true rfl⟩, hts (.static yX2_isOrder) (by decide +kernel), trivial⟩ (preS_p (hP.sub [] rfl) hK hZ hS) rfl rfl hl.1 rfl (lv_room (Nat.le_of_ble_eq_true rfl)) dX0_isFreeRun_1 ⟨Nat.le_of_ble_eq_true rfl, Nat.le_of_ble_eq_true rfl⟩) (fun r_1 hw => ?_)
  refine lv_if_eq (tgt := 22) hx hb dX0_isFreeRun_4 (by decide) (fun c_2 => ?_) (fun c_2 => ?_)
  · have hw := hw.1 c_2
    refine lv_iconst (v := 0) hx hb dX0_isFreeRun_22 (by decide) ?_
    exact hret _ _ _ dX0_isFreeRun_23 nb_0 hw
  · have hw := hw.2 c_2
    refine lv_iload_n hx hb dX0_isFreeRun_7 rfl (lv_at hl 1 rfl) ?_
    refine lv_if_lt (tgt := 22) hx hb dX0_isFreeRun_8 (by decide) (fun c_3 => ?_) (fun c_3 => ?_)
    · have hw := hw.1 c_3
      refine lv_iconst (v := 0) hx hb dX0_isFreeRun_22 (by decide) ?_
      exact hret _ _ _ dX0_isFreeRun_23 nb_0 hw
    · have hw := hw.2 c_3
      refine lv_iload_n hx hb dX0_isFreeRun_11 rfl (lv_at hl 1 rfl) ?_
      refine lv_iconst (v := 1) hx hb dX0_isFreeRun_12 (by decide) ?_
      refine lv_iload_n hx hb dX0_isFreeRun_13 rfl (lv_at hl 2 rfl) ?_
      refine lv_ishl hx hb dX0_isFreeRun_14 ?_
      refine lv_iadd hx hb dX0_isFreeRun_15 ?_
      refine lv_sipush (v := 256) hx hb dX0_isFreeRun_16 (by decide) ?_
      refine lv_icmp_le (tgt := 24) hx hb dX0_isFreeRun_19 (by decide) (fun c_4 => ?_) (fun c_4 => ?_)
      · have hw := hw.1 c_4
        refine lv_iconst (v := 1) hx hb dX0_isFreeRun_24 (by decide) ?_
        refine lv_iload_n hx hb dX0_isFreeRun_25 rfl (lv_at hl 2 rfl) ?_
        refine lv_ishl hx hb dX0_isFreeRun_26 ?_
        refine lv_topi (fun x3_5 ex3_5 => ?_)
        have hw := hw x3_5 ex3_5
        refine lv_istore_n (lv' := [(3, .int x3_5), (0, .ref (g 7)), (1, .int x1), (2, .int x2)]) hx hb dX0_isFreeRun_27 rfl hl (by decide) rfl (fun ls hl => ?_)
        refine lv_iconst (v := 0) hx hb dX0_isFreeRun_28 (by decide) ?_
        refine lv_istore (lv' := [(4, .int 0), (3, .int x3_5), (0, .ref (g 7)), (1, .int x1), (2, .int x2)]) hx hb dX0_isFreeRun_29 hl (by decide) rfl (fun ls hl => ?_)
        obtain ⟨fu_10, hw⟩ := hw
        exact B31  fu_10 x1 x3_5 0 ls (lv_sub hl [2, 3, 1, 0] rfl) hw
      · have hw := hw.2 c_4
        refine lv_iconst (v := 0) hx hb dX0_isFreeRun_22 (by decide) ?_
        exact hret _ _ _ dX0_isFreeRun_23 nb_0 hw
-- X0_isFreeExtent
abbrev rmX0_isFreeExtent : Room := { frames := 2, cells := 0, slots := 0, locals := 45 }
set_option maxHeartbeats 4000000 in
set_option maxRecDepth 100000 in
theorem c_X0_isFreeExtent (l : Launch) (D : va_G) (g : Nat → Nat) (k : xC) (kd : Nat → Int32) (fm : Nat → Int32) (tk : Nat → Int32) (mr : Nat → Int32) (x1 : Int32) (x2 : Int32) (post : Int32 → Prop) (hw : wX0_isFreeExtent post kd x1 x2) : CPi l yX0_isFreeExtent wsX0_isFreeExtent rmX0_isFreeExtent D k [.ref (g 7), .int x1, .int x2] (xP g k kd fm tk mr) post := by
  refine met_pz (cc := cX0_isFreeExtent) (nL := 3) (by decide) rfl (Nat.le_of_ble_eq_true rfl) ?_
  intro p e s m args below meth c Q ls hC hP hK hZ hS hl hret
  obtain ⟨hx, hb, hml, hown, hts⟩ := id hC
  have hC : CallFix p m c cX0_isFreeExtent 3 s args wsX0_isFreeExtent RX0 := hC
  have hown : s.vm.findClass RX0 = some m.cls := hown
  have hl : lv_has ls 3 [(0, .ref (g 7)), (1, .int x1), (2, .int x2)] := hl
  have hinX0 : ∀ w ∈ wsX00, w ∈ wsX0_isFreeExtent := fun _ h => List.mem_cons_of_mem _ (List.mem_append_right _ h)
  unfold wX0_isFreeExtent at hw
  refine lv_aload_n hx hb dX0_isFreeExtent_0 rfl (lv_at hl 0 rfl) ?_
  refine lv_iload_n hx hb dX0_isFreeExtent_1 rfl (lv_at hl 1 rfl) ?_
  refine lv_iload_n hx hb dX0_isFreeExtent_2 rfl (lv_at hl 2 rfl) ?_
  refine pcall (va_runV (As := [.int x1, .int x2]) (rest := []) hC (c_X0_isFreeRun l D g k kd fm tk mr x1 x2 _ hw s.heap) (cwV 2 hts gX0_isFreeExtent_X0_isFreeRun rfl rfl rfl (by decide +kernel) ⟨Nat.le_of_ble_eq_true rfl, Nat.le_of_ble_eq_true rfl⟩) (preV_p (va_recv hK hP (ci := 0) (q0 := 0) rfl rfl) hP hK hZ hS) rfl rfl hl.1 rfl (lv_room (Nat.le_of_ble_eq_true rfl)) dX0_isFreeExtent_3 ⟨Nat.le_of_ble_eq_true rfl, Nat.le_of_ble_eq_true rfl⟩) (fun r_1 hw => ?_)
  refine lv_if_eq (tgt := 30) hx hb dX0_isFreeExtent_6 (by decide) (fun c_2 => ?_) (fun c_2 => ?_)
  · have hw := hw.1 c_2
    refine lv_iconst (v := 0) hx hb dX0_isFreeExtent_30 (by decide) ?_
    exact hret _ _ _ dX0_isFreeExtent_31 nb_0 hw
  · have hw := hw.2 c_2
    refine lv_aload_n hx hb dX0_isFreeExtent_9 rfl (lv_at hl 0 rfl) ?_
    refine lv_iload_n hx hb dX0_isFreeExtent_10 rfl (lv_at hl 1 rfl) ?_
    refine lv_iload_n hx hb dX0_isFreeExtent_11 rfl (lv_at hl 2 rfl) ?_
    refine lv_iconst (v := 1) hx hb dX0_isFreeExtent_12 (by decide) ?_
    refine lv_iadd hx hb dX0_isFreeExtent_13 ?_
    refine pcall (va_runS (As := [.int x1, .int (x2 + 1)]) (rest := [.ref (g 7)]) hC (c_X0_alignedTo l D k x1 (x2 + 1) _ hw s.heap) (va_cwS 2 hts gX0_isFreeExtent_X0_alignedTo rfl rfl rfl (by decide +kernel) ⟨Nat.le_of_ble_eq_true rfl, Nat.le_of_ble_eq_true rfl⟩) (preS_p (hP.sub [] rfl) hK hZ hS) rfl rfl hl.1 rfl (lv_room (Nat.le_of_ble_eq_true rfl)) dX0_isFreeExtent_14 ⟨Nat.le_of_ble_eq_true rfl, Nat.le_of_ble_eq_true rfl⟩) (fun r_3 hw => ?_)
    refine lv_iload_n hx hb dX0_isFreeExtent_17 rfl (lv_at hl 2 rfl) ?_
    refine lv_iconst (v := 1) hx hb dX0_isFreeExtent_18 (by decide) ?_
    refine lv_iadd hx hb dX0_isFreeExtent_19 ?_
    refine pcall (va_runV (As := [.int r_3, .int (x2 + 1)]) (rest := []) hC (c_X0_isFreeRun l D g k kd fm tk mr r_3 (x2 + 1) _ hw s.heap) (cwV 2 hts gX0_isFreeExtent_X0_isFreeRun rfl rfl rfl (by decide +kernel) ⟨Nat.le_of_ble_eq_true rfl, Nat.le_of_ble_eq_true rfl⟩) (preV_p (va_recv hK hP (ci := 0) (q0 := 0) rfl rfl) hP hK hZ hS) rfl rfl hl.1 rfl (lv_room (Nat.le_of_ble_eq_true rfl)) dX0_isFreeExtent_20 ⟨Nat.le_of_ble_eq_true rfl, Nat.le_of_ble_eq_true rfl⟩) (fun r_4 hw => ?_)
    refine lv_if_ne (tgt := 30) hx hb dX0_isFreeExtent_23 (by decide) (fun c_5 => ?_) (fun c_5 => ?_)
    · have hw := hw.1 c_5
      refine lv_iconst (v := 0) hx hb dX0_isFreeExtent_30 (by decide) ?_
      exact hret _ _ _ dX0_isFreeExtent_31 nb_0 hw
    · have hw := hw.2 c_5
      refine lv_iconst (v := 1) hx hb dX0_isFreeExtent_26 (by decide) ?_
      refine lv_goto (tgt := 31) hx hb dX0_isFreeExtent_27 (by decide) ?_
      exact hret _ _ _ dX0_isFreeExtent_31 nb_1 hw
-- X0_freeOrderAt
abbrev rmX0_freeOrderAt : Room := { frames := 3, cells := 0, slots := 0, locals := 67 }
set_option maxHeartbeats 4000000 in
set_option maxRecDepth 100000 in
theorem c_X0_freeOrderAt (l : Launch) (D : va_G) (g : Nat → Nat) (k : xC) (kd : Nat → Int32) (fm : Nat → Int32) (tk : Nat → Int32) (mr : Nat → Int32) (x1 : Int32) (post : Int32 → Prop) (hw : wX0_freeOrderAt post kd x1) : CPi l yX0_freeOrderAt wsX0_freeOrderAt rmX0_freeOrderAt D k [.ref (g 7), .int x1] (xP g k kd fm tk mr) post := by
  refine met_pi (cc := cX0_freeOrderAt) (nL := 3) (by decide) rfl (Nat.le_of_ble_eq_true rfl) ?_
  intro p e s m args below meth c Q ls hC hP hK hZ hS hl hret
  obtain ⟨hx, hb, hml, hown, hts⟩ := id hC
  have hC : CallFix p m c cX0_freeOrderAt 3 s args wsX0_freeOrderAt RX0 := hC
  have hown : s.vm.findClass RX0 = some m.cls := hown
  have hl : lv_has ls 3 [(0, .ref (g 7)), (1, .int x1)] := hl
  have hinX0 : ∀ w ∈ wsX00, w ∈ wsX0_freeOrderAt := fun _ h => List.mem_cons_of_mem _ (List.mem_append_right _ h)
  have B2 : ∀ (fu : Nat), ∀ (x1 : Int32), ∀ (x2 : Int32), ∀ (ls : Array Slot), lv_has ls 3 [(0, .ref (g 7)), (1, .int x1), (2, .int x2)] → wX0_freeOrderAt_2 post kd fu x1 x2 → W p l e rmX0_freeOrderAt s m args below meth c s.heap [] 0 0 Q (F0 m 2 ls []) := by
    intro  fu
    induction fu with
    | zero =>
      intro x1 x2 ls hl hw
      exact absurd hw (by unfold wX0_freeOrderAt_2; exact fun q => q)
    | succ n ih =>
      intro x1 x2 ls hl hw
      unfold wX0_freeOrderAt_2 at hw
      refine lv_iload_n hx hb dX0_freeOrderAt_2 rfl (lv_at hl 2 rfl) ?_
      refine lv_bipush (v := 8) hx hb dX0_freeOrderAt_3 (by decide) ?_
      refine lv_icmp_gt (tgt := 29) hx hb dX0_freeOrderAt_5 (by decide) (fun c_1 => ?_) (fun c_1 => ?_)
      · have hw := hw.1 c_1
        refine lv_iconst (v := (-1)) hx hb dX0_freeOrderAt_29 (by decide) ?_
        exact hret _ _ _ dX0_freeOrderAt_30 hw
      · have hw := hw.2 c_1
        refine lv_aload_n hx hb dX0_freeOrderAt_8 rfl (lv_at hl 0 rfl) ?_
        refine lv_iload_n hx hb dX0_freeOrderAt_9 rfl (lv_at hl 1 rfl) ?_
        refine lv_iload_n hx hb dX0_freeOrderAt_10 rfl (lv_at hl 2 rfl) ?_
        refine pcall (va_runS (As := [.int x1, .int x2]) (rest := [.ref (g 7)]) hC (c_X0_alignedTo l D k x1 x2 _ hw s.heap) (va_cwS 2 hts gX0_freeOrderAt_X0_alignedTo rfl rfl rfl (by decide +kernel) ⟨Nat.le_of_ble_eq_true rfl, Nat.le_of_ble_eq_true rfl⟩) (preS_p (hP.sub [] rfl) hK hZ hS) rfl rfl hl.1 rfl (lv_room (Nat.le_of_ble_eq_true rfl)) dX0_freeOrderAt_11 ⟨Nat.le_of_ble_eq_true rfl, Nat.le_of_ble_eq_true rfl⟩) (fun r_2 hw => ?_)
        refine lv_iload_n hx hb dX0_freeOrderAt_14 rfl (lv_at hl 2 rfl) ?_
        refine pcall (va_runV (As := [.int r_2, .int x2]) (rest := []) hC (c_X0_isFreeExtent l D g k kd fm tk mr r_2 x2 _ hw s.heap) (cwV 2 hts gX0_freeOrderAt_X0_isFreeExtent rfl rfl rfl (by decide +kernel) ⟨Nat.le_of_ble_eq_true rfl, Nat.le_of_ble_eq_true rfl⟩) (preV_p (va_recv hK hP (ci := 0) (q0 := 0) rfl rfl) hP hK hZ hS) rfl rfl hl.1 rfl (lv_room (Nat.le_of_ble_eq_true rfl)) dX0_freeOrderAt_15 ⟨Nat.le_of_ble_eq_true rfl, Nat.le_of_ble_eq_true rfl⟩) (fun r_3 hw => ?_)
        refine lv_if_eq (tgt := 23) hx hb dX0_freeOrderAt_18 (by decide) (fun c_4 => ?_) (fun c_4 => ?_)
        · have hw := hw.1 c_4
          obtain ⟨x2_5, ex2_5⟩ : ∃ y : Int32, y = x2 + 1 := ⟨_, rfl⟩
          have hw := hw x2_5 ex2_5
          refine lv_iinc (v := x2_5) (lv' := [(2, .int x2_5), (0, .ref (g 7)), (1, .int x1)]) hx hb dX0_freeOrderAt_23 hl (k := 2) rfl (by rw [ex2_5]; rfl) (by decide) rfl (fun ls hl => ?_)
          refine lv_goto (tgt := 2) hx hb dX0_freeOrderAt_26 (by decide) ?_
          exact ih x1 x2_5 ls (lv_sub hl [1, 2, 0] rfl) hw
        · have hw := hw.2 c_4
          refine lv_iload_n hx hb dX0_freeOrderAt_21 rfl (lv_at hl 2 rfl) ?_
          exact hret _ _ _ dX0_freeOrderAt_22 hw
  unfold wX0_freeOrderAt at hw
  refine lv_iconst (v := 0) hx hb dX0_freeOrderAt_0 (by decide) ?_
  refine lv_istore_n (lv' := [(2, .int 0), (0, .ref (g 7)), (1, .int x1)]) hx hb dX0_freeOrderAt_1 rfl hl (by decide) rfl (fun ls hl => ?_)
  obtain ⟨fu_6, hw⟩ := hw
  exact B2  fu_6 x1 0 ls (lv_sub hl [1, 2, 0] rfl) hw
-- X0_formOf
abbrev rmX0_formOf : Room := { frames := 4, cells := 0, slots := 0, locals := 89 }
set_option maxHeartbeats 4000000 in
set_option maxRecDepth 100000 in
theorem c_X0_formOf (l : Launch) (D : va_G) (g : Nat → Nat) (k : xC) (kd : Nat → Int32) (fm : Nat → Int32) (tk : Nat → Int32) (mr : Nat → Int32) (x1 : Int32) (post : Int32 → Prop) (hw : wX0_formOf post kd fm x1) : CPi l yX0_formOf wsX0_formOf rmX0_formOf D k [.ref (g 7), .int x1] (xP g k kd fm tk mr) post := by
  refine met_pi (cc := cX0_formOf) (nL := 2) (by decide) rfl (Nat.le_of_ble_eq_true rfl) ?_
  intro p e s m args below meth c Q ls hC hP hK hZ hS hl hret
  obtain ⟨hx, hb, hml, hown, hts⟩ := id hC
  have hC : CallFix p m c cX0_formOf 2 s args wsX0_formOf RX0 := hC
  have hown : s.vm.findClass RX0 = some m.cls := hown
  have hl : lv_has ls 2 [(0, .ref (g 7)), (1, .int x1)] := hl
  have hinX0 : ∀ w ∈ wsX00, w ∈ wsX0_formOf := fun _ h => List.mem_cons_of_mem _ (List.mem_append_right _ h)
  unfold wX0_formOf at hw
  refine lv_iload_n hx hb dX0_formOf_0 rfl (lv_at hl 1 rfl) ?_
  refine pcall (va_runSN (As := [.int x1]) (rest := []) hC (c_X2_isPage l D k x1 _ hw s.heap) ⟨va_cnB 1 hts gX0_formOf_X2_isPage_n30 rfl rfl rfl (hZ.2 (RX0, 30, yX2_isPage, "SlabHeap") (List.mem_of_getElem? (i := 2) rfl)) (hts (.initialized RX2) (by decide +kernel)) (by decide +kernel) ⟨Nat.le_of_ble_eq_true rfl, Nat.le_of_ble_eq_true rfl⟩, hts (.static yX2_isPage) (by decide +kernel), trivial⟩ (preS_p (hP.sub [] rfl) hK hZ hS) rfl rfl hl.1 rfl (lv_room (Nat.le_of_ble_eq_true rfl)) dX0_formOf_1 ⟨Nat.le_of_ble_eq_true rfl, Nat.le_of_ble_eq_true rfl⟩) (fun r_1 hw => ?_)
  refine lv_if_eq (tgt := 17) hx hb dX0_formOf_4 (by decide) (fun c_2 => ?_) (fun c_2 => ?_)
  · have hw := hw.1 c_2
    refine lv_iconst (v := (-1)) hx hb dX0_formOf_17 (by decide) ?_
    exact hret _ _ _ dX0_formOf_18 hw
  · have hw := hw.2 c_2
    refine lv_aload_n hx hb dX0_formOf_7 rfl (lv_at hl 0 rfl) ?_
    refine va_get (D := D) (ci := 0) (v := .ref (g 8)) (C := RX0) (T := TX0) (N := 4) hx hb hts hinX0 hown hK hP 0 rfl rfl 0 (by decide) (hts (.fieldLink RX0 9 "SlabHeap$Pages" "kinds" "[I") (by decide +kernel)) (fun _ h9 => h9) rfl dX0_formOf_8 ?_
    refine lv_iload_n hx hb dX0_formOf_11 rfl (lv_at hl 1 rfl) ?_
    obtain ⟨h_3, hw⟩ := hw
    refine va_iald hx hb hK hP 1 0 rfl rfl h_3 dX0_formOf_12 ?_
    refine lv_iconst (v := 4) hx hb dX0_formOf_13 (by decide) ?_
    refine lv_icmp_ne (tgt := 19) hx hb dX0_formOf_14 (by decide) (fun c_4 => ?_) (fun c_4 => ?_)
    · have hw := hw.1 c_4
      refine lv_aload_n hx hb dX0_formOf_19 rfl (lv_at hl 0 rfl) ?_
      refine va_get (D := D) (ci := 0) (v := .ref (g 8)) (C := RX0) (T := TX0) (N := 4) hx hb hts hinX0 hown hK hP 0 rfl rfl 0 (by decide) (hts (.fieldLink RX0 9 "SlabHeap$Pages" "kinds" "[I") (by decide +kernel)) (fun _ h9 => h9) rfl dX0_formOf_20 ?_
      refine lv_iload_n hx hb dX0_formOf_23 rfl (lv_at hl 1 rfl) ?_
      obtain ⟨h_5, hw⟩ := hw
      refine va_iald hx hb hK hP 1 0 rfl rfl h_5 dX0_formOf_24 ?_
      refine lv_if_ne (tgt := 36) hx hb dX0_formOf_25 (by decide) (fun c_6 => ?_) (fun c_6 => ?_)
      · have hw := hw.1 c_6
        refine lv_aload_n hx hb dX0_formOf_36 rfl (lv_at hl 0 rfl) ?_
        refine va_get (D := D) (ci := 0) (v := .ref (g 9)) (C := RX0) (T := TX0) (N := 4) hx hb hts hinX0 hown hK hP 0 rfl rfl 1 (by decide) (hts (.fieldLink RX0 15 "SlabHeap$Pages" "forms" "[I") (by decide +kernel)) (fun _ h9 => h9) rfl dX0_formOf_37 ?_
        refine lv_iload_n hx hb dX0_formOf_40 rfl (lv_at hl 1 rfl) ?_
        obtain ⟨h_7, hw⟩ := hw
        refine va_iald hx hb hK hP 2 0 rfl rfl h_7 dX0_formOf_41 ?_
        exact hret _ _ _ dX0_formOf_42 hw
      · have hw := hw.2 c_6
        refine lv_aload_n hx hb dX0_formOf_28 rfl (lv_at hl 0 rfl) ?_
        refine lv_iload_n hx hb dX0_formOf_29 rfl (lv_at hl 1 rfl) ?_
        refine pcall (va_runV (As := [.int x1]) (rest := []) hC (c_X0_freeOrderAt l D g k kd fm tk mr x1 _ hw s.heap) (cwV 1 hts gX0_formOf_X0_freeOrderAt rfl rfl rfl (by decide +kernel) ⟨Nat.le_of_ble_eq_true rfl, Nat.le_of_ble_eq_true rfl⟩) (preV_p (va_recv hK hP (ci := 0) (q0 := 0) rfl rfl) hP hK hZ hS) rfl rfl hl.1 rfl (lv_room (Nat.le_of_ble_eq_true rfl)) dX0_formOf_30 ⟨Nat.le_of_ble_eq_true rfl, Nat.le_of_ble_eq_true rfl⟩) (fun r_8 hw => ?_)
        refine lv_goto (tgt := 42) hx hb dX0_formOf_33 (by decide) ?_
        exact hret _ _ _ dX0_formOf_42 hw
    · have hw := hw.2 c_4
      refine lv_iconst (v := (-1)) hx hb dX0_formOf_17 (by decide) ?_
      exact hret _ _ _ dX0_formOf_18 hw
-- X0_firstOf
abbrev rmX0_firstOf : Room := { frames := 5, cells := 0, slots := 0, locals := 110 }
set_option maxHeartbeats 4000000 in
set_option maxRecDepth 100000 in
theorem c_X0_firstOf (l : Launch) (D : va_G) (g : Nat → Nat) (k : xC) (kd : Nat → Int32) (fm : Nat → Int32) (tk : Nat → Int32) (mr : Nat → Int32) (x1 : Int32) (post : Int32 → Prop) (hw : wX0_firstOf post kd fm x1) : CPi l yX0_firstOf wsX0_firstOf rmX0_firstOf D k [.ref (g 7), .int x1] (xP g k kd fm tk mr) post := by
  refine met_pi (cc := cX0_firstOf) (nL := 4) (by decide) rfl (Nat.le_of_ble_eq_true rfl) ?_
  intro p e s m args below meth c Q ls hC hP hK hZ hS hl hret
  obtain ⟨hx, hb, hml, hown, hts⟩ := id hC
  have hC : CallFix p m c cX0_firstOf 4 s args wsX0_firstOf RX0 := hC
  have hown : s.vm.findClass RX0 = some m.cls := hown
  have hl : lv_has ls 4 [(0, .ref (g 7)), (1, .int x1)] := hl
  have hinX0 : ∀ w ∈ wsX00, w ∈ wsX0_firstOf := fun _ h => List.mem_cons_of_mem _ (List.mem_append_right _ h)
  have B21 : ∀ (x1 : Int32), ∀ (z0 : Int32), ∀ (ls : Array Slot), lv_has ls 4 [(0, .ref (g 7)), (1, .int x1)] → wX0_firstOf_21 post kd fm x1 z0 → W p l e rmX0_firstOf s m args below meth c s.heap [] 0 0 Q (F0 m 21 ls [.int z0]) := by
    intro  x1 z0 ls hl hw
    unfold wX0_firstOf_21 at hw
    refine lv_istore_n (lv' := [(3, .int z0), (0, .ref (g 7)), (1, .int x1)]) hx hb dX0_firstOf_21 rfl hl (by decide) rfl (fun ls hl => ?_)
    refine lv_iload_n hx hb dX0_firstOf_22 rfl (lv_at hl 0 rfl) ?_
    refine lv_if_eq (tgt := 30) hx hb dX0_firstOf_23 (by decide) (fun c_3 => ?_) (fun c_3 => ?_)
    · have hw := hw.1 c_3
      refine lv_iload_n hx hb dX0_firstOf_30 rfl (lv_at hl 2 rfl) ?_
      refine lv_aload_n hx hb dX0_firstOf_31 rfl (lv_at hl 1 rfl) ?_
      refine lv_iload_n hx hb dX0_firstOf_32 rfl (lv_at hl 2 rfl) ?_
      refine pcall (va_runV (As := [.int x1]) (rest := [.int x1]) hC (c_X0_formOf l D g k kd fm tk mr x1 _ hw s.heap) (cwV 1 hts gX0_firstOf_X0_formOf rfl rfl rfl (by decide +kernel) ⟨Nat.le_of_ble_eq_true rfl, Nat.le_of_ble_eq_true rfl⟩) (preV_p (va_recv hK hP (ci := 0) (q0 := 0) rfl rfl) hP hK hZ hS) rfl rfl hl.1 rfl (lv_room (Nat.le_of_ble_eq_true rfl)) dX0_firstOf_33 ⟨Nat.le_of_ble_eq_true rfl, Nat.le_of_ble_eq_true rfl⟩) (fun r_4 hw => ?_)
      refine pcall (va_runS (As := [.int x1, .int r_4]) (rest := []) hC (c_X0_alignedTo l D k x1 r_4 _ hw s.heap) (va_cwS 2 hts gX0_firstOf_X0_alignedTo rfl rfl rfl (by decide +kernel) ⟨Nat.le_of_ble_eq_true rfl, Nat.le_of_ble_eq_true rfl⟩) (preS_p (hP.sub [] rfl) hK hZ hS) rfl rfl hl.1 rfl (lv_room (Nat.le_of_ble_eq_true rfl)) dX0_firstOf_36 ⟨Nat.le_of_ble_eq_true rfl, Nat.le_of_ble_eq_true rfl⟩) (fun r_5 hw => ?_)
      exact hret _ _ _ dX0_firstOf_39 hw
    · have hw := hw.2 c_3
      refine lv_iload_n hx hb dX0_firstOf_26 rfl (lv_at hl 2 rfl) ?_
      refine lv_goto (tgt := 39) hx hb dX0_firstOf_27 (by decide) ?_
      exact hret _ _ _ dX0_firstOf_39 hw
  have B16 : ∀ (x1 : Int32), ∀ (ls : Array Slot), lv_has ls 4 [(0, .ref (g 7)), (1, .int x1)] → wX0_firstOf_16 post kd fm x1 → W p l e rmX0_firstOf s m args below meth c s.heap [] 0 0 Q (F0 m 16 ls []) := by
    intro  x1 ls hl hw
    unfold wX0_firstOf_16 at hw
    refine lv_iconst (v := 1) hx hb dX0_firstOf_16 (by decide) ?_
    refine lv_goto (tgt := 21) hx hb dX0_firstOf_17 (by decide) ?_
    exact B21  x1 1 ls (lv_sub hl [0, 1] rfl) hw
  unfold wX0_firstOf at hw
  refine lv_aload_n hx hb dX0_firstOf_0 rfl (lv_at hl 0 rfl) ?_
  refine lv_iload_n hx hb dX0_firstOf_1 rfl (lv_at hl 1 rfl) ?_
  refine pcall (va_runV (As := [.int x1]) (rest := []) hC (c_X0_kindOf l D g k kd fm tk mr x1 _ hw s.heap) (cwV 1 hts gX0_firstOf_X0_kindOf rfl rfl rfl (by decide +kernel) ⟨Nat.le_of_ble_eq_true rfl, Nat.le_of_ble_eq_true rfl⟩) (preV_p (va_recv hK hP (ci := 0) (q0 := 0) rfl rfl) hP hK hZ hS) rfl rfl hl.1 rfl (lv_room (Nat.le_of_ble_eq_true rfl)) dX0_firstOf_2 ⟨Nat.le_of_ble_eq_true rfl, Nat.le_of_ble_eq_true rfl⟩) (fun r_1 hw => ?_)
  refine lv_istore_n (lv' := [(2, .int r_1), (0, .ref (g 7)), (1, .int x1)]) hx hb dX0_firstOf_5 rfl hl (by decide) rfl (fun ls hl => ?_)
  refine lv_iload_n hx hb dX0_firstOf_6 rfl (lv_at hl 0 rfl) ?_
  refine lv_iconst (v := 1) hx hb dX0_firstOf_7 (by decide) ?_
  refine lv_icmp_eq (tgt := 16) hx hb dX0_firstOf_8 (by decide) (fun c_2 => ?_) (fun c_2 => ?_)
  · have hw := hw.1 c_2
    exact B16  x1 ls (lv_sub hl [1, 2] rfl) hw
  · have hw := hw.2 c_2
    refine lv_iload_n hx hb dX0_firstOf_11 rfl (lv_at hl 0 rfl) ?_
    refine lv_iconst (v := 4) hx hb dX0_firstOf_12 (by decide) ?_
    refine lv_icmp_ne (tgt := 20) hx hb dX0_firstOf_13 (by decide) (fun c_6 => ?_) (fun c_6 => ?_)
    · have hw := hw.1 c_6
      refine lv_iconst (v := 0) hx hb dX0_firstOf_20 (by decide) ?_
      exact B21  x1 0 ls (lv_sub hl [1, 2] rfl) hw
    · have hw := hw.2 c_6
      exact B16  x1 ls (lv_sub hl [1, 2] rfl) hw
-- X0_blocksOn
abbrev rmX0_blocksOn : Room := { frames := 1, cells := 0, slots := 0, locals := 20 }
set_option maxHeartbeats 4000000 in
set_option maxRecDepth 100000 in
theorem c_X0_blocksOn (l : Launch) (D : va_G) (g : Nat → Nat) (k : xC) (kd : Nat → Int32) (fm : Nat → Int32) (tk : Nat → Int32) (mr : Nat → Int32) (x1 : Int32) (post : Int32 → Prop) (hw : wX0_blocksOn post tk x1) : CPi l yX0_blocksOn wsX0_blocksOn rmX0_blocksOn D k [.ref (g 7), .int x1] (xP g k kd fm tk mr) post := by
  refine met_pi (cc := cX0_blocksOn) (nL := 2) (by decide) rfl (Nat.le_of_ble_eq_true rfl) ?_
  intro p e s m args below meth c Q ls hC hP hK hZ hS hl hret
  obtain ⟨hx, hb, hml, hown, hts⟩ := id hC
  have hC : CallFix p m c cX0_blocksOn 2 s args wsX0_blocksOn RX0 := hC
  have hown : s.vm.findClass RX0 = some m.cls := hown
  have hl : lv_has ls 2 [(0, .ref (g 7)), (1, .int x1)] := hl
  have hinX0 : ∀ w ∈ wsX00, w ∈ wsX0_blocksOn := fun _ h => List.mem_cons_of_mem _ (List.mem_append_right _ h)
  unfold wX0_blocksOn at hw
  refine lv_iload_n hx hb dX0_blocksOn_0 rfl (lv_at hl 1 rfl) ?_
  refine pcall (va_runSN (As := [.int x1]) (rest := []) hC (c_X2_isPage l D k x1 _ hw s.heap) ⟨va_cnB 1 hts gX0_blocksOn_X2_isPage_n30 rfl rfl rfl (hZ.2 (RX0, 30, yX2_isPage, "SlabHeap") (List.mem_of_getElem? (i := 2) rfl)) (hts (.initialized RX2) (by decide +kernel)) (by decide +kernel) ⟨Nat.le_of_ble_eq_true rfl, Nat.le_of_ble_eq_true rfl⟩, hts (.static yX2_isPage) (by decide +kernel), trivial⟩ (preS_p (hP.sub [] rfl) hK hZ hS) rfl rfl hl.1 rfl (lv_room (Nat.le_of_ble_eq_true rfl)) dX0_blocksOn_1 ⟨Nat.le_of_ble_eq_true rfl, Nat.le_of_ble_eq_true rfl⟩) (fun r_1 hw => ?_)
  refine lv_if_eq (tgt := 19) hx hb dX0_blocksOn_4 (by decide) (fun c_2 => ?_) (fun c_2 => ?_)
  · have hw := hw.1 c_2
    refine lv_iconst (v := 0) hx hb dX0_blocksOn_19 (by decide) ?_
    exact hret _ _ _ dX0_blocksOn_20 hw
  · have hw := hw.2 c_2
    refine lv_aload_n hx hb dX0_blocksOn_7 rfl (lv_at hl 0 rfl) ?_
    refine va_get (D := D) (ci := 0) (v := .ref (g 10)) (C := RX0) (T := TX0) (N := 4) hx hb hts hinX0 hown hK hP 0 rfl rfl 2 (by decide) (hts (.fieldLink RX0 18 "SlabHeap$Pages" "taken" "[I") (by decide +kernel)) (fun _ h9 => h9) rfl dX0_blocksOn_8 ?_
    refine lv_iload_n hx hb dX0_blocksOn_11 rfl (lv_at hl 1 rfl) ?_
    obtain ⟨h_3, hw⟩ := hw
    refine va_iald hx hb hK hP 3 0 rfl rfl h_3 dX0_blocksOn_12 ?_
    refine pcall (va_runS (As := [.int (tk x1.toNatClampNeg)]) (rest := []) hC (c_J6_bitCount_0f7a4 l D k (tk x1.toNatClampNeg) _ hw s.heap) (va_cwS 1 hts gX0_blocksOn_J6_bitCount_0f7a4 rfl rfl rfl (by decide +kernel) ⟨Nat.le_of_ble_eq_true rfl, Nat.le_of_ble_eq_true rfl⟩) (preS_p (hP.sub [] rfl) hK hZ hS) rfl rfl hl.1 rfl (lv_room (Nat.le_of_ble_eq_true rfl)) dX0_blocksOn_13 ⟨Nat.le_of_ble_eq_true rfl, Nat.le_of_ble_eq_true rfl⟩) (fun r_4 hw => ?_)
    refine lv_goto (tgt := 20) hx hb dX0_blocksOn_16 (by decide) ?_
    exact hret _ _ _ dX0_blocksOn_20 hw
-- X0_stepOf
abbrev rmX0_stepOf : Room := { frames := 0, cells := 0, slots := 0, locals := 0 }
set_option maxHeartbeats 4000000 in
set_option maxRecDepth 100000 in
theorem c_X0_stepOf (l : Launch) (D : va_G) (g : Nat → Nat) (k : xC) (kd : Nat → Int32) (fm : Nat → Int32) (tk : Nat → Int32) (mr : Nat → Int32) (x1 : Int32) (post : Int32 → Prop) (hw : wX0_stepOf post kd fm x1) : CPi l yX0_stepOf wsX0_stepOf rmX0_stepOf D k [.ref (g 7), .int x1] (xP g k kd fm tk mr) post := by
  refine met_pi (cc := cX0_stepOf) (nL := 2) (by decide) rfl (Nat.le_of_ble_eq_true rfl) ?_
  intro p e s m args below meth c Q ls hC hP hK hZ hS hl hret
  obtain ⟨hx, hb, hml, hown, hts⟩ := id hC
  have hC : CallFix p m c cX0_stepOf 2 s args wsX0_stepOf RX0 := hC
  have hown : s.vm.findClass RX0 = some m.cls := hown
  have hl : lv_has ls 2 [(0, .ref (g 7)), (1, .int x1)] := hl
  have hinX0 : ∀ w ∈ wsX00, w ∈ wsX0_stepOf := fun _ h => List.mem_cons_of_mem _ (List.mem_append_right _ h)
  unfold wX0_stepOf at hw
  refine lv_iload_n hx hb dX0_stepOf_0 rfl (lv_at hl 1 rfl) ?_
  refine lv_if_lt (tgt := 11) hx hb dX0_stepOf_1 (by decide) (fun c_1 => ?_) (fun c_1 => ?_)
  · have hw := hw.1 c_1
    refine lv_iconst (v := 0) hx hb dX0_stepOf_11 (by decide) ?_
    exact hret _ _ _ dX0_stepOf_12 hw
  · have hw := hw.2 c_1
    refine lv_iload_n hx hb dX0_stepOf_4 rfl (lv_at hl 1 rfl) ?_
    refine lv_sipush (v := 256) hx hb dX0_stepOf_5 (by decide) ?_
    refine lv_icmp_lt (tgt := 13) hx hb dX0_stepOf_8 (by decide) (fun c_2 => ?_) (fun c_2 => ?_)
    · have hw := hw.1 c_2
      refine lv_aload_n hx hb dX0_stepOf_13 rfl (lv_at hl 0 rfl) ?_
      refine va_get (D := D) (ci := 0) (v := .ref (g 8)) (C := RX0) (T := TX0) (N := 4) hx hb hts hinX0 hown hK hP 0 rfl rfl 0 (by decide) (hts (.fieldLink RX0 9 "SlabHeap$Pages" "kinds" "[I") (by decide +kernel)) (fun _ h9 => h9) rfl dX0_stepOf_14 ?_
      refine lv_iload_n hx hb dX0_stepOf_17 rfl (lv_at hl 1 rfl) ?_
      obtain ⟨h_3, hw⟩ := hw
      refine va_iald hx hb hK hP 1 0 rfl rfl h_3 dX0_stepOf_18 ?_
      refine lv_iconst (v := 1) hx hb dX0_stepOf_19 (by decide) ?_
      refine lv_icmp_ne (tgt := 32) hx hb dX0_stepOf_20 (by decide) (fun c_4 => ?_) (fun c_4 => ?_)
      · have hw := hw.1 c_4
        refine lv_aload_n hx hb dX0_stepOf_32 rfl (lv_at hl 0 rfl) ?_
        refine va_get (D := D) (ci := 0) (v := .ref (g 8)) (C := RX0) (T := TX0) (N := 4) hx hb hts hinX0 hown hK hP 0 rfl rfl 0 (by decide) (hts (.fieldLink RX0 9 "SlabHeap$Pages" "kinds" "[I") (by decide +kernel)) (fun _ h9 => h9) rfl dX0_stepOf_33 ?_
        refine lv_iload_n hx hb dX0_stepOf_36 rfl (lv_at hl 1 rfl) ?_
        obtain ⟨h_5, hw⟩ := hw
        refine va_iald hx hb hK hP 1 0 rfl rfl h_5 dX0_stepOf_37 ?_
        refine lv_iconst (v := 2) hx hb dX0_stepOf_38 (by decide) ?_
        refine lv_icmp_ne (tgt := 47) hx hb dX0_stepOf_39 (by decide) (fun c_6 => ?_) (fun c_6 => ?_)
        · have hw := hw.1 c_6
          refine lv_iconst (v := 0) hx hb dX0_stepOf_47 (by decide) ?_
          exact hret _ _ _ dX0_stepOf_48 hw
        · have hw := hw.2 c_6
          refine lv_bipush (v := 16) hx hb dX0_stepOf_42 (by decide) ?_
          refine lv_goto (tgt := 48) hx hb dX0_stepOf_44 (by decide) ?_
          exact hret _ _ _ dX0_stepOf_48 hw
      · have hw := hw.2 c_4
        refine lv_aload_n hx hb dX0_stepOf_23 rfl (lv_at hl 0 rfl) ?_
        refine va_get (D := D) (ci := 0) (v := .ref (g 9)) (C := RX0) (T := TX0) (N := 4) hx hb hts hinX0 hown hK hP 0 rfl rfl 1 (by decide) (hts (.fieldLink RX0 15 "SlabHeap$Pages" "forms" "[I") (by decide +kernel)) (fun _ h9 => h9) rfl dX0_stepOf_24 ?_
        refine lv_iload_n hx hb dX0_stepOf_27 rfl (lv_at hl 1 rfl) ?_
        obtain ⟨h_7, hw⟩ := hw
        refine va_iald hx hb hK hP 2 0 rfl rfl h_7 dX0_stepOf_28 ?_
        refine lv_goto (tgt := 48) hx hb dX0_stepOf_29 (by decide) ?_
        exact hret _ _ _ dX0_stepOf_48 hw
    · have hw := hw.2 c_2
      refine lv_iconst (v := 0) hx hb dX0_stepOf_11 (by decide) ?_
      exact hret _ _ _ dX0_stepOf_12 hw
-- X0_slotsOf
abbrev rmX0_slotsOf : Room := { frames := 1, cells := 0, slots := 0, locals := 21 }
set_option maxHeartbeats 4000000 in
set_option maxRecDepth 100000 in
theorem c_X0_slotsOf (l : Launch) (D : va_G) (g : Nat → Nat) (k : xC) (kd : Nat → Int32) (fm : Nat → Int32) (tk : Nat → Int32) (mr : Nat → Int32) (x1 : Int32) (post : Int32 → Prop) (hw : wX0_slotsOf post kd fm x1) : CPi l yX0_slotsOf wsX0_slotsOf rmX0_slotsOf D k [.ref (g 7), .int x1] (xP g k kd fm tk mr) post := by
  refine met_pi (cc := cX0_slotsOf) (nL := 3) (by decide) rfl (Nat.le_of_ble_eq_true rfl) ?_
  intro p e s m args below meth c Q ls hC hP hK hZ hS hl hret
  obtain ⟨hx, hb, hml, hown, hts⟩ := id hC
  have hC : CallFix p m c cX0_slotsOf 3 s args wsX0_slotsOf RX0 := hC
  have hown : s.vm.findClass RX0 = some m.cls := hown
  have hl : lv_has ls 3 [(0, .ref (g 7)), (1, .int x1)] := hl
  have hinX0 : ∀ w ∈ wsX00, w ∈ wsX0_slotsOf := fun _ h => List.mem_cons_of_mem _ (List.mem_append_right _ h)
  unfold wX0_slotsOf at hw
  refine lv_aload_n hx hb dX0_slotsOf_0 rfl (lv_at hl 0 rfl) ?_
  refine lv_iload_n hx hb dX0_slotsOf_1 rfl (lv_at hl 1 rfl) ?_
  refine pcall (va_runV (As := [.int x1]) (rest := []) hC (c_X0_stepOf l D g k kd fm tk mr x1 _ hw s.heap) (cwV 1 hts gX0_slotsOf_X0_stepOf rfl rfl rfl (by decide +kernel) ⟨Nat.le_of_ble_eq_true rfl, Nat.le_of_ble_eq_true rfl⟩) (preV_p (va_recv hK hP (ci := 0) (q0 := 0) rfl rfl) hP hK hZ hS) rfl rfl hl.1 rfl (lv_room (Nat.le_of_ble_eq_true rfl)) dX0_slotsOf_2 ⟨Nat.le_of_ble_eq_true rfl, Nat.le_of_ble_eq_true rfl⟩) (fun r_1 hw => ?_)
  refine lv_istore_n (lv' := [(2, .int r_1), (0, .ref (g 7)), (1, .int x1)]) hx hb dX0_slotsOf_5 rfl hl (by decide) rfl (fun ls hl => ?_)
  refine lv_iload_n hx hb dX0_slotsOf_6 rfl (lv_at hl 0 rfl) ?_
  refine lv_if_le (tgt := 17) hx hb dX0_slotsOf_7 (by decide) (fun c_2 => ?_) (fun c_2 => ?_)
  · have hw := hw.1 c_2
    refine lv_iconst (v := 0) hx hb dX0_slotsOf_17 (by decide) ?_
    exact hret _ _ _ dX0_slotsOf_18 hw
  · have hw := hw.2 c_2
    refine lv_bipush (v := 16) hx hb dX0_slotsOf_10 (by decide) ?_
    refine lv_iload_n hx hb dX0_slotsOf_12 rfl (lv_at hl 0 rfl) ?_
    obtain ⟨h_3, hw⟩ := hw
    refine lv_idiv hx hb dX0_slotsOf_13 h_3 ?_
    refine lv_goto (tgt := 18) hx hb dX0_slotsOf_14 (by decide) ?_
    exact hret _ _ _ dX0_slotsOf_18 hw
-- X0_isTaken
abbrev rmX0_isTaken : Room := { frames := 0, cells := 0, slots := 0, locals := 0 }
set_option maxHeartbeats 4000000 in
set_option maxRecDepth 100000 in
theorem c_X0_isTaken (l : Launch) (D : va_G) (g : Nat → Nat) (k : xC) (kd : Nat → Int32) (fm : Nat → Int32) (tk : Nat → Int32) (mr : Nat → Int32) (x1 : Int32) (x2 : Int32) (post : Int32 → Prop) (hw : wX0_isTaken post tk x1 x2) : CPi l yX0_isTaken wsX0_isTaken rmX0_isTaken D k [.ref (g 7), .int x1, .int x2] (xP g k kd fm tk mr) post := by
  refine met_pz (cc := cX0_isTaken) (nL := 3) (by decide) rfl (Nat.le_of_ble_eq_true rfl) ?_
  intro p e s m args below meth c Q ls hC hP hK hZ hS hl hret
  obtain ⟨hx, hb, hml, hown, hts⟩ := id hC
  have hC : CallFix p m c cX0_isTaken 3 s args wsX0_isTaken RX0 := hC
  have hown : s.vm.findClass RX0 = some m.cls := hown
  have hl : lv_has ls 3 [(0, .ref (g 7)), (1, .int x1), (2, .int x2)] := hl
  have hinX0 : ∀ w ∈ wsX00, w ∈ wsX0_isTaken := fun _ h => List.mem_cons_of_mem _ (List.mem_append_right _ h)
  unfold wX0_isTaken at hw
  refine lv_iload_n hx hb dX0_isTaken_0 rfl (lv_at hl 1 rfl) ?_
  refine lv_if_lt (tgt := 33) hx hb dX0_isTaken_1 (by decide) (fun c_1 => ?_) (fun c_1 => ?_)
  · have hw := hw.1 c_1
    refine lv_iconst (v := 0) hx hb dX0_isTaken_33 (by decide) ?_
    exact hret _ _ _ dX0_isTaken_34 nb_0 hw
  · have hw := hw.2 c_1
    refine lv_iload_n hx hb dX0_isTaken_4 rfl (lv_at hl 1 rfl) ?_
    refine lv_sipush (v := 256) hx hb dX0_isTaken_5 (by decide) ?_
    refine lv_icmp_ge (tgt := 33) hx hb dX0_isTaken_8 (by decide) (fun c_2 => ?_) (fun c_2 => ?_)
    · have hw := hw.1 c_2
      refine lv_iconst (v := 0) hx hb dX0_isTaken_33 (by decide) ?_
      exact hret _ _ _ dX0_isTaken_34 nb_0 hw
    · have hw := hw.2 c_2
      refine lv_iload_n hx hb dX0_isTaken_11 rfl (lv_at hl 2 rfl) ?_
      refine lv_if_lt (tgt := 33) hx hb dX0_isTaken_12 (by decide) (fun c_3 => ?_) (fun c_3 => ?_)
      · have hw := hw.1 c_3
        refine lv_iconst (v := 0) hx hb dX0_isTaken_33 (by decide) ?_
        exact hret _ _ _ dX0_isTaken_34 nb_0 hw
      · have hw := hw.2 c_3
        refine lv_aload_n hx hb dX0_isTaken_15 rfl (lv_at hl 0 rfl) ?_
        refine va_get (D := D) (ci := 0) (v := .ref (g 10)) (C := RX0) (T := TX0) (N := 4) hx hb hts hinX0 hown hK hP 0 rfl rfl 2 (by decide) (hts (.fieldLink RX0 18 "SlabHeap$Pages" "taken" "[I") (by decide +kernel)) (fun _ h9 => h9) rfl dX0_isTaken_16 ?_
        refine lv_iload_n hx hb dX0_isTaken_19 rfl (lv_at hl 1 rfl) ?_
        obtain ⟨h_4, hw⟩ := hw
        refine va_iald hx hb hK hP 3 0 rfl rfl h_4 dX0_isTaken_20 ?_
        refine lv_iload_n hx hb dX0_isTaken_21 rfl (lv_at hl 2 rfl) ?_
        refine lv_iushr (v := ((tk x1.toNatClampNeg).toUInt32 >>> (x2.toUInt32 &&& Int32.toUInt32 31)).toInt32) hx hb dX0_isTaken_22 rfl ?_
        refine lv_iconst (v := 1) hx hb dX0_isTaken_23 (by decide) ?_
        refine lv_iand hx hb dX0_isTaken_24 ?_
        refine lv_iconst (v := 1) hx hb dX0_isTaken_25 (by decide) ?_
        refine lv_icmp_ne (tgt := 33) hx hb dX0_isTaken_26 (by decide) (fun c_5 => ?_) (fun c_5 => ?_)
        · have hw := hw.1 c_5
          refine lv_iconst (v := 0) hx hb dX0_isTaken_33 (by decide) ?_
          exact hret _ _ _ dX0_isTaken_34 nb_0 hw
        · have hw := hw.2 c_5
          refine lv_iconst (v := 1) hx hb dX0_isTaken_29 (by decide) ?_
          refine lv_goto (tgt := 34) hx hb dX0_isTaken_30 (by decide) ?_
          exact hret _ _ _ dX0_isTaken_34 nb_1 hw
-- X0_blockIn
abbrev rmX0_blockIn : Room := { frames := 1, cells := 0, slots := 0, locals := 22 }
set_option maxHeartbeats 4000000 in
set_option maxRecDepth 100000 in
theorem c_X0_blockIn (l : Launch) (D : va_G) (g : Nat → Nat) (k : xC) (kd : Nat → Int32) (fm : Nat → Int32) (tk : Nat → Int32) (mr : Nat → Int32) (x1 : Int32) (x2 : Int32) (post : Int32 → Prop) (hw : wX0_blockIn post kd fm tk x1 x2) : CPi l yX0_blockIn wsX0_blockIn rmX0_blockIn D k [.ref (g 7), .int x1, .int x2] (xP g k kd fm tk mr) post := by
  refine met_pi (cc := cX0_blockIn) (nL := 3) (by decide) rfl (Nat.le_of_ble_eq_true rfl) ?_
  intro p e s m args below meth c Q ls hC hP hK hZ hS hl hret
  obtain ⟨hx, hb, hml, hown, hts⟩ := id hC
  have hC : CallFix p m c cX0_blockIn 3 s args wsX0_blockIn RX0 := hC
  have hown : s.vm.findClass RX0 = some m.cls := hown
  have hl : lv_has ls 3 [(0, .ref (g 7)), (1, .int x1), (2, .int x2)] := hl
  have hinX0 : ∀ w ∈ wsX00, w ∈ wsX0_blockIn := fun _ h => List.mem_cons_of_mem _ (List.mem_append_right _ h)
  unfold wX0_blockIn at hw
  refine lv_aload_n hx hb dX0_blockIn_0 rfl (lv_at hl 0 rfl) ?_
  refine lv_iload_n hx hb dX0_blockIn_1 rfl (lv_at hl 1 rfl) ?_
  refine lv_iload_n hx hb dX0_blockIn_2 rfl (lv_at hl 2 rfl) ?_
  refine pcall (va_runV (As := [.int x1, .int x2]) (rest := []) hC (c_X0_isTaken l D g k kd fm tk mr x1 x2 _ hw s.heap) (cwV 2 hts gX0_blockIn_X0_isTaken rfl rfl rfl (by decide +kernel) ⟨Nat.le_of_ble_eq_true rfl, Nat.le_of_ble_eq_true rfl⟩) (preV_p (va_recv hK hP (ci := 0) (q0 := 0) rfl rfl) hP hK hZ hS) rfl rfl hl.1 rfl (lv_room (Nat.le_of_ble_eq_true rfl)) dX0_blockIn_3 ⟨Nat.le_of_ble_eq_true rfl, Nat.le_of_ble_eq_true rfl⟩) (fun r_1 hw => ?_)
  refine lv_if_eq (tgt := 24) hx hb dX0_blockIn_6 (by decide) (fun c_2 => ?_) (fun c_2 => ?_)
  · have hw := hw.1 c_2
    refine lv_iconst (v := (-1)) hx hb dX0_blockIn_24 (by decide) ?_
    exact hret _ _ _ dX0_blockIn_25 hw
  · have hw := hw.2 c_2
    refine lv_iload_n hx hb dX0_blockIn_9 rfl (lv_at hl 1 rfl) ?_
    refine lv_bipush (v := 16) hx hb dX0_blockIn_10 (by decide) ?_
    refine lv_imul hx hb dX0_blockIn_12 ?_
    refine lv_iload_n hx hb dX0_blockIn_13 rfl (lv_at hl 2 rfl) ?_
    refine lv_aload_n hx hb dX0_blockIn_14 rfl (lv_at hl 0 rfl) ?_
    refine lv_iload_n hx hb dX0_blockIn_15 rfl (lv_at hl 1 rfl) ?_
    refine pcall (va_runV (As := [.int x1]) (rest := [.int x2, .int (x1 * 16)]) hC (c_X0_stepOf l D g k kd fm tk mr x1 _ hw s.heap) (cwV 1 hts gX0_blockIn_X0_stepOf rfl rfl rfl (by decide +kernel) ⟨Nat.le_of_ble_eq_true rfl, Nat.le_of_ble_eq_true rfl⟩) (preV_p (va_recv hK hP (ci := 0) (q0 := 0) rfl rfl) hP hK hZ hS) rfl rfl hl.1 rfl (lv_room (Nat.le_of_ble_eq_true rfl)) dX0_blockIn_16 ⟨Nat.le_of_ble_eq_true rfl, Nat.le_of_ble_eq_true rfl⟩) (fun r_3 hw => ?_)
    refine lv_imul hx hb dX0_blockIn_19 ?_
    refine lv_iadd hx hb dX0_blockIn_20 ?_
    refine lv_goto (tgt := 25) hx hb dX0_blockIn_21 (by decide) ?_
    exact hret _ _ _ dX0_blockIn_25 hw
-- X0_pageOf
abbrev rmX0_pageOf : Room := { frames := 0, cells := 0, slots := 0, locals := 0 }
set_option maxHeartbeats 4000000 in
set_option maxRecDepth 100000 in
theorem c_X0_pageOf (l : Launch) (D : va_G) (k : xC)  (x0 : Int32) (post : Int32 → Prop) (hw : wX0_pageOf post x0) : CPi l yX0_pageOf wsX0_pageOf rmX0_pageOf D k [.int x0] [] post := by
  refine met_pi (cc := cX0_pageOf) (nL := 1) (by decide) rfl (Nat.le_of_ble_eq_true rfl) ?_
  intro p e s m args below meth c Q ls hC hP hK hZ hS hl hret
  obtain ⟨hx, hb, hml, hown, hts⟩ := id hC
  have hC : CallFix p m c cX0_pageOf 1 s args wsX0_pageOf RX0 := hC
  have hown : s.vm.findClass RX0 = some m.cls := hown
  have hl : lv_has ls 1 [(0, .int x0)] := hl
  unfold wX0_pageOf at hw
  refine lv_iload_n hx hb dX0_pageOf_0 rfl (lv_at hl 0 rfl) ?_
  refine lv_if_lt (tgt := 18) hx hb dX0_pageOf_1 (by decide) (fun c_1 => ?_) (fun c_1 => ?_)
  · have hw := hw.1 c_1
    refine lv_iconst (v := (-1)) hx hb dX0_pageOf_18 (by decide) ?_
    exact hret _ _ _ dX0_pageOf_19 hw
  · have hw := hw.2 c_1
    refine lv_iload_n hx hb dX0_pageOf_4 rfl (lv_at hl 0 rfl) ?_
    refine lv_sipush (v := 4096) hx hb dX0_pageOf_5 (by decide) ?_
    refine lv_icmp_ge (tgt := 18) hx hb dX0_pageOf_8 (by decide) (fun c_2 => ?_) (fun c_2 => ?_)
    · have hw := hw.1 c_2
      refine lv_iconst (v := (-1)) hx hb dX0_pageOf_18 (by decide) ?_
      exact hret _ _ _ dX0_pageOf_19 hw
    · have hw := hw.2 c_2
      refine lv_iload_n hx hb dX0_pageOf_11 rfl (lv_at hl 0 rfl) ?_
      refine lv_bipush (v := 16) hx hb dX0_pageOf_12 (by decide) ?_
      refine lv_idiv hx hb dX0_pageOf_14 (by decide) ?_
      refine lv_goto (tgt := 19) hx hb dX0_pageOf_15 (by decide) ?_
      exact hret _ _ _ dX0_pageOf_19 hw
-- X0_slotBy
abbrev rmX0_slotBy : Room := { frames := 0, cells := 0, slots := 0, locals := 0 }
set_option maxHeartbeats 4000000 in
set_option maxRecDepth 100000 in
theorem c_X0_slotBy (l : Launch) (D : va_G) (k : xC)  (x0 : Int32) (x1 : Int32) (post : Int32 → Prop) (hw : wX0_slotBy post x0 x1) : CPi l yX0_slotBy wsX0_slotBy rmX0_slotBy D k [.int x0, .int x1] [] post := by
  refine met_pi (cc := cX0_slotBy) (nL := 3) (by decide) rfl (Nat.le_of_ble_eq_true rfl) ?_
  intro p e s m args below meth c Q ls hC hP hK hZ hS hl hret
  obtain ⟨hx, hb, hml, hown, hts⟩ := id hC
  have hC : CallFix p m c cX0_slotBy 3 s args wsX0_slotBy RX0 := hC
  have hown : s.vm.findClass RX0 = some m.cls := hown
  have hl : lv_has ls 3 [(0, .int x0), (1, .int x1)] := hl
  unfold wX0_slotBy at hw
  refine lv_iload_n hx hb dX0_slotBy_0 rfl (lv_at hl 0 rfl) ?_
  refine lv_if_le (tgt := 14) hx hb dX0_slotBy_1 (by decide) (fun c_1 => ?_) (fun c_1 => ?_)
  · have hw := hw.1 c_1
    refine lv_iconst (v := (-1)) hx hb dX0_slotBy_14 (by decide) ?_
    exact hret _ _ _ dX0_slotBy_15 hw
  · have hw := hw.2 c_1
    refine lv_iload_n hx hb dX0_slotBy_4 rfl (lv_at hl 1 rfl) ?_
    refine lv_if_lt (tgt := 14) hx hb dX0_slotBy_5 (by decide) (fun c_2 => ?_) (fun c_2 => ?_)
    · have hw := hw.1 c_2
      refine lv_iconst (v := (-1)) hx hb dX0_slotBy_14 (by decide) ?_
      exact hret _ _ _ dX0_slotBy_15 hw
    · have hw := hw.2 c_2
      refine lv_iload_n hx hb dX0_slotBy_8 rfl (lv_at hl 1 rfl) ?_
      refine lv_iload_n hx hb dX0_slotBy_9 rfl (lv_at hl 0 rfl) ?_
      obtain ⟨h_3, hw⟩ := hw
      refine lv_irem hx hb dX0_slotBy_10 h_3 ?_
      refine lv_if_eq (tgt := 16) hx hb dX0_slotBy_11 (by decide) (fun c_4 => ?_) (fun c_4 => ?_)
      · have hw := hw.1 c_4
        refine lv_iload_n hx hb dX0_slotBy_16 rfl (lv_at hl 1 rfl) ?_
        refine lv_iload_n hx hb dX0_slotBy_17 rfl (lv_at hl 0 rfl) ?_
        obtain ⟨h_5, hw⟩ := hw
        refine lv_idiv hx hb dX0_slotBy_18 h_5 ?_
        refine lv_topi (fun x2_6 ex2_6 => ?_)
        have hw := hw x2_6 ex2_6
        refine lv_istore_n (lv' := [(2, .int x2_6), (0, .int x0), (1, .int x1)]) hx hb dX0_slotBy_19 rfl hl (by decide) rfl (fun ls hl => ?_)
        refine lv_iload_n hx hb dX0_slotBy_20 rfl (lv_at hl 0 rfl) ?_
        refine lv_bipush (v := 16) hx hb dX0_slotBy_21 (by decide) ?_
        refine lv_iload_n hx hb dX0_slotBy_23 rfl (lv_at hl 1 rfl) ?_
        obtain ⟨h_7, hw⟩ := hw
        refine lv_idiv hx hb dX0_slotBy_24 h_7 ?_
        refine lv_icmp_ge (tgt := 32) hx hb dX0_slotBy_25 (by decide) (fun c_8 => ?_) (fun c_8 => ?_)
        · have hw := hw.1 c_8
          refine lv_iconst (v := (-1)) hx hb dX0_slotBy_32 (by decide) ?_
          exact hret _ _ _ dX0_slotBy_33 hw
        · have hw := hw.2 c_8
          refine lv_iload_n hx hb dX0_slotBy_28 rfl (lv_at hl 0 rfl) ?_
          refine lv_goto (tgt := 33) hx hb dX0_slotBy_29 (by decide) ?_
          exact hret _ _ _ dX0_slotBy_33 hw
      · have hw := hw.2 c_4
        refine lv_iconst (v := (-1)) hx hb dX0_slotBy_14 (by decide) ?_
        exact hret _ _ _ dX0_slotBy_15 hw
-- X0_slotAt
abbrev rmX0_slotAt : Room := { frames := 1, cells := 0, slots := 0, locals := 22 }
set_option maxHeartbeats 4000000 in
set_option maxRecDepth 100000 in
theorem c_X0_slotAt (l : Launch) (D : va_G) (g : Nat → Nat) (k : xC) (kd : Nat → Int32) (fm : Nat → Int32) (tk : Nat → Int32) (mr : Nat → Int32) (x1 : Int32) (post : Int32 → Prop) (hw : wX0_slotAt post kd fm x1) : CPi l yX0_slotAt wsX0_slotAt rmX0_slotAt D k [.ref (g 7), .int x1] (xP g k kd fm tk mr) post := by
  refine met_pi (cc := cX0_slotAt) (nL := 2) (by decide) rfl (Nat.le_of_ble_eq_true rfl) ?_
  intro p e s m args below meth c Q ls hC hP hK hZ hS hl hret
  obtain ⟨hx, hb, hml, hown, hts⟩ := id hC
  have hC : CallFix p m c cX0_slotAt 2 s args wsX0_slotAt RX0 := hC
  have hown : s.vm.findClass RX0 = some m.cls := hown
  have hl : lv_has ls 2 [(0, .ref (g 7)), (1, .int x1)] := hl
  have hinX0 : ∀ w ∈ wsX00, w ∈ wsX0_slotAt := fun _ h => List.mem_cons_of_mem _ (List.mem_append_right _ h)
  unfold wX0_slotAt at hw
  refine lv_aload_n hx hb dX0_slotAt_0 rfl (lv_at hl 0 rfl) ?_
  refine lv_iload_n hx hb dX0_slotAt_1 rfl (lv_at hl 1 rfl) ?_
  refine pcall (va_runS (As := [.int x1]) (rest := [.ref (g 7)]) hC (c_X0_pageOf l D k x1 _ hw s.heap) (va_cwS 1 hts gX0_slotAt_X0_pageOf rfl rfl rfl (by decide +kernel) ⟨Nat.le_of_ble_eq_true rfl, Nat.le_of_ble_eq_true rfl⟩) (preS_p (hP.sub [] rfl) hK hZ hS) rfl rfl hl.1 rfl (lv_room (Nat.le_of_ble_eq_true rfl)) dX0_slotAt_2 ⟨Nat.le_of_ble_eq_true rfl, Nat.le_of_ble_eq_true rfl⟩) (fun r_1 hw => ?_)
  refine pcall (va_runV (As := [.int r_1]) (rest := []) hC (c_X0_stepOf l D g k kd fm tk mr r_1 _ hw s.heap) (cwV 1 hts gX0_slotAt_X0_stepOf rfl rfl rfl (by decide +kernel) ⟨Nat.le_of_ble_eq_true rfl, Nat.le_of_ble_eq_true rfl⟩) (preV_p (va_recv hK hP (ci := 0) (q0 := 0) rfl rfl) hP hK hZ hS) rfl rfl hl.1 rfl (lv_room (Nat.le_of_ble_eq_true rfl)) dX0_slotAt_5 ⟨Nat.le_of_ble_eq_true rfl, Nat.le_of_ble_eq_true rfl⟩) (fun r_2 hw => ?_)
  refine lv_iload_n hx hb dX0_slotAt_8 rfl (lv_at hl 1 rfl) ?_
  refine lv_bipush (v := 16) hx hb dX0_slotAt_9 (by decide) ?_
  refine lv_irem hx hb dX0_slotAt_11 (by decide) ?_
  refine pcall (va_runS (As := [.int r_2, .int (x1 - x1 / 16 * 16)]) (rest := []) hC (c_X0_slotBy l D k r_2 (x1 - x1 / 16 * 16) _ hw s.heap) (va_cwS 2 hts gX0_slotAt_X0_slotBy rfl rfl rfl (by decide +kernel) ⟨Nat.le_of_ble_eq_true rfl, Nat.le_of_ble_eq_true rfl⟩) (preS_p (hP.sub [] rfl) hK hZ hS) rfl rfl hl.1 rfl (lv_room (Nat.le_of_ble_eq_true rfl)) dX0_slotAt_12 ⟨Nat.le_of_ble_eq_true rfl, Nat.le_of_ble_eq_true rfl⟩) (fun r_3 hw => ?_)
  exact hret _ _ _ dX0_slotAt_15 hw
