-- X1_at
abbrev rmX1_at : Room := { frames := 1, cells := 0, slots := 0, locals := 20 }
set_option maxHeartbeats 4000000 in
set_option maxRecDepth 100000 in
theorem c_X1_at (l : Launch) (D : va_G) (g : Nat → Nat) (k : xC) (nw : Nat → Int32) (kp : Nat → Int32) (qu : Nat → Int32) (qd : Nat → Int32) (ql : Int32) (x1 : Int32) (post : Int32 → Prop) (hw : wX1_at post nw x1) : CPi l yX1_at wsX1_at rmX1_at D k [.ref (g 2), .int x1] (xW g k nw kp qu qd ql) post := by
  refine met_pi (cc := cX1_at) (nL := 2) (by decide) rfl (Nat.le_of_ble_eq_true rfl) ?_
  intro p e s m args below meth c Q ls hC hP hK hZ hS hl hret
  obtain ⟨hx, hb, hml, hown, hts⟩ := id hC
  have hC : CallFix p m c cX1_at 2 s args wsX1_at RX1 := hC
  have hown : s.vm.findClass RX1 = some m.cls := hown
  have hl : lv_has ls 2 [(0, .ref (g 2)), (1, .int x1)] := hl
  have hinX1 : ∀ w ∈ wsX10, w ∈ wsX1_at := fun _ h => List.mem_cons_of_mem _ (List.mem_append_right _ h)
  unfold wX1_at at hw
  refine lv_iload_n hx hb dX1_at_0 rfl (lv_at hl 1 rfl) ?_
  refine pcall (va_runSN (As := [.int x1]) (rest := []) hC (c_X2_isWord l D k x1 _ hw s.heap) ⟨va_cnB 1 hts gX1_at_X2_isWord_n29 rfl rfl rfl (hZ.2 (RX1, 29, yX2_isWord, "SlabHeap") (List.mem_of_getElem? (i := 5) rfl)) (hts (.initialized RX2) (by decide +kernel)) (by decide +kernel) ⟨Nat.le_of_ble_eq_true rfl, Nat.le_of_ble_eq_true rfl⟩, hts (.static yX2_isWord) (by decide +kernel), trivial⟩ (preS_p (hP.sub [] rfl) hK hZ hS) rfl rfl hl.1 rfl (lv_room (Nat.le_of_ble_eq_true rfl)) dX1_at_1 ⟨Nat.le_of_ble_eq_true rfl, Nat.le_of_ble_eq_true rfl⟩) (fun r_1 hw => ?_)
  refine lv_if_eq (tgt := 16) hx hb dX1_at_4 (by decide) (fun c_2 => ?_) (fun c_2 => ?_)
  · have hw := hw.1 c_2
    refine lv_iconst (v := 0) hx hb dX1_at_16 (by decide) ?_
    exact hret _ _ _ dX1_at_17 hw
  · have hw := hw.2 c_2
    refine lv_aload_n hx hb dX1_at_7 rfl (lv_at hl 0 rfl) ?_
    refine va_get (D := D) (ci := 1) (v := .ref (g 3)) (C := RX1) (T := TX1) (N := 5) hx hb hts hinX1 hown hK hP 0 rfl rfl 0 (by decide) (hts (.fieldLink RX1 9 "SlabHeap$Words" "now" "[I") (by decide +kernel)) (fun _ h9 => h9) rfl dX1_at_8 ?_
    refine lv_iload_n hx hb dX1_at_11 rfl (lv_at hl 1 rfl) ?_
    obtain ⟨h_3, hw⟩ := hw
    refine va_iald hx hb hK hP 1 0 rfl rfl h_3 dX1_at_12 ?_
    refine lv_goto (tgt := 17) hx hb dX1_at_13 (by decide) ?_
    exact hret _ _ _ dX1_at_17 hw
-- X1_keptAt
abbrev rmX1_keptAt : Room := { frames := 1, cells := 0, slots := 0, locals := 20 }
set_option maxHeartbeats 4000000 in
set_option maxRecDepth 100000 in
theorem c_X1_keptAt (l : Launch) (D : va_G) (g : Nat → Nat) (k : xC) (nw : Nat → Int32) (kp : Nat → Int32) (qu : Nat → Int32) (qd : Nat → Int32) (ql : Int32) (x1 : Int32) (post : Int32 → Prop) (hw : wX1_keptAt post kp x1) : CPi l yX1_keptAt wsX1_keptAt rmX1_keptAt D k [.ref (g 2), .int x1] (xW g k nw kp qu qd ql) post := by
  refine met_pi (cc := cX1_keptAt) (nL := 2) (by decide) rfl (Nat.le_of_ble_eq_true rfl) ?_
  intro p e s m args below meth c Q ls hC hP hK hZ hS hl hret
  obtain ⟨hx, hb, hml, hown, hts⟩ := id hC
  have hC : CallFix p m c cX1_keptAt 2 s args wsX1_keptAt RX1 := hC
  have hown : s.vm.findClass RX1 = some m.cls := hown
  have hl : lv_has ls 2 [(0, .ref (g 2)), (1, .int x1)] := hl
  have hinX1 : ∀ w ∈ wsX10, w ∈ wsX1_keptAt := fun _ h => List.mem_cons_of_mem _ (List.mem_append_right _ h)
  unfold wX1_keptAt at hw
  refine lv_iload_n hx hb dX1_keptAt_0 rfl (lv_at hl 1 rfl) ?_
  refine pcall (va_runSN (As := [.int x1]) (rest := []) hC (c_X2_isWord l D k x1 _ hw s.heap) ⟨va_cnB 1 hts gX1_keptAt_X2_isWord_n29 rfl rfl rfl (hZ.2 (RX1, 29, yX2_isWord, "SlabHeap") (List.mem_of_getElem? (i := 5) rfl)) (hts (.initialized RX2) (by decide +kernel)) (by decide +kernel) ⟨Nat.le_of_ble_eq_true rfl, Nat.le_of_ble_eq_true rfl⟩, hts (.static yX2_isWord) (by decide +kernel), trivial⟩ (preS_p (hP.sub [] rfl) hK hZ hS) rfl rfl hl.1 rfl (lv_room (Nat.le_of_ble_eq_true rfl)) dX1_keptAt_1 ⟨Nat.le_of_ble_eq_true rfl, Nat.le_of_ble_eq_true rfl⟩) (fun r_1 hw => ?_)
  refine lv_if_eq (tgt := 16) hx hb dX1_keptAt_4 (by decide) (fun c_2 => ?_) (fun c_2 => ?_)
  · have hw := hw.1 c_2
    refine lv_iconst (v := 0) hx hb dX1_keptAt_16 (by decide) ?_
    exact hret _ _ _ dX1_keptAt_17 hw
  · have hw := hw.2 c_2
    refine lv_aload_n hx hb dX1_keptAt_7 rfl (lv_at hl 0 rfl) ?_
    refine va_get (D := D) (ci := 1) (v := .ref (g 4)) (C := RX1) (T := TX1) (N := 5) hx hb hts hinX1 hown hK hP 0 rfl rfl 1 (by decide) (hts (.fieldLink RX1 15 "SlabHeap$Words" "kept" "[I") (by decide +kernel)) (fun _ h9 => h9) rfl dX1_keptAt_8 ?_
    refine lv_iload_n hx hb dX1_keptAt_11 rfl (lv_at hl 1 rfl) ?_
    obtain ⟨h_3, hw⟩ := hw
    refine va_iald hx hb hK hP 2 0 rfl rfl h_3 dX1_keptAt_12 ?_
    refine lv_goto (tgt := 17) hx hb dX1_keptAt_13 (by decide) ?_
    exact hret _ _ _ dX1_keptAt_17 hw
-- X1_waiting
abbrev rmX1_waiting : Room := { frames := 0, cells := 0, slots := 0, locals := 0 }
set_option maxHeartbeats 4000000 in
set_option maxRecDepth 100000 in
theorem c_X1_waiting (l : Launch) (D : va_G) (g : Nat → Nat) (k : xC) (nw : Nat → Int32) (kp : Nat → Int32) (qu : Nat → Int32) (qd : Nat → Int32) (ql : Int32)  (post : Int32 → Prop) (hw : wX1_waiting post ql) : CPi l yX1_waiting wsX1_waiting rmX1_waiting D k [.ref (g 2)] (xW g k nw kp qu qd ql) post := by
  refine met_pi (cc := cX1_waiting) (nL := 1) (by decide) rfl (Nat.le_of_ble_eq_true rfl) ?_
  intro p e s m args below meth c Q ls hC hP hK hZ hS hl hret
  obtain ⟨hx, hb, hml, hown, hts⟩ := id hC
  have hC : CallFix p m c cX1_waiting 1 s args wsX1_waiting RX1 := hC
  have hown : s.vm.findClass RX1 = some m.cls := hown
  have hl : lv_has ls 1 [(0, .ref (g 2))] := hl
  have hinX1 : ∀ w ∈ wsX10, w ∈ wsX1_waiting := fun _ h => List.mem_cons_of_mem _ (List.mem_append_right _ h)
  unfold wX1_waiting at hw
  refine lv_aload_n hx hb dX1_waiting_0 rfl (lv_at hl 0 rfl) ?_
  refine va_get (D := D) (ci := 1) (v := .int ql) (C := RX1) (T := TX1) (N := 5) hx hb hts hinX1 hown hK hP 0 rfl rfl 4 (by decide) (hts (.fieldLink RX1 25 "SlabHeap$Words" "queueLength" "I") (by decide +kernel)) (fun _ h9 => h9) rfl dX1_waiting_1 ?_
  exact hret _ _ _ dX1_waiting_4 hw
-- X1_lineAt
abbrev rmX1_lineAt : Room := { frames := 0, cells := 0, slots := 0, locals := 0 }
set_option maxHeartbeats 4000000 in
set_option maxRecDepth 100000 in
theorem c_X1_lineAt (l : Launch) (D : va_G) (g : Nat → Nat) (k : xC) (nw : Nat → Int32) (kp : Nat → Int32) (qu : Nat → Int32) (qd : Nat → Int32) (ql : Int32) (x1 : Int32) (post : Int32 → Prop) (hw : wX1_lineAt post qu ql x1) : CPi l yX1_lineAt wsX1_lineAt rmX1_lineAt D k [.ref (g 2), .int x1] (xW g k nw kp qu qd ql) post := by
  refine met_pi (cc := cX1_lineAt) (nL := 2) (by decide) rfl (Nat.le_of_ble_eq_true rfl) ?_
  intro p e s m args below meth c Q ls hC hP hK hZ hS hl hret
  obtain ⟨hx, hb, hml, hown, hts⟩ := id hC
  have hC : CallFix p m c cX1_lineAt 2 s args wsX1_lineAt RX1 := hC
  have hown : s.vm.findClass RX1 = some m.cls := hown
  have hl : lv_has ls 2 [(0, .ref (g 2)), (1, .int x1)] := hl
  have hinX1 : ∀ w ∈ wsX10, w ∈ wsX1_lineAt := fun _ h => List.mem_cons_of_mem _ (List.mem_append_right _ h)
  unfold wX1_lineAt at hw
  refine lv_iload_n hx hb dX1_lineAt_0 rfl (lv_at hl 1 rfl) ?_
  refine lv_if_lt (tgt := 30) hx hb dX1_lineAt_1 (by decide) (fun c_1 => ?_) (fun c_1 => ?_)
  · have hw := hw.1 c_1
    refine lv_iconst (v := (-1)) hx hb dX1_lineAt_30 (by decide) ?_
    exact hret _ _ _ dX1_lineAt_31 hw
  · have hw := hw.2 c_1
    refine lv_iload_n hx hb dX1_lineAt_4 rfl (lv_at hl 1 rfl) ?_
    refine lv_aload_n hx hb dX1_lineAt_5 rfl (lv_at hl 0 rfl) ?_
    refine va_get (D := D) (ci := 1) (v := .int ql) (C := RX1) (T := TX1) (N := 5) hx hb hts hinX1 hown hK hP 0 rfl rfl 4 (by decide) (hts (.fieldLink RX1 25 "SlabHeap$Words" "queueLength" "I") (by decide +kernel)) (fun _ h9 => h9) rfl dX1_lineAt_6 ?_
    refine lv_icmp_ge (tgt := 30) hx hb dX1_lineAt_9 (by decide) (fun c_2 => ?_) (fun c_2 => ?_)
    · have hw := hw.1 c_2
      refine lv_iconst (v := (-1)) hx hb dX1_lineAt_30 (by decide) ?_
      exact hret _ _ _ dX1_lineAt_31 hw
    · have hw := hw.2 c_2
      refine lv_iload_n hx hb dX1_lineAt_12 rfl (lv_at hl 1 rfl) ?_
      refine lv_aload_n hx hb dX1_lineAt_13 rfl (lv_at hl 0 rfl) ?_
      refine va_get (D := D) (ci := 1) (v := .ref (g 5)) (C := RX1) (T := TX1) (N := 5) hx hb hts hinX1 hown hK hP 0 rfl rfl 2 (by decide) (hts (.fieldLink RX1 18 "SlabHeap$Words" "queue" "[I") (by decide +kernel)) (fun _ h9 => h9) rfl dX1_lineAt_14 ?_
      refine va_alen (v := 512) hx hb hK hP 3 0 rfl rfl rfl dX1_lineAt_17 ?_
      refine lv_icmp_ge (tgt := 30) hx hb dX1_lineAt_18 (by decide) (fun c_3 => ?_) (fun c_3 => ?_)
      · have hw := hw.1 c_3
        refine lv_iconst (v := (-1)) hx hb dX1_lineAt_30 (by decide) ?_
        exact hret _ _ _ dX1_lineAt_31 hw
      · have hw := hw.2 c_3
        refine lv_aload_n hx hb dX1_lineAt_21 rfl (lv_at hl 0 rfl) ?_
        refine va_get (D := D) (ci := 1) (v := .ref (g 5)) (C := RX1) (T := TX1) (N := 5) hx hb hts hinX1 hown hK hP 0 rfl rfl 2 (by decide) (hts (.fieldLink RX1 18 "SlabHeap$Words" "queue" "[I") (by decide +kernel)) (fun _ h9 => h9) rfl dX1_lineAt_22 ?_
        refine lv_iload_n hx hb dX1_lineAt_25 rfl (lv_at hl 1 rfl) ?_
        obtain ⟨h_4, hw⟩ := hw
        refine va_iald hx hb hK hP 3 0 rfl rfl h_4 dX1_lineAt_26 ?_
        refine lv_goto (tgt := 31) hx hb dX1_lineAt_27 (by decide) ?_
        exact hret _ _ _ dX1_lineAt_31 hw
-- X1_write
abbrev rmX1_write : Room := { frames := 1, cells := 0, slots := 0, locals := 20 }
set_option maxHeartbeats 4000000 in
set_option maxRecDepth 100000 in
theorem c_X1_write (l : Launch) (D : va_G) (g : Nat → Nat) (k : xC) (nw : Nat → Int32) (kp : Nat → Int32) (qu : Nat → Int32) (qd : Nat → Int32) (ql : Int32) (x1 : Int32) (x2 : Int32) (post : (Nat → Int32) → (Nat → Int32) → (Nat → Int32) → Int32 → Prop) (hw : wX1_write post nw qu qd ql x1 x2) : CMv l yX1_write wsX1_write rmX1_write D k [.ref (g 2), .int x1, .int x2] (fun v : (Nat → Int32) × (Nat → Int32) × (Nat → Int32) × Int32 => (xW g k (v.1) kp (v.2.1) (v.2.2.1) (v.2.2.2))) (nw, qu, qd, ql) (fun v => post (v.1) (v.2.1) (v.2.2.1) (v.2.2.2)) := by
  refine met_mv (cc := cX1_write) (nL := 4) (by decide) rfl (Nat.le_of_ble_eq_true rfl) ?_
  intro p e s m args below meth c Q A ls hC hP hD hA hK hZ hS hl hret
  obtain ⟨hx, hb, hml, hown, hts⟩ := id hC
  have hC : CallFix p m c cX1_write 4 s args wsX1_write RX1 := hC
  have hown : s.vm.findClass RX1 = some m.cls := hown
  have hl : lv_has ls 4 [(0, .ref (g 2)), (1, .int x1), (2, .int x2)] := hl
  have hP : va_P D vwCl (xW g k nw kp qu qd ql) s.heap := hP
  have hD : va_D A (xW g k nw kp qu qd ql) := hD
  have hinX1 : ∀ w ∈ wsX10, w ∈ wsX1_write := fun _ h => List.mem_cons_of_mem _ (List.mem_append_right _ h)
  unfold wX1_write at hw
  suffices main : ∀ (H : Heap) (locs : List Loc), va_P D vwCl (xW g k nw kp qu qd ql) H → va_D A (xW g k nw kp qu qd ql) → va_S A s.heap H locs → W p l e rmX1_write s m args below meth c H locs 0 0 Q (F0 m 0 ls []) from main _ _ hP hD hS
  intro H locs hP hD hS
  refine lv_iload_n hx hb dX1_write_0 rfl (lv_at hl 1 rfl) ?_
  refine pcall (va_runSN (As := [.int x1]) (rest := []) hC (c_X2_isWord l D k x1 _ hw H) ⟨va_cnB 1 hts gX1_write_X2_isWord_n29 rfl rfl rfl (hZ.2 (RX1, 29, yX2_isWord, "SlabHeap") (List.mem_of_getElem? (i := 5) rfl)) (hts (.initialized RX2) (by decide +kernel)) (by decide +kernel) ⟨Nat.le_of_ble_eq_true rfl, Nat.le_of_ble_eq_true rfl⟩, hts (.static yX2_isWord) (by decide +kernel), trivial⟩ (preS_p (hP.sub [] rfl) hK hZ hS) rfl rfl hl.1 rfl (lv_room (Nat.le_of_ble_eq_true rfl)) dX1_write_1 ⟨Nat.le_of_ble_eq_true rfl, Nat.le_of_ble_eq_true rfl⟩) (fun r_1 hw => ?_)
  refine lv_if_ne (tgt := 8) hx hb dX1_write_4 (by decide) (fun c_2 => ?_) (fun c_2 => ?_)
  · have hw := hw.1 c_2
    refine lv_aload_n hx hb dX1_write_8 rfl (lv_at hl 0 rfl) ?_
    refine va_get (D := D) (ci := 1) (v := .ref (g 3)) (C := RX1) (T := TX1) (N := 5) hx hb hts hinX1 hown hK hP 0 rfl rfl 0 (by decide) (hts (.fieldLink RX1 9 "SlabHeap$Words" "now" "[I") (by decide +kernel)) (fun _ h9 => h9) rfl dX1_write_9 ?_
    refine lv_iload_n hx hb dX1_write_12 rfl (lv_at hl 1 rfl) ?_
    refine lv_iload_n hx hb dX1_write_13 rfl (lv_at hl 2 rfl) ?_
    obtain ⟨h_3, hw⟩ := hw
    refine va_iast hx hb hK hP hD hS 1 0 rfl rfl h_3 dX1_write_14 (fun H locs hP hD hS => ?_)
    have hP : va_P D vwCl (xW g k (upd nw x1.toNatClampNeg x2) kp qu qd ql) H := hP
    have hD : va_D A (xW g k (upd nw x1.toNatClampNeg x2) kp qu qd ql) := hD
    refine lv_iload_n hx hb dX1_write_15 rfl (lv_at hl 1 rfl) ?_
    refine lv_bipush (v := 8) hx hb dX1_write_16 (by decide) ?_
    refine lv_idiv hx hb dX1_write_18 (by decide) ?_
    refine lv_topi (fun x3_4 ex3_4 => ?_)
    have hw := hw x3_4 ex3_4
    refine lv_istore_n (lv' := [(3, .int x3_4), (0, .ref (g 2)), (1, .int x1), (2, .int x2)]) hx hb dX1_write_19 rfl hl (by decide) rfl (fun ls hl => ?_)
    refine lv_aload_n hx hb dX1_write_20 rfl (lv_at hl 1 rfl) ?_
    refine va_get (D := D) (ci := 1) (v := .ref (g 6)) (C := RX1) (T := TX1) (N := 5) hx hb hts hinX1 hown hK hP 0 rfl rfl 3 (by decide) (hts (.fieldLink RX1 21 "SlabHeap$Words" "queued" "[Z") (by decide +kernel)) (fun _ h9 => h9) rfl dX1_write_21 ?_
    refine lv_iload_n hx hb dX1_write_24 rfl (lv_at hl 0 rfl) ?_
    obtain ⟨h_5, hw⟩ := hw
    refine va_zald hx hb hK hP 4 1 rfl rfl h_5 dX1_write_25 ?_
    refine lv_if_ne (tgt := 68) hx hb dX1_write_26 (by decide) (fun c_6 => ?_) (fun c_6 => ?_)
    · have hw := hw.1 c_6
      exact hret _ _ ((upd nw x1.toNatClampNeg x2), qu, qd, ql) _ _ hP hD hS dX1_write_68 hw
    · have hw := hw.2 c_6
      refine lv_aload_n hx hb dX1_write_29 rfl (lv_at hl 1 rfl) ?_
      refine va_get (D := D) (ci := 1) (v := .int ql) (C := RX1) (T := TX1) (N := 5) hx hb hts hinX1 hown hK hP 0 rfl rfl 4 (by decide) (hts (.fieldLink RX1 25 "SlabHeap$Words" "queueLength" "I") (by decide +kernel)) (fun _ h9 => h9) rfl dX1_write_30 ?_
      refine lv_aload_n hx hb dX1_write_33 rfl (lv_at hl 1 rfl) ?_
      refine va_get (D := D) (ci := 1) (v := .ref (g 5)) (C := RX1) (T := TX1) (N := 5) hx hb hts hinX1 hown hK hP 0 rfl rfl 2 (by decide) (hts (.fieldLink RX1 18 "SlabHeap$Words" "queue" "[I") (by decide +kernel)) (fun _ h9 => h9) rfl dX1_write_34 ?_
      refine va_alen (v := 512) hx hb hK hP 3 0 rfl rfl rfl dX1_write_37 ?_
      refine lv_icmp_ge (tgt := 68) hx hb dX1_write_38 (by decide) (fun c_7 => ?_) (fun c_7 => ?_)
      · have hw := hw.1 c_7
        exact hret _ _ ((upd nw x1.toNatClampNeg x2), qu, qd, ql) _ _ hP hD hS dX1_write_68 hw
      · have hw := hw.2 c_7
        refine lv_aload_n hx hb dX1_write_41 rfl (lv_at hl 1 rfl) ?_
        refine va_get (D := D) (ci := 1) (v := .ref (g 6)) (C := RX1) (T := TX1) (N := 5) hx hb hts hinX1 hown hK hP 0 rfl rfl 3 (by decide) (hts (.fieldLink RX1 21 "SlabHeap$Words" "queued" "[Z") (by decide +kernel)) (fun _ h9 => h9) rfl dX1_write_42 ?_
        refine lv_iload_n hx hb dX1_write_45 rfl (lv_at hl 0 rfl) ?_
        refine lv_iconst (v := 1) hx hb dX1_write_46 (by decide) ?_
        obtain ⟨h_8, hw⟩ := hw
        refine va_zast hx hb hK hP hD hS 4 1 rfl rfl h_8 dX1_write_47 (fun H locs hP hD hS => ?_)
        have hP : va_P D vwCl (xW g k (upd nw x1.toNatClampNeg x2) kp qu (upd qd x3_4.toNatClampNeg (vp_nar .boolean 1)) ql) H := hP
        have hD : va_D A (xW g k (upd nw x1.toNatClampNeg x2) kp qu (upd qd x3_4.toNatClampNeg (vp_nar .boolean 1)) ql) := hD
        refine lv_aload_n hx hb dX1_write_48 rfl (lv_at hl 1 rfl) ?_
        refine va_get (D := D) (ci := 1) (v := .ref (g 5)) (C := RX1) (T := TX1) (N := 5) hx hb hts hinX1 hown hK hP 0 rfl rfl 2 (by decide) (hts (.fieldLink RX1 18 "SlabHeap$Words" "queue" "[I") (by decide +kernel)) (fun _ h9 => h9) rfl dX1_write_49 ?_
        refine lv_aload_n hx hb dX1_write_52 rfl (lv_at hl 1 rfl) ?_
        refine va_get (D := D) (ci := 1) (v := .int ql) (C := RX1) (T := TX1) (N := 5) hx hb hts hinX1 hown hK hP 0 rfl rfl 4 (by decide) (hts (.fieldLink RX1 25 "SlabHeap$Words" "queueLength" "I") (by decide +kernel)) (fun _ h9 => h9) rfl dX1_write_53 ?_
        refine lv_iload_n hx hb dX1_write_56 rfl (lv_at hl 0 rfl) ?_
        obtain ⟨h_9, hw⟩ := hw
        refine va_iast hx hb hK hP hD hS 3 0 rfl rfl h_9 dX1_write_57 (fun H locs hP hD hS => ?_)
        have hP : va_P D vwCl (xW g k (upd nw x1.toNatClampNeg x2) kp (upd qu ql.toNatClampNeg x3_4) (upd qd x3_4.toNatClampNeg (vp_nar .boolean 1)) ql) H := hP
        have hD : va_D A (xW g k (upd nw x1.toNatClampNeg x2) kp (upd qu ql.toNatClampNeg x3_4) (upd qd x3_4.toNatClampNeg (vp_nar .boolean 1)) ql) := hD
        refine lv_aload_n hx hb dX1_write_58 rfl (lv_at hl 1 rfl) ?_
        refine lv_dup hx hb dX1_write_59 rfl ?_
        refine va_get (D := D) (ci := 1) (v := .int ql) (C := RX1) (T := TX1) (N := 5) hx hb hts hinX1 hown hK hP 0 rfl rfl 4 (by decide) (hts (.fieldLink RX1 25 "SlabHeap$Words" "queueLength" "I") (by decide +kernel)) (fun _ h9 => h9) rfl dX1_write_60 ?_
        refine lv_iconst (v := 1) hx hb dX1_write_63 (by decide) ?_
        refine lv_iadd hx hb dX1_write_64 ?_
        refine va_put (D := D) (ci := 1) (v := .int (ql + 1)) (ty := .int) (C := RX1) (T := TX1) (N := 5) hx hb hts hinX1 tyX1 tyX1_ok nmX1 hown hK hP hD hS 0 rfl rfl 4 (by decide) (hts (.fieldLink RX1 25 "SlabHeap$Words" "queueLength" "I") (by decide +kernel)) (fun _ h9 => h9) rfl (by decide +kernel) rfl rfl (Nat.le_of_ble_eq_true rfl) dX1_write_65 (fun H locs hP hD hS => ?_)
        have hP : va_P D vwCl (xW g k (upd nw x1.toNatClampNeg x2) kp (upd qu ql.toNatClampNeg x3_4) (upd qd x3_4.toNatClampNeg (vp_nar .boolean 1)) (ql + 1)) H := hP
        have hD : va_D A (xW g k (upd nw x1.toNatClampNeg x2) kp (upd qu ql.toNatClampNeg x3_4) (upd qd x3_4.toNatClampNeg (vp_nar .boolean 1)) (ql + 1)) := hD
        exact hret _ _ ((upd nw x1.toNatClampNeg x2), (upd qu ql.toNatClampNeg x3_4), (upd qd x3_4.toNatClampNeg (vp_nar .boolean 1)), (ql + 1)) _ _ hP hD hS dX1_write_68 hw
  · have hw := hw.2 c_2
    exact hret _ _ (nw, qu, qd, ql) _ _ hP hD hS dX1_write_7 hw
-- X1_settleLine_a
abbrev rmX1_settleLine_a : Room := { frames := 0, cells := 0, slots := 0, locals := 0 }
set_option maxHeartbeats 4000000 in
set_option maxRecDepth 100000 in
theorem c_X1_settleLine_a (l : Launch) (D : va_G) (g : Nat → Nat) (k : xC) (nw : Nat → Int32) (kp : Nat → Int32) (qu : Nat → Int32) (qd : Nat → Int32) (ql : Int32) (x1 : Int32) (post : (Nat → Int32) → (Nat → Int32) → Prop) (hw : wX1_settleLine_a post nw kp qd x1) : CMv l yX1_settleLine wsX1_settleLine rmX1_settleLine_a D k [.ref (g 2), .int x1, .ref (g 3), .ref (g 4)] (fun v : (Nat → Int32) × (Nat → Int32) => (xW g k nw (v.1) qu (v.2) ql)) (kp, qd) (fun v => post (v.1) (v.2)) := by
  refine met_mv (cc := cX1_settleLine) (nL := 5) (by decide) rfl (Nat.le_of_ble_eq_true rfl) ?_
  intro p e s m args below meth c Q A ls hC hP hD hA hK hZ hS hl hret
  obtain ⟨hx, hb, hml, hown, hts⟩ := id hC
  have hC : CallFix p m c cX1_settleLine 5 s args wsX1_settleLine RX1 := hC
  have hown : s.vm.findClass RX1 = some m.cls := hown
  have hl : lv_has ls 5 [(0, .ref (g 2)), (1, .int x1), (2, .ref (g 3)), (3, .ref (g 4))] := hl
  have hP : va_P D vwCl (xW g k nw kp qu qd ql) s.heap := hP
  have hD : va_D A (xW g k nw kp qu qd ql) := hD
  have hinX1 : ∀ w ∈ wsX10, w ∈ wsX1_settleLine := fun _ h => List.mem_cons_of_mem _ (List.mem_append_right _ h)
  have B25 : ∀ (fu : Nat), ∀ (x1 : Int32), ∀ (x4 : Int32), ∀ (kp : Nat → Int32), ∀ (qd : Nat → Int32), ∀ (H : Heap) (locs : List Loc), va_P D vwCl (xW g k nw kp qu qd ql) H → va_D A (xW g k nw kp qu qd ql) → va_S A s.heap H locs → ∀ (ls : Array Slot), lv_has ls 5 [(1, .int x1), (2, .ref (g 3)), (3, .ref (g 4)), (4, .int x4)] → wX1_settleLine_a_25 post nw fu x1 x4 kp qd → W p l e rmX1_settleLine_a s m args below meth c H locs 0 0 Q (F0 m 25 ls []) := by
    intro  fu
    induction fu with
    | zero =>
      intro x1 x4 kp qd H locs hP hD hS ls hl hw
      exact absurd hw (by unfold wX1_settleLine_a_25; exact fun q => q)
    | succ n ih =>
      intro x1 x4 kp qd H locs hP hD hS ls hl hw
      unfold wX1_settleLine_a_25 at hw
      refine lv_iload hx hb dX1_settleLine_25 (lv_at hl 3 rfl) ?_
      refine lv_iload_n hx hb dX1_settleLine_27 rfl (lv_at hl 0 rfl) ?_
      refine lv_iconst (v := 1) hx hb dX1_settleLine_28 (by decide) ?_
      refine lv_iadd hx hb dX1_settleLine_29 ?_
      refine lv_bipush (v := 8) hx hb dX1_settleLine_30 (by decide) ?_
      refine lv_imul hx hb dX1_settleLine_32 ?_
      refine lv_icmp_ge (tgt := 50) hx hb dX1_settleLine_33 (by decide) (fun c_5 => ?_) (fun c_5 => ?_)
      · have hw := hw.1 c_5
        exact hret _ _ (kp, qd) _ _ hP hD hS dX1_settleLine_50 hw
      · have hw := hw.2 c_5
        refine lv_aload_n hx hb dX1_settleLine_36 rfl (lv_at hl 2 rfl) ?_
        refine lv_iload hx hb dX1_settleLine_37 (lv_at hl 3 rfl) ?_
        refine lv_aload_n hx hb dX1_settleLine_39 rfl (lv_at hl 1 rfl) ?_
        refine lv_iload hx hb dX1_settleLine_40 (lv_at hl 3 rfl) ?_
        obtain ⟨h_6, hw⟩ := hw
        refine va_iald hx hb hK hP 1 0 rfl rfl h_6 dX1_settleLine_42 ?_
        obtain ⟨h_7, hw⟩ := hw
        refine va_iast hx hb hK hP hD hS 2 0 rfl rfl h_7 dX1_settleLine_43 (fun H locs hP hD hS => ?_)
        have hP : va_P D vwCl (xW g k nw (upd kp x4.toNatClampNeg (nw x4.toNatClampNeg)) qu qd ql) H := hP
        have hD : va_D A (xW g k nw (upd kp x4.toNatClampNeg (nw x4.toNatClampNeg)) qu qd ql) := hD
        obtain ⟨x4_8, ex4_8⟩ : ∃ y : Int32, y = x4 + 1 := ⟨_, rfl⟩
        have hw := hw x4_8 ex4_8
        refine lv_iinc (v := x4_8) (lv' := [(4, .int x4_8), (1, .int x1), (2, .ref (g 3)), (3, .ref (g 4))]) hx hb dX1_settleLine_44 hl (k := 3) rfl (by rw [ex4_8]; rfl) (by decide) rfl (fun ls hl => ?_)
        refine lv_goto (tgt := 25) hx hb dX1_settleLine_47 (by decide) ?_
        exact ih x1 x4_8 (upd kp x4.toNatClampNeg (nw x4.toNatClampNeg)) qd H locs hP hD hS ls (lv_sub hl [1, 2, 3, 0] rfl) hw
  unfold wX1_settleLine_a at hw
  suffices main : ∀ (H : Heap) (locs : List Loc), va_P D vwCl (xW g k nw kp qu qd ql) H → va_D A (xW g k nw kp qu qd ql) → va_S A s.heap H locs → W p l e rmX1_settleLine_a s m args below meth c H locs 0 0 Q (F0 m 0 ls []) from main _ _ hP hD hS
  intro H locs hP hD hS
  refine lv_iload_n hx hb dX1_settleLine_0 rfl (lv_at hl 1 rfl) ?_
  refine lv_if_lt (tgt := 11) hx hb dX1_settleLine_1 (by decide) (fun c_1 => ?_) (fun c_1 => ?_)
  · have hw := hw.1 c_1
    exact hret _ _ (kp, qd) _ _ hP hD hS dX1_settleLine_11 hw
  · have hw := hw.2 c_1
    refine lv_iload_n hx hb dX1_settleLine_4 rfl (lv_at hl 1 rfl) ?_
    refine lv_sipush (v := 512) hx hb dX1_settleLine_5 (by decide) ?_
    refine lv_icmp_lt (tgt := 12) hx hb dX1_settleLine_8 (by decide) (fun c_2 => ?_) (fun c_2 => ?_)
    · have hw := hw.1 c_2
      refine lv_aload_n hx hb dX1_settleLine_12 rfl (lv_at hl 0 rfl) ?_
      refine va_get (D := D) (ci := 1) (v := .ref (g 6)) (C := RX1) (T := TX1) (N := 5) hx hb hts hinX1 hown hK hP 0 rfl rfl 3 (by decide) (hts (.fieldLink RX1 21 "SlabHeap$Words" "queued" "[Z") (by decide +kernel)) (fun _ h9 => h9) rfl dX1_settleLine_13 ?_
      refine lv_iload_n hx hb dX1_settleLine_16 rfl (lv_at hl 1 rfl) ?_
      refine lv_iconst (v := 0) hx hb dX1_settleLine_17 (by decide) ?_
      obtain ⟨h_3, hw⟩ := hw
      refine va_zast hx hb hK hP hD hS 4 1 rfl rfl h_3 dX1_settleLine_18 (fun H locs hP hD hS => ?_)
      have hP : va_P D vwCl (xW g k nw kp qu (upd qd x1.toNatClampNeg (vp_nar .boolean 0)) ql) H := hP
      have hD : va_D A (xW g k nw kp qu (upd qd x1.toNatClampNeg (vp_nar .boolean 0)) ql) := hD
      refine lv_iload_n hx hb dX1_settleLine_19 rfl (lv_at hl 1 rfl) ?_
      refine lv_bipush (v := 8) hx hb dX1_settleLine_20 (by decide) ?_
      refine lv_imul hx hb dX1_settleLine_22 ?_
      refine lv_topi (fun x4_4 ex4_4 => ?_)
      have hw := hw x4_4 ex4_4
      refine lv_istore (lv' := [(4, .int x4_4), (0, .ref (g 2)), (1, .int x1), (2, .ref (g 3)), (3, .ref (g 4))]) hx hb dX1_settleLine_23 hl (by decide) rfl (fun ls hl => ?_)
      obtain ⟨fu_9, hw⟩ := hw
      exact B25  fu_9 x1 x4_4 kp (upd qd x1.toNatClampNeg (vp_nar .boolean 0)) H locs hP hD hS ls (lv_sub hl [2, 3, 4, 0] rfl) hw
    · have hw := hw.2 c_2
      exact hret _ _ (kp, qd) _ _ hP hD hS dX1_settleLine_11 hw
-- X1_settleLine_b
abbrev rmX1_settleLine_b : Room := { frames := 0, cells := 0, slots := 0, locals := 0 }
set_option maxHeartbeats 4000000 in
set_option maxRecDepth 100000 in
theorem c_X1_settleLine_b (l : Launch) (D : va_G) (g : Nat → Nat) (k : xC) (nw : Nat → Int32) (kp : Nat → Int32) (qu : Nat → Int32) (qd : Nat → Int32) (ql : Int32) (x1 : Int32) (post : (Nat → Int32) → (Nat → Int32) → Prop) (hw : wX1_settleLine_b post nw kp qd x1) : CMv l yX1_settleLine wsX1_settleLine rmX1_settleLine_b D k [.ref (g 2), .int x1, .ref (g 4), .ref (g 3)] (fun v : (Nat → Int32) × (Nat → Int32) => (xW g k (v.1) kp qu (v.2) ql)) (nw, qd) (fun v => post (v.1) (v.2)) := by
  refine met_mv (cc := cX1_settleLine) (nL := 5) (by decide) rfl (Nat.le_of_ble_eq_true rfl) ?_
  intro p e s m args below meth c Q A ls hC hP hD hA hK hZ hS hl hret
  obtain ⟨hx, hb, hml, hown, hts⟩ := id hC
  have hC : CallFix p m c cX1_settleLine 5 s args wsX1_settleLine RX1 := hC
  have hown : s.vm.findClass RX1 = some m.cls := hown
  have hl : lv_has ls 5 [(0, .ref (g 2)), (1, .int x1), (2, .ref (g 4)), (3, .ref (g 3))] := hl
  have hP : va_P D vwCl (xW g k nw kp qu qd ql) s.heap := hP
  have hD : va_D A (xW g k nw kp qu qd ql) := hD
  have hinX1 : ∀ w ∈ wsX10, w ∈ wsX1_settleLine := fun _ h => List.mem_cons_of_mem _ (List.mem_append_right _ h)
  have B25 : ∀ (fu : Nat), ∀ (x1 : Int32), ∀ (x4 : Int32), ∀ (nw : Nat → Int32), ∀ (qd : Nat → Int32), ∀ (H : Heap) (locs : List Loc), va_P D vwCl (xW g k nw kp qu qd ql) H → va_D A (xW g k nw kp qu qd ql) → va_S A s.heap H locs → ∀ (ls : Array Slot), lv_has ls 5 [(1, .int x1), (2, .ref (g 4)), (3, .ref (g 3)), (4, .int x4)] → wX1_settleLine_b_25 post kp fu x1 x4 nw qd → W p l e rmX1_settleLine_b s m args below meth c H locs 0 0 Q (F0 m 25 ls []) := by
    intro  fu
    induction fu with
    | zero =>
      intro x1 x4 nw qd H locs hP hD hS ls hl hw
      exact absurd hw (by unfold wX1_settleLine_b_25; exact fun q => q)
    | succ n ih =>
      intro x1 x4 nw qd H locs hP hD hS ls hl hw
      unfold wX1_settleLine_b_25 at hw
      refine lv_iload hx hb dX1_settleLine_25 (lv_at hl 3 rfl) ?_
      refine lv_iload_n hx hb dX1_settleLine_27 rfl (lv_at hl 0 rfl) ?_
      refine lv_iconst (v := 1) hx hb dX1_settleLine_28 (by decide) ?_
      refine lv_iadd hx hb dX1_settleLine_29 ?_
      refine lv_bipush (v := 8) hx hb dX1_settleLine_30 (by decide) ?_
      refine lv_imul hx hb dX1_settleLine_32 ?_
      refine lv_icmp_ge (tgt := 50) hx hb dX1_settleLine_33 (by decide) (fun c_5 => ?_) (fun c_5 => ?_)
      · have hw := hw.1 c_5
        exact hret _ _ (nw, qd) _ _ hP hD hS dX1_settleLine_50 hw
      · have hw := hw.2 c_5
        refine lv_aload_n hx hb dX1_settleLine_36 rfl (lv_at hl 2 rfl) ?_
        refine lv_iload hx hb dX1_settleLine_37 (lv_at hl 3 rfl) ?_
        refine lv_aload_n hx hb dX1_settleLine_39 rfl (lv_at hl 1 rfl) ?_
        refine lv_iload hx hb dX1_settleLine_40 (lv_at hl 3 rfl) ?_
        obtain ⟨h_6, hw⟩ := hw
        refine va_iald hx hb hK hP 2 0 rfl rfl h_6 dX1_settleLine_42 ?_
        obtain ⟨h_7, hw⟩ := hw
        refine va_iast hx hb hK hP hD hS 1 0 rfl rfl h_7 dX1_settleLine_43 (fun H locs hP hD hS => ?_)
        have hP : va_P D vwCl (xW g k (upd nw x4.toNatClampNeg (kp x4.toNatClampNeg)) kp qu qd ql) H := hP
        have hD : va_D A (xW g k (upd nw x4.toNatClampNeg (kp x4.toNatClampNeg)) kp qu qd ql) := hD
        obtain ⟨x4_8, ex4_8⟩ : ∃ y : Int32, y = x4 + 1 := ⟨_, rfl⟩
        have hw := hw x4_8 ex4_8
        refine lv_iinc (v := x4_8) (lv' := [(4, .int x4_8), (1, .int x1), (2, .ref (g 4)), (3, .ref (g 3))]) hx hb dX1_settleLine_44 hl (k := 3) rfl (by rw [ex4_8]; rfl) (by decide) rfl (fun ls hl => ?_)
        refine lv_goto (tgt := 25) hx hb dX1_settleLine_47 (by decide) ?_
        exact ih x1 x4_8 (upd nw x4.toNatClampNeg (kp x4.toNatClampNeg)) qd H locs hP hD hS ls (lv_sub hl [1, 2, 3, 0] rfl) hw
  unfold wX1_settleLine_b at hw
  suffices main : ∀ (H : Heap) (locs : List Loc), va_P D vwCl (xW g k nw kp qu qd ql) H → va_D A (xW g k nw kp qu qd ql) → va_S A s.heap H locs → W p l e rmX1_settleLine_b s m args below meth c H locs 0 0 Q (F0 m 0 ls []) from main _ _ hP hD hS
  intro H locs hP hD hS
  refine lv_iload_n hx hb dX1_settleLine_0 rfl (lv_at hl 1 rfl) ?_
  refine lv_if_lt (tgt := 11) hx hb dX1_settleLine_1 (by decide) (fun c_1 => ?_) (fun c_1 => ?_)
  · have hw := hw.1 c_1
    exact hret _ _ (nw, qd) _ _ hP hD hS dX1_settleLine_11 hw
  · have hw := hw.2 c_1
    refine lv_iload_n hx hb dX1_settleLine_4 rfl (lv_at hl 1 rfl) ?_
    refine lv_sipush (v := 512) hx hb dX1_settleLine_5 (by decide) ?_
    refine lv_icmp_lt (tgt := 12) hx hb dX1_settleLine_8 (by decide) (fun c_2 => ?_) (fun c_2 => ?_)
    · have hw := hw.1 c_2
      refine lv_aload_n hx hb dX1_settleLine_12 rfl (lv_at hl 0 rfl) ?_
      refine va_get (D := D) (ci := 1) (v := .ref (g 6)) (C := RX1) (T := TX1) (N := 5) hx hb hts hinX1 hown hK hP 0 rfl rfl 3 (by decide) (hts (.fieldLink RX1 21 "SlabHeap$Words" "queued" "[Z") (by decide +kernel)) (fun _ h9 => h9) rfl dX1_settleLine_13 ?_
      refine lv_iload_n hx hb dX1_settleLine_16 rfl (lv_at hl 1 rfl) ?_
      refine lv_iconst (v := 0) hx hb dX1_settleLine_17 (by decide) ?_
      obtain ⟨h_3, hw⟩ := hw
      refine va_zast hx hb hK hP hD hS 4 1 rfl rfl h_3 dX1_settleLine_18 (fun H locs hP hD hS => ?_)
      have hP : va_P D vwCl (xW g k nw kp qu (upd qd x1.toNatClampNeg (vp_nar .boolean 0)) ql) H := hP
      have hD : va_D A (xW g k nw kp qu (upd qd x1.toNatClampNeg (vp_nar .boolean 0)) ql) := hD
      refine lv_iload_n hx hb dX1_settleLine_19 rfl (lv_at hl 1 rfl) ?_
      refine lv_bipush (v := 8) hx hb dX1_settleLine_20 (by decide) ?_
      refine lv_imul hx hb dX1_settleLine_22 ?_
      refine lv_topi (fun x4_4 ex4_4 => ?_)
      have hw := hw x4_4 ex4_4
      refine lv_istore (lv' := [(4, .int x4_4), (0, .ref (g 2)), (1, .int x1), (2, .ref (g 4)), (3, .ref (g 3))]) hx hb dX1_settleLine_23 hl (by decide) rfl (fun ls hl => ?_)
      obtain ⟨fu_9, hw⟩ := hw
      exact B25  fu_9 x1 x4_4 nw (upd qd x1.toNatClampNeg (vp_nar .boolean 0)) H locs hP hD hS ls (lv_sub hl [2, 3, 4, 0] rfl) hw
    · have hw := hw.2 c_2
      exact hret _ _ (nw, qd) _ _ hP hD hS dX1_settleLine_11 hw
-- X1_keepSome
abbrev rmX1_keepSome : Room := { frames := 1, cells := 0, slots := 0, locals := 24 }
set_option maxHeartbeats 4000000 in
set_option maxRecDepth 100000 in
theorem c_X1_keepSome (l : Launch) (D : va_G) (g : Nat → Nat) (k : xC) (nw : Nat → Int32) (kp : Nat → Int32) (qu : Nat → Int32) (qd : Nat → Int32) (ql : Int32) (x1 : Int32) (post : (Nat → Int32) → (Nat → Int32) → (Nat → Int32) → Int32 → Prop) (hw : wX1_keepSome post nw kp qu qd ql x1) : CMv l yX1_keepSome wsX1_keepSome rmX1_keepSome D k [.ref (g 2), .int x1] (fun v : (Nat → Int32) × (Nat → Int32) × (Nat → Int32) × Int32 => (xW g k (v.1) (v.2.1) qu (v.2.2.1) (v.2.2.2))) (nw, kp, qd, ql) (fun v => post (v.1) (v.2.1) (v.2.2.1) (v.2.2.2)) := by
  refine met_mv (cc := cX1_keepSome) (nL := 4) (by decide) rfl (Nat.le_of_ble_eq_true rfl) ?_
  intro p e s m args below meth c Q A ls hC hP hD hA hK hZ hS hl hret
  obtain ⟨hx, hb, hml, hown, hts⟩ := id hC
  have hC : CallFix p m c cX1_keepSome 4 s args wsX1_keepSome RX1 := hC
  have hown : s.vm.findClass RX1 = some m.cls := hown
  have hl : lv_has ls 4 [(0, .ref (g 2)), (1, .int x1)] := hl
  have hP : va_P D vwCl (xW g k nw kp qu qd ql) s.heap := hP
  have hD : va_D A (xW g k nw kp qu qd ql) := hD
  have hinX1 : ∀ w ∈ wsX10, w ∈ wsX1_keepSome := fun _ h => List.mem_cons_of_mem _ (List.mem_append_right _ h)
  have B27 : ∀ (J2 : Int32 → Int32 → (Nat → Int32) → (Nat → Int32) → (Nat → Int32) → Int32 → Prop) (hJ2 : ∀ (x1 : Int32), ∀ (x2 : Int32), ∀ (nw : Nat → Int32), ∀ (kp : Nat → Int32), ∀ (qd : Nat → Int32), ∀ (ql : Int32), ∀ (H : Heap) (locs : List Loc), va_P D vwCl (xW g k nw kp qu qd ql) H → va_D A (xW g k nw kp qu qd ql) → va_S A s.heap H locs → ∀ (ls : Array Slot), lv_has ls 4 [(0, .ref (g 2)), (1, .int x1), (2, .int x2)] → J2 x1 x2 nw kp qd ql → W p l e rmX1_keepSome s m args below meth c H locs 0 0 Q (F0 m 2 ls [])) , ∀ (x1 : Int32), ∀ (x2 : Int32), ∀ (z0 : Int32), ∀ (nw : Nat → Int32), ∀ (kp : Nat → Int32), ∀ (qd : Nat → Int32), ∀ (ql : Int32), ∀ (H : Heap) (locs : List Loc), va_P D vwCl (xW g k nw kp qu qd ql) H → va_D A (xW g k nw kp qu qd ql) → va_S A s.heap H locs → ∀ (ls : Array Slot), lv_has ls 4 [(0, .ref (g 2)), (1, .int x1), (2, .int x2)] → wX1_keepSome_27 post qu J2 x1 x2 z0 nw kp qd ql → W p l e rmX1_keepSome s m args below meth c H locs 0 0 Q (F0 m 27 ls [.int z0]) := by
    intro J2 hJ2 x1 x2 z0 nw kp qd ql H locs hP hD hS ls hl hw
    unfold wX1_keepSome_27 at hw
    refine lv_istore_n (lv' := [(3, .int z0), (0, .ref (g 2)), (1, .int x1), (2, .int x2)]) hx hb dX1_keepSome_27 rfl hl (by decide) rfl (fun ls hl => ?_)
    refine lv_aload_n hx hb dX1_keepSome_28 rfl (lv_at hl 1 rfl) ?_
    refine lv_aload_n hx hb dX1_keepSome_29 rfl (lv_at hl 1 rfl) ?_
    refine lv_iload_n hx hb dX1_keepSome_30 rfl (lv_at hl 3 rfl) ?_
    refine pcall (va_runV (As := [.int x2]) (rest := [.ref (g 2)]) hC (c_X1_lineAt l D g k nw kp qu qd ql x2 _ hw H) (cwV 1 hts gX1_keepSome_X1_lineAt rfl rfl rfl (by decide +kernel) ⟨Nat.le_of_ble_eq_true rfl, Nat.le_of_ble_eq_true rfl⟩) (preV_p (va_recv hK hP (ci := 1) (q0 := 0) rfl rfl) hP hK hZ hS) rfl rfl hl.1 rfl (lv_room (Nat.le_of_ble_eq_true rfl)) dX1_keepSome_31 ⟨Nat.le_of_ble_eq_true rfl, Nat.le_of_ble_eq_true rfl⟩) (fun r_3 hw => ?_)
    refine lv_iload_n hx hb dX1_keepSome_34 rfl (lv_at hl 0 rfl) ?_
    refine lv_if_eq (tgt := 45) hx hb dX1_keepSome_35 (by decide) (fun c_4 => ?_) (fun c_4 => ?_)
    · have hw := hw.1 c_4
      refine lv_aload_n hx hb dX1_keepSome_45 rfl (lv_at hl 1 rfl) ?_
      refine va_get (D := D) (ci := 1) (v := .ref (g 4)) (C := RX1) (T := TX1) (N := 5) hx hb hts hinX1 hown hK hP 0 rfl rfl 1 (by decide) (hts (.fieldLink RX1 15 "SlabHeap$Words" "kept" "[I") (by decide +kernel)) (fun _ h9 => h9) rfl dX1_keepSome_46 ?_
      refine lv_iload_n hx hb dX1_keepSome_49 rfl (lv_at hl 0 rfl) ?_
      refine lv_if_eq (tgt := 60) hx hb dX1_keepSome_50 (by decide) (fun c_5 => ?_) (fun c_5 => ?_)
      · refine lv_aload_n hx hb dX1_keepSome_60 rfl (lv_at hl 1 rfl) ?_
        refine va_get (D := D) (ci := 1) (v := .ref (g 3)) (C := RX1) (T := TX1) (N := 5) hx hb hts hinX1 hown hK hP 0 rfl rfl 0 (by decide) (hts (.fieldLink RX1 9 "SlabHeap$Words" "now" "[I") (by decide +kernel)) (fun _ h9 => h9) rfl dX1_keepSome_61 ?_
        refine vcall (wr := []) (va_runV (As := [.int r_3, .ref (g 4), .ref (g 3)]) (rest := []) hC (c_X1_settleLine_b l D g k nw kp qu qd ql r_3 _ hw H.size) (cwV 3 hts gX1_keepSome_X1_settleLine rfl rfl rfl (by decide +kernel) ⟨Nat.le_of_ble_eq_true rfl, Nat.le_of_ble_eq_true rfl⟩) (preV_m (va_recv hK hP (ci := 1) (q0 := 0) rfl rfl) hP hD hA hK hZ hS [0, 1, 2, 3, 4] rfl rfl (by decide)) rfl rfl hl.1 rfl (lv_room (Nat.le_of_ble_eq_true rfl)) dX1_keepSome_64 ⟨Nat.le_of_ble_eq_true rfl, Nat.le_of_ble_eq_true rfl⟩) hP hD hA hS [0, 1, 2, 3, 4] [] rfl rfl (by decide) (by decide) (fun u' H locs hw hP hD hS => ?_)
        obtain ⟨nw_6, qd_7⟩ := u'
        try dsimp only at hw
        have hP : va_P D vwCl (xW g k nw_6 kp qu qd_7 ql) H := hP
        have hD : va_D A (xW g k nw_6 kp qu qd_7 ql) := hD
        obtain ⟨x2_8, ex2_8⟩ : ∃ y : Int32, y = x2 + 1 := ⟨_, rfl⟩
        have hw := hw x2_8 ex2_8
        refine lv_iinc (v := x2_8) (lv' := [(2, .int x2_8), (3, .int z0), (0, .ref (g 2)), (1, .int x1)]) hx hb dX1_keepSome_67 hl (k := 3) rfl (by rw [ex2_8]; rfl) (by decide) rfl (fun ls hl => ?_)
        refine lv_goto (tgt := 2) hx hb dX1_keepSome_70 (by decide) ?_
        exact hJ2 x1 x2_8 nw_6 kp qd_7 ql H locs hP hD hS ls (lv_sub hl [2, 3, 0] rfl) hw
      · exact absurd c_4 c_5
    · have hw := hw.2 c_4
      refine lv_aload_n hx hb dX1_keepSome_38 rfl (lv_at hl 1 rfl) ?_
      refine va_get (D := D) (ci := 1) (v := .ref (g 3)) (C := RX1) (T := TX1) (N := 5) hx hb hts hinX1 hown hK hP 0 rfl rfl 0 (by decide) (hts (.fieldLink RX1 9 "SlabHeap$Words" "now" "[I") (by decide +kernel)) (fun _ h9 => h9) rfl dX1_keepSome_39 ?_
      refine lv_goto (tgt := 49) hx hb dX1_keepSome_42 (by decide) ?_
      refine lv_iload_n hx hb dX1_keepSome_49 rfl (lv_at hl 0 rfl) ?_
      refine lv_if_eq (tgt := 60) hx hb dX1_keepSome_50 (by decide) (fun c_9 => ?_) (fun c_9 => ?_)
      · exact absurd c_9 c_4
      · refine lv_aload_n hx hb dX1_keepSome_53 rfl (lv_at hl 1 rfl) ?_
        refine va_get (D := D) (ci := 1) (v := .ref (g 4)) (C := RX1) (T := TX1) (N := 5) hx hb hts hinX1 hown hK hP 0 rfl rfl 1 (by decide) (hts (.fieldLink RX1 15 "SlabHeap$Words" "kept" "[I") (by decide +kernel)) (fun _ h9 => h9) rfl dX1_keepSome_54 ?_
        refine lv_goto (tgt := 64) hx hb dX1_keepSome_57 (by decide) ?_
        refine vcall (wr := []) (va_runV (As := [.int r_3, .ref (g 3), .ref (g 4)]) (rest := []) hC (c_X1_settleLine_a l D g k nw kp qu qd ql r_3 _ hw H.size) (cwV 3 hts gX1_keepSome_X1_settleLine rfl rfl rfl (by decide +kernel) ⟨Nat.le_of_ble_eq_true rfl, Nat.le_of_ble_eq_true rfl⟩) (preV_m (va_recv hK hP (ci := 1) (q0 := 0) rfl rfl) hP hD hA hK hZ hS [0, 1, 2, 3, 4] rfl rfl (by decide)) rfl rfl hl.1 rfl (lv_room (Nat.le_of_ble_eq_true rfl)) dX1_keepSome_64 ⟨Nat.le_of_ble_eq_true rfl, Nat.le_of_ble_eq_true rfl⟩) hP hD hA hS [0, 1, 2, 3, 4] [] rfl rfl (by decide) (by decide) (fun u' H locs hw hP hD hS => ?_)
        obtain ⟨kp_10, qd_11⟩ := u'
        try dsimp only at hw
        have hP : va_P D vwCl (xW g k nw kp_10 qu qd_11 ql) H := hP
        have hD : va_D A (xW g k nw kp_10 qu qd_11 ql) := hD
        obtain ⟨x2_12, ex2_12⟩ : ∃ y : Int32, y = x2 + 1 := ⟨_, rfl⟩
        have hw := hw x2_12 ex2_12
        refine lv_iinc (v := x2_12) (lv' := [(2, .int x2_12), (3, .int z0), (0, .ref (g 2)), (1, .int x1)]) hx hb dX1_keepSome_67 hl (k := 3) rfl (by rw [ex2_12]; rfl) (by decide) rfl (fun ls hl => ?_)
        refine lv_goto (tgt := 2) hx hb dX1_keepSome_70 (by decide) ?_
        exact hJ2 x1 x2_12 nw kp_10 qd_11 ql H locs hP hD hS ls (lv_sub hl [2, 3, 0] rfl) hw
  have B2 : ∀ (fu : Nat), ∀ (x1 : Int32), ∀ (x2 : Int32), ∀ (nw : Nat → Int32), ∀ (kp : Nat → Int32), ∀ (qd : Nat → Int32), ∀ (ql : Int32), ∀ (H : Heap) (locs : List Loc), va_P D vwCl (xW g k nw kp qu qd ql) H → va_D A (xW g k nw kp qu qd ql) → va_S A s.heap H locs → ∀ (ls : Array Slot), lv_has ls 4 [(0, .ref (g 2)), (1, .int x1), (2, .int x2)] → wX1_keepSome_2 post qu fu x1 x2 nw kp qd ql → W p l e rmX1_keepSome s m args below meth c H locs 0 0 Q (F0 m 2 ls []) := by
    intro  fu
    induction fu with
    | zero =>
      intro x1 x2 nw kp qd ql H locs hP hD hS ls hl hw
      exact absurd hw (by unfold wX1_keepSome_2; exact fun q => q)
    | succ n ih =>
      intro x1 x2 nw kp qd ql H locs hP hD hS ls hl hw
      unfold wX1_keepSome_2 at hw
      refine lv_iload_n hx hb dX1_keepSome_2 rfl (lv_at hl 2 rfl) ?_
      refine lv_aload_n hx hb dX1_keepSome_3 rfl (lv_at hl 0 rfl) ?_
      refine va_get (D := D) (ci := 1) (v := .int ql) (C := RX1) (T := TX1) (N := 5) hx hb hts hinX1 hown hK hP 0 rfl rfl 4 (by decide) (hts (.fieldLink RX1 25 "SlabHeap$Words" "queueLength" "I") (by decide +kernel)) (fun _ h9 => h9) rfl dX1_keepSome_4 ?_
      refine lv_icmp_ge (tgt := 73) hx hb dX1_keepSome_7 (by decide) (fun c_1 => ?_) (fun c_1 => ?_)
      · have hw := hw.1 c_1
        refine lv_aload_n hx hb dX1_keepSome_73 rfl (lv_at hl 0 rfl) ?_
        refine lv_iconst (v := 0) hx hb dX1_keepSome_74 (by decide) ?_
        refine va_put (D := D) (ci := 1) (v := .int 0) (ty := .int) (C := RX1) (T := TX1) (N := 5) hx hb hts hinX1 tyX1 tyX1_ok nmX1 hown hK hP hD hS 0 rfl rfl 4 (by decide) (hts (.fieldLink RX1 25 "SlabHeap$Words" "queueLength" "I") (by decide +kernel)) (fun _ h9 => h9) rfl (by decide +kernel) rfl rfl (Nat.le_of_ble_eq_true rfl) dX1_keepSome_75 (fun H locs hP hD hS => ?_)
        have hP : va_P D vwCl (xW g k nw kp qu qd 0) H := hP
        have hD : va_D A (xW g k nw kp qu qd 0) := hD
        exact hret _ _ (nw, kp, qd, 0) _ _ hP hD hS dX1_keepSome_78 hw
      · have hw := hw.2 c_1
        refine lv_iload_n hx hb dX1_keepSome_10 rfl (lv_at hl 1 rfl) ?_
        refine lv_iload_n hx hb dX1_keepSome_11 rfl (lv_at hl 2 rfl) ?_
        refine lv_bipush (v := 32) hx hb dX1_keepSome_12 (by decide) ?_
        refine lv_irem hx hb dX1_keepSome_14 (by decide) ?_
        refine lv_iushr (v := (x1.toUInt32 >>> ((x2 - x2 / 32 * 32).toUInt32 &&& Int32.toUInt32 31)).toInt32) hx hb dX1_keepSome_15 rfl ?_
        refine lv_iconst (v := 1) hx hb dX1_keepSome_16 (by decide) ?_
        refine lv_iand hx hb dX1_keepSome_17 ?_
        refine lv_iconst (v := 1) hx hb dX1_keepSome_18 (by decide) ?_
        refine lv_icmp_ne (tgt := 26) hx hb dX1_keepSome_19 (by decide) (fun c_2 => ?_) (fun c_2 => ?_)
        · have hw := hw.1 c_2
          refine lv_iconst (v := 0) hx hb dX1_keepSome_26 (by decide) ?_
          exact B27 (wX1_keepSome_2 post qu n) ih x1 x2 0 nw kp qd ql H locs hP hD hS ls (lv_sub hl [0, 1, 2] rfl) hw
        · have hw := hw.2 c_2
          refine lv_iconst (v := 1) hx hb dX1_keepSome_22 (by decide) ?_
          refine lv_goto (tgt := 27) hx hb dX1_keepSome_23 (by decide) ?_
          exact B27 (wX1_keepSome_2 post qu n) ih x1 x2 1 nw kp qd ql H locs hP hD hS ls (lv_sub hl [0, 1, 2] rfl) hw
  unfold wX1_keepSome at hw
  suffices main : ∀ (H : Heap) (locs : List Loc), va_P D vwCl (xW g k nw kp qu qd ql) H → va_D A (xW g k nw kp qu qd ql) → va_S A s.heap H locs → W p l e rmX1_keepSome s m args below meth c H locs 0 0 Q (F0 m 0 ls []) from main _ _ hP hD hS
  intro H locs hP hD hS
  refine lv_iconst (v := 0) hx hb dX1_keepSome_0 (by decide) ?_
  refine lv_istore_n (lv' := [(2, .int 0), (0, .ref (g 2)), (1, .int x1)]) hx hb dX1_keepSome_1 rfl hl (by decide) rfl (fun ls hl => ?_)
  obtain ⟨fu_13, hw⟩ := hw
  exact B2  fu_13 x1 0 nw kp qd ql H locs hP hD hS ls (lv_sub hl [1, 2, 0] rfl) hw
-- X1_keepAll
abbrev rmX1_keepAll : Room := { frames := 2, cells := 0, slots := 0, locals := 47 }
set_option maxHeartbeats 4000000 in
set_option maxRecDepth 100000 in
theorem c_X1_keepAll (l : Launch) (D : va_G) (g : Nat → Nat) (k : xC) (nw : Nat → Int32) (kp : Nat → Int32) (qu : Nat → Int32) (qd : Nat → Int32) (ql : Int32)  (post : Int32 → (Nat → Int32) → (Nat → Int32) → (Nat → Int32) → Int32 → Prop) (hw : wX1_keepAll post nw kp qu qd ql) : CMi l yX1_keepAll wsX1_keepAll rmX1_keepAll D k [.ref (g 2)] (fun v : (Nat → Int32) × (Nat → Int32) × (Nat → Int32) × Int32 => (xW g k (v.1) (v.2.1) qu (v.2.2.1) (v.2.2.2))) (nw, kp, qd, ql) (fun r v => post r (v.1) (v.2.1) (v.2.2.1) (v.2.2.2)) := by
  refine met_mi (cc := cX1_keepAll) (nL := 2) (by decide) rfl (Nat.le_of_ble_eq_true rfl) ?_
  intro p e s m args below meth c Q A ls hC hP hD hA hK hZ hS hl hret
  obtain ⟨hx, hb, hml, hown, hts⟩ := id hC
  have hC : CallFix p m c cX1_keepAll 2 s args wsX1_keepAll RX1 := hC
  have hown : s.vm.findClass RX1 = some m.cls := hown
  have hl : lv_has ls 2 [(0, .ref (g 2))] := hl
  have hP : va_P D vwCl (xW g k nw kp qu qd ql) s.heap := hP
  have hD : va_D A (xW g k nw kp qu qd ql) := hD
  have hinX1 : ∀ w ∈ wsX10, w ∈ wsX1_keepAll := fun _ h => List.mem_cons_of_mem _ (List.mem_append_right _ h)
  unfold wX1_keepAll at hw
  suffices main : ∀ (H : Heap) (locs : List Loc), va_P D vwCl (xW g k nw kp qu qd ql) H → va_D A (xW g k nw kp qu qd ql) → va_S A s.heap H locs → W p l e rmX1_keepAll s m args below meth c H locs 0 0 Q (F0 m 0 ls []) from main _ _ hP hD hS
  intro H locs hP hD hS
  refine lv_aload_n hx hb dX1_keepAll_0 rfl (lv_at hl 0 rfl) ?_
  refine va_get (D := D) (ci := 1) (v := .int ql) (C := RX1) (T := TX1) (N := 5) hx hb hts hinX1 hown hK hP 0 rfl rfl 4 (by decide) (hts (.fieldLink RX1 25 "SlabHeap$Words" "queueLength" "I") (by decide +kernel)) (fun _ h9 => h9) rfl dX1_keepAll_1 ?_
  refine lv_istore_n (lv' := [(1, .int ql), (0, .ref (g 2))]) hx hb dX1_keepAll_4 rfl hl (by decide) rfl (fun ls hl => ?_)
  refine lv_aload_n hx hb dX1_keepAll_5 rfl (lv_at hl 1 rfl) ?_
  refine lv_iconst (v := (-1)) hx hb dX1_keepAll_6 (by decide) ?_
  refine vcall (wr := []) (va_runV (As := [.int (-1)]) (rest := []) hC (c_X1_keepSome l D g k nw kp qu qd ql (-1) _ hw H.size) (cwV 1 hts gX1_keepAll_X1_keepSome rfl rfl rfl (by decide +kernel) ⟨Nat.le_of_ble_eq_true rfl, Nat.le_of_ble_eq_true rfl⟩) (preV_m (va_recv hK hP (ci := 1) (q0 := 0) rfl rfl) hP hD hA hK hZ hS [0, 1, 2, 3, 4] rfl rfl (by decide)) rfl rfl hl.1 rfl (lv_room (Nat.le_of_ble_eq_true rfl)) dX1_keepAll_7 ⟨Nat.le_of_ble_eq_true rfl, Nat.le_of_ble_eq_true rfl⟩) hP hD hA hS [0, 1, 2, 3, 4] [] rfl rfl (by decide) (by decide) (fun u' H locs hw hP hD hS => ?_)
  obtain ⟨nw_1, kp_2, qd_3, ql_4⟩ := u'
  try dsimp only at hw
  have hP : va_P D vwCl (xW g k nw_1 kp_2 qu qd_3 ql_4) H := hP
  have hD : va_D A (xW g k nw_1 kp_2 qu qd_3 ql_4) := hD
  refine lv_iload_n hx hb dX1_keepAll_10 rfl (lv_at hl 0 rfl) ?_
  exact hret _ _ _ (nw_1, kp_2, qd_3, ql_4) _ _ hP hD hS dX1_keepAll_11 hw
