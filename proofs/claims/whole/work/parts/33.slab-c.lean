-- X2_collect
abbrev rmX2_collect : Room := { frames := 6, cells := 0, slots := 0, locals := 134 }
set_option maxHeartbeats 4000000 in
set_option maxRecDepth 100000 in
theorem c_X2_collect (l : Launch) (D : va_G) (g : Nat → Nat) (k : xC) (fd : Int32) (cd : Int32) (cr : Int32) (tr : Int32) (ro : Nat → Int32) (nw : Nat → Int32) (kp : Nat → Int32) (qu : Nat → Int32) (qd : Nat → Int32) (ql : Int32) (kd : Nat → Int32) (fm : Nat → Int32) (tk : Nat → Int32) (mr : Nat → Int32)  (post : Int32 → Int32 → (Nat → Int32) → (Nat → Int32) → (Nat → Int32) → (Nat → Int32) → Int32 → (Nat → Int32) → (Nat → Int32) → (Nat → Int32) → (Nat → Int32) → Prop) (hw : wX2_collect post fd ro nw qu qd ql kd fm tk mr) : CMi l yX2_collect wsX2_collect rmX2_collect D k [.ref (g 0)] (fun v : Int32 × (Nat → Int32) × (Nat → Int32) × (Nat → Int32) × (Nat → Int32) × Int32 × (Nat → Int32) × (Nat → Int32) × (Nat → Int32) × (Nat → Int32) => (xS g k (v.1) cd cr tr (v.2.1) (v.2.2.1) kp (v.2.2.2.1) (v.2.2.2.2.1) (v.2.2.2.2.2.1) (v.2.2.2.2.2.2.1) (v.2.2.2.2.2.2.2.1) (v.2.2.2.2.2.2.2.2.1) (v.2.2.2.2.2.2.2.2.2))) (fd, ro, nw, qu, qd, ql, kd, fm, tk, mr) (fun r v => post r (v.1) (v.2.1) (v.2.2.1) (v.2.2.2.1) (v.2.2.2.2.1) (v.2.2.2.2.2.1) (v.2.2.2.2.2.2.1) (v.2.2.2.2.2.2.2.1) (v.2.2.2.2.2.2.2.2.1) (v.2.2.2.2.2.2.2.2.2)) := by
  refine met_mi (cc := cX2_collect) (nL := 5) (by decide) rfl (Nat.le_of_ble_eq_true rfl) ?_
  intro p e s m args below meth c Q A ls hC hP hD hA hK hZ hS hl hret
  obtain ⟨hx, hb, hml, hown, hts⟩ := id hC
  have hC : CallFix p m c cX2_collect 5 s args wsX2_collect RX2 := hC
  have hown : s.vm.findClass RX2 = some m.cls := hown
  have hl : lv_has ls 5 [(0, .ref (g 0))] := hl
  have hP : va_P D vwCl (xS g k fd cd cr tr ro nw kp qu qd ql kd fm tk mr) s.heap := hP
  have hD : va_D A (xS g k fd cd cr tr ro nw kp qu qd ql kd fm tk mr) := hD
  have hinX2 : ∀ w ∈ wsX20, w ∈ wsX2_collect := fun _ h => List.mem_cons_of_mem _ (List.mem_append_left _ (List.mem_append_left _ (List.mem_append_right _ h)))
  have B13 : ∀ (fu : Nat), ∀ (x1 : Int32), ∀ (x2 : Int32), ∀ (x3 : Int32), ∀ (fd : Int32), ∀ (ro : Nat → Int32), ∀ (nw : Nat → Int32), ∀ (qu : Nat → Int32), ∀ (qd : Nat → Int32), ∀ (ql : Int32), ∀ (kd : Nat → Int32), ∀ (fm : Nat → Int32), ∀ (tk : Nat → Int32), ∀ (mr : Nat → Int32), ∀ (H : Heap) (locs : List Loc), va_P D vwCl (xS g k fd cd cr tr ro nw kp qu qd ql kd fm tk mr) H → va_D A (xS g k fd cd cr tr ro nw kp qu qd ql kd fm tk mr) → va_S A s.heap H locs → ∀ (ls : Array Slot), lv_has ls 5 [(0, .ref (g 0)), (1, .int x1), (2, .int x2), (3, .int x3)] → wX2_collect_13 post fu x1 x2 x3 fd ro nw qu qd ql kd fm tk mr → W p l e rmX2_collect s m args below meth c H locs 0 0 Q (F0 m 13 ls []) := by
    intro  fu
    induction fu with
    | zero =>
      intro x1 x2 x3 fd ro nw qu qd ql kd fm tk mr H locs hP hD hS ls hl hw
      exact absurd hw (by unfold wX2_collect_13; exact fun q => q)
    | succ n ih =>
      intro x1 x2 x3 fd ro nw qu qd ql kd fm tk mr H locs hP hD hS ls hl hw
      unfold wX2_collect_13 at hw
      refine lv_iload_n hx hb dX2_collect_13 rfl (lv_at hl 3 rfl) ?_
      refine lv_iload_n hx hb dX2_collect_14 rfl (lv_at hl 1 rfl) ?_
      refine lv_icmp_ge (tgt := 52) hx hb dX2_collect_15 (by decide) (fun c_6 => ?_) (fun c_6 => ?_)
      · have hw := hw.1 c_6
        refine lv_iload_n hx hb dX2_collect_52 rfl (lv_at hl 2 rfl) ?_
        exact hret _ _ _ (fd, ro, nw, qu, qd, ql, kd, fm, tk, mr) _ _ hP hD hS dX2_collect_53 hw
      · have hw := hw.2 c_6
        refine lv_aload_n hx hb dX2_collect_18 rfl (lv_at hl 0 rfl) ?_
        refine lv_iload_n hx hb dX2_collect_19 rfl (lv_at hl 3 rfl) ?_
        refine pcall (va_runV (As := [.int x3]) (rest := []) hC (c_X2_rowAt l D g k fd cd cr tr ro nw kp qu qd ql kd fm tk mr x3 _ hw H) (cwV 1 hts gX2_collect_X2_rowAt rfl rfl rfl (by decide +kernel) ⟨Nat.le_of_ble_eq_true rfl, Nat.le_of_ble_eq_true rfl⟩) (preV_p (va_recv hK hP (ci := 2) (q0 := 0) rfl rfl) hP hK hZ hS) rfl rfl hl.1 rfl (lv_room (Nat.le_of_ble_eq_true rfl)) dX2_collect_20 ⟨Nat.le_of_ble_eq_true rfl, Nat.le_of_ble_eq_true rfl⟩) (fun r_7 hw => ?_)
        refine lv_istore (lv' := [(4, .int r_7), (0, .ref (g 0)), (1, .int x1), (2, .int x2), (3, .int x3)]) hx hb dX2_collect_23 hl (by decide) rfl (fun ls hl => ?_)
        refine lv_aload_n hx hb dX2_collect_25 rfl (lv_at hl 1 rfl) ?_
        refine va_get (D := D) (ci := 2) (v := .ref (g 7)) (C := RX2) (T := TX2) (N := 7) hx hb hts hinX2 hown hK hP 0 rfl rfl 1 (by decide) (hts (.fieldLink RX2 19 "SlabHeap" "pages" "LSlabHeap$Pages;") (by decide +kernel)) (fun _ h9 => h9) rfl dX2_collect_26 ?_
        refine lv_iload hx hb dX2_collect_29 (lv_at hl 0 rfl) ?_
        refine pcall (va_runV (As := [.int r_7]) (rest := []) hC (c_X0_isMarked l D g k kd fm tk mr r_7 _ hw H) (cwV 1 hts gX2_collect_X0_isMarked rfl rfl rfl (by decide +kernel) ⟨Nat.le_of_ble_eq_true rfl, Nat.le_of_ble_eq_true rfl⟩) (preV_p (va_recv hK hP (ci := 0) (q0 := 7) rfl rfl) (hP.sub [7, 8, 9, 10, 11] rfl) hK hZ hS) rfl rfl hl.1 rfl (lv_room (Nat.le_of_ble_eq_true rfl)) dX2_collect_31 ⟨Nat.le_of_ble_eq_true rfl, Nat.le_of_ble_eq_true rfl⟩) (fun r_8 hw => ?_)
        refine lv_if_ne (tgt := 46) hx hb dX2_collect_34 (by decide) (fun c_9 => ?_) (fun c_9 => ?_)
        · have hw := hw.1 c_9
          obtain ⟨x3_10, ex3_10⟩ : ∃ y : Int32, y = x3 + 1 := ⟨_, rfl⟩
          have hw := hw x3_10 ex3_10
          refine lv_iinc (v := x3_10) (lv' := [(3, .int x3_10), (4, .int r_7), (0, .ref (g 0)), (1, .int x1), (2, .int x2)]) hx hb dX2_collect_46 hl (k := 4) rfl (by rw [ex3_10]; rfl) (by decide) rfl (fun ls hl => ?_)
          refine lv_goto (tgt := 13) hx hb dX2_collect_49 (by decide) ?_
          exact ih x1 x2 x3_10 fd ro nw qu qd ql kd fm tk mr H locs hP hD hS ls (lv_sub hl [2, 3, 4, 0] rfl) hw
        · have hw := hw.2 c_9
          refine lv_aload_n hx hb dX2_collect_37 rfl (lv_at hl 1 rfl) ?_
          refine lv_iload hx hb dX2_collect_38 (lv_at hl 0 rfl) ?_
          refine vcall (wr := []) (va_runV (As := [.int r_7]) (rest := []) hC (c_X2_release l D g k fd cd cr tr ro nw kp qu qd ql kd fm tk mr r_7 _ hw H.size) (cwV 1 hts gX2_collect_X2_release rfl rfl rfl (by decide +kernel) ⟨Nat.le_of_ble_eq_true rfl, Nat.le_of_ble_eq_true rfl⟩) (preV_m (va_recv hK hP (ci := 2) (q0 := 0) rfl rfl) hP hD hA hK hZ hS [0, 1, 2, 3, 4, 5, 6, 7, 8, 9, 10, 11] rfl rfl (by decide)) rfl rfl hl.1 rfl (lv_room (Nat.le_of_ble_eq_true rfl)) dX2_collect_40 ⟨Nat.le_of_ble_eq_true rfl, Nat.le_of_ble_eq_true rfl⟩) hP hD hA hS [0, 1, 2, 3, 4, 5, 6, 7, 8, 9, 10, 11] [] rfl rfl (by decide) (by decide) (fun u' H locs hw hP hD hS => ?_)
          obtain ⟨nw_11, qu_12, qd_13, ql_14, kd_15, fm_16, tk_17⟩ := u'
          try dsimp only at hw
          have hP : va_P D vwCl (xS g k fd cd cr tr ro nw_11 kp qu_12 qd_13 ql_14 kd_15 fm_16 tk_17 mr) H := hP
          have hD : va_D A (xS g k fd cd cr tr ro nw_11 kp qu_12 qd_13 ql_14 kd_15 fm_16 tk_17 mr) := hD
          obtain ⟨x2_18, ex2_18⟩ : ∃ y : Int32, y = x2 + 1 := ⟨_, rfl⟩
          have hw := hw x2_18 ex2_18
          refine lv_iinc (v := x2_18) (lv' := [(2, .int x2_18), (4, .int r_7), (0, .ref (g 0)), (1, .int x1), (3, .int x3)]) hx hb dX2_collect_43 hl (k := 3) rfl (by rw [ex2_18]; rfl) (by decide) rfl (fun ls hl => ?_)
          obtain ⟨x3_19, ex3_19⟩ : ∃ y : Int32, y = x3 + 1 := ⟨_, rfl⟩
          have hw := hw x3_19 ex3_19
          refine lv_iinc (v := x3_19) (lv' := [(3, .int x3_19), (2, .int x2_18), (4, .int r_7), (0, .ref (g 0)), (1, .int x1)]) hx hb dX2_collect_46 hl (k := 4) rfl (by rw [ex3_19]; rfl) (by decide) rfl (fun ls hl => ?_)
          refine lv_goto (tgt := 13) hx hb dX2_collect_49 (by decide) ?_
          exact ih x1 x2_18 x3_19 fd ro nw_11 qu_12 qd_13 ql_14 kd_15 fm_16 tk_17 mr H locs hP hD hS ls (lv_sub hl [3, 4, 1, 0] rfl) hw
  unfold wX2_collect at hw
  suffices main : ∀ (H : Heap) (locs : List Loc), va_P D vwCl (xS g k fd cd cr tr ro nw kp qu qd ql kd fm tk mr) H → va_D A (xS g k fd cd cr tr ro nw kp qu qd ql kd fm tk mr) → va_S A s.heap H locs → W p l e rmX2_collect s m args below meth c H locs 0 0 Q (F0 m 0 ls []) from main _ _ hP hD hS
  intro H locs hP hD hS
  refine lv_aload_n hx hb dX2_collect_0 rfl (lv_at hl 0 rfl) ?_
  refine vcall (wr := []) (va_runV (As := []) (rest := []) hC (c_X2_markReached l D g k fd cd cr tr ro nw kp qu qd ql kd fm tk mr _ hw H.size) (cwV 0 hts gX2_collect_X2_markReached rfl rfl rfl (by decide +kernel) ⟨Nat.le_of_ble_eq_true rfl, Nat.le_of_ble_eq_true rfl⟩) (preV_m (va_recv hK hP (ci := 2) (q0 := 0) rfl rfl) hP hD hA hK hZ hS [0, 1, 2, 3, 4, 5, 6, 7, 8, 9, 10, 11] rfl rfl (by decide)) rfl rfl hl.1 rfl (lv_room (Nat.le_of_ble_eq_true rfl)) dX2_collect_1 ⟨Nat.le_of_ble_eq_true rfl, Nat.le_of_ble_eq_true rfl⟩) hP hD hA hS [0, 1, 2, 3, 4, 5, 6, 7, 8, 9, 10, 11] [] rfl rfl (by decide) (by decide) (fun u' H locs hw hP hD hS => ?_)
  obtain ⟨fd_1, ro_2, mr_3⟩ := u'
  try dsimp only at hw
  have hP : va_P D vwCl (xS g k fd_1 cd cr tr ro_2 nw kp qu qd ql kd fm tk mr_3) H := hP
  have hD : va_D A (xS g k fd_1 cd cr tr ro_2 nw kp qu qd ql kd fm tk mr_3) := hD
  refine lv_aload_n hx hb dX2_collect_4 rfl (lv_at hl 0 rfl) ?_
  refine icall (wr := []) (va_runV (As := []) (rest := []) hC (c_X2_listLive l D g k fd_1 cd cr tr ro_2 nw kp qu qd ql kd fm tk mr_3 _ hw H.size) (cwV 0 hts gX2_collect_X2_listLive rfl rfl rfl (by decide +kernel) ⟨Nat.le_of_ble_eq_true rfl, Nat.le_of_ble_eq_true rfl⟩) (preV_m (va_recv hK hP (ci := 2) (q0 := 0) rfl rfl) hP hD hA hK hZ hS [0, 1, 2, 3, 4, 5, 6, 7, 8, 9, 10, 11] rfl rfl (by decide)) rfl rfl hl.1 rfl (lv_room (Nat.le_of_ble_eq_true rfl)) dX2_collect_5 ⟨Nat.le_of_ble_eq_true rfl, Nat.le_of_ble_eq_true rfl⟩) hP hD hA hS [0, 1, 2, 3, 4, 5, 6, 7, 8, 9, 10, 11] [] rfl rfl (by decide) (by decide) (fun r_5 u' H locs hw hP hD hS => ?_)
  obtain ⟨ro_4, rfl⟩ : ∃ z, z = u' := ⟨_, rfl⟩
  try dsimp only at hw
  have hP : va_P D vwCl (xS g k fd_1 cd cr tr ro_4 nw kp qu qd ql kd fm tk mr_3) H := hP
  have hD : va_D A (xS g k fd_1 cd cr tr ro_4 nw kp qu qd ql kd fm tk mr_3) := hD
  refine lv_istore_n (lv' := [(1, .int r_5), (0, .ref (g 0))]) hx hb dX2_collect_8 rfl hl (by decide) rfl (fun ls hl => ?_)
  refine lv_iconst (v := 0) hx hb dX2_collect_9 (by decide) ?_
  refine lv_istore_n (lv' := [(2, .int 0), (1, .int r_5), (0, .ref (g 0))]) hx hb dX2_collect_10 rfl hl (by decide) rfl (fun ls hl => ?_)
  refine lv_iconst (v := 0) hx hb dX2_collect_11 (by decide) ?_
  refine lv_istore_n (lv' := [(3, .int 0), (2, .int 0), (1, .int r_5), (0, .ref (g 0))]) hx hb dX2_collect_12 rfl hl (by decide) rfl (fun ls hl => ?_)
  obtain ⟨fu_20, hw⟩ := hw
  exact B13  fu_20 r_5 0 0 fd_1 ro_4 nw qu qd ql kd fm tk mr_3 H locs hP hD hS ls (lv_sub hl [3, 2, 1, 0] rfl) hw
-- X2_word
abbrev rmX2_word : Room := { frames := 2, cells := 0, slots := 0, locals := 41 }
set_option maxHeartbeats 4000000 in
set_option maxRecDepth 100000 in
theorem c_X2_word (l : Launch) (D : va_G) (g : Nat → Nat) (k : xC) (fd : Int32) (cd : Int32) (cr : Int32) (tr : Int32) (ro : Nat → Int32) (nw : Nat → Int32) (kp : Nat → Int32) (qu : Nat → Int32) (qd : Nat → Int32) (ql : Int32) (kd : Nat → Int32) (fm : Nat → Int32) (tk : Nat → Int32) (mr : Nat → Int32) (x1 : Int32) (x2 : Int32) (post : Int32 → Prop) (hw : wX2_word post nw kp x1 x2) : CPi l yX2_word wsX2_word rmX2_word D k [.ref (g 0), .int x1, .int x2] (xS g k fd cd cr tr ro nw kp qu qd ql kd fm tk mr) post := by
  refine met_pi (cc := cX2_word) (nL := 3) (by decide) rfl (Nat.le_of_ble_eq_true rfl) ?_
  intro p e s m args below meth c Q ls hC hP hK hZ hS hl hret
  obtain ⟨hx, hb, hml, hown, hts⟩ := id hC
  have hC : CallFix p m c cX2_word 3 s args wsX2_word RX2 := hC
  have hown : s.vm.findClass RX2 = some m.cls := hown
  have hl : lv_has ls 3 [(0, .ref (g 0)), (1, .int x1), (2, .int x2)] := hl
  have hinX2 : ∀ w ∈ wsX20, w ∈ wsX2_word := fun _ h => List.mem_cons_of_mem _ (List.mem_append_left _ (List.mem_append_right _ h))
  unfold wX2_word at hw
  refine lv_iload_n hx hb dX2_word_0 rfl (lv_at hl 2 rfl) ?_
  refine lv_if_eq (tgt := 15) hx hb dX2_word_1 (by decide) (fun c_1 => ?_) (fun c_1 => ?_)
  · have hw := hw.1 c_1
    refine lv_aload_n hx hb dX2_word_15 rfl (lv_at hl 0 rfl) ?_
    refine va_get (D := D) (ci := 2) (v := .ref (g 2)) (C := RX2) (T := TX2) (N := 7) hx hb hts hinX2 hown hK hP 0 rfl rfl 0 (by decide) (hts (.fieldLink RX2 10 "SlabHeap" "words" "LSlabHeap$Words;") (by decide +kernel)) (fun _ h9 => h9) rfl dX2_word_16 ?_
    refine lv_iload_n hx hb dX2_word_19 rfl (lv_at hl 1 rfl) ?_
    refine pcall (va_runV (As := [.int x1]) (rest := []) hC (c_X1_at l D g k nw kp qu qd ql x1 _ hw s.heap) (cwV 1 hts gX2_word_X1_at rfl rfl rfl (by decide +kernel) ⟨Nat.le_of_ble_eq_true rfl, Nat.le_of_ble_eq_true rfl⟩) (preV_p (va_recv hK hP (ci := 1) (q0 := 2) rfl rfl) (hP.sub [2, 3, 4, 5, 6] rfl) hK hZ hS) rfl rfl hl.1 rfl (lv_room (Nat.le_of_ble_eq_true rfl)) dX2_word_20 ⟨Nat.le_of_ble_eq_true rfl, Nat.le_of_ble_eq_true rfl⟩) (fun r_2 hw => ?_)
    exact hret _ _ _ dX2_word_23 hw
  · have hw := hw.2 c_1
    refine lv_aload_n hx hb dX2_word_4 rfl (lv_at hl 0 rfl) ?_
    refine va_get (D := D) (ci := 2) (v := .ref (g 2)) (C := RX2) (T := TX2) (N := 7) hx hb hts hinX2 hown hK hP 0 rfl rfl 0 (by decide) (hts (.fieldLink RX2 10 "SlabHeap" "words" "LSlabHeap$Words;") (by decide +kernel)) (fun _ h9 => h9) rfl dX2_word_5 ?_
    refine lv_iload_n hx hb dX2_word_8 rfl (lv_at hl 1 rfl) ?_
    refine pcall (va_runV (As := [.int x1]) (rest := []) hC (c_X1_keptAt l D g k nw kp qu qd ql x1 _ hw s.heap) (cwV 1 hts gX2_word_X1_keptAt rfl rfl rfl (by decide +kernel) ⟨Nat.le_of_ble_eq_true rfl, Nat.le_of_ble_eq_true rfl⟩) (preV_p (va_recv hK hP (ci := 1) (q0 := 2) rfl rfl) (hP.sub [2, 3, 4, 5, 6] rfl) hK hZ hS) rfl rfl hl.1 rfl (lv_room (Nat.le_of_ble_eq_true rfl)) dX2_word_9 ⟨Nat.le_of_ble_eq_true rfl, Nat.le_of_ble_eq_true rfl⟩) (fun r_3 hw => ?_)
    refine lv_goto (tgt := 23) hx hb dX2_word_12 (by decide) ?_
    exact hret _ _ _ dX2_word_23 hw
-- X2_isOfBlock
abbrev rmX2_isOfBlock : Room := { frames := 4, cells := 0, slots := 0, locals := 83 }
set_option maxHeartbeats 4000000 in
set_option maxRecDepth 100000 in
theorem c_X2_isOfBlock (l : Launch) (D : va_G) (g : Nat → Nat) (k : xC) (fd : Int32) (cd : Int32) (cr : Int32) (tr : Int32) (ro : Nat → Int32) (nw : Nat → Int32) (kp : Nat → Int32) (qu : Nat → Int32) (qd : Nat → Int32) (ql : Int32) (kd : Nat → Int32) (fm : Nat → Int32) (tk : Nat → Int32) (mr : Nat → Int32) (x1 : Int32) (post : Int32 → Prop) (hw : wX2_isOfBlock post nw kd fm tk x1) : CPi l yX2_isOfBlock wsX2_isOfBlock rmX2_isOfBlock D k [.ref (g 0), .int x1] (xS g k fd cd cr tr ro nw kp qu qd ql kd fm tk mr) post := by
  refine met_pz (cc := cX2_isOfBlock) (nL := 3) (by decide) rfl (Nat.le_of_ble_eq_true rfl) ?_
  intro p e s m args below meth c Q ls hC hP hK hZ hS hl hret
  obtain ⟨hx, hb, hml, hown, hts⟩ := id hC
  have hC : CallFix p m c cX2_isOfBlock 3 s args wsX2_isOfBlock RX2 := hC
  have hown : s.vm.findClass RX2 = some m.cls := hown
  have hl : lv_has ls 3 [(0, .ref (g 0)), (1, .int x1)] := hl
  have hinX2 : ∀ w ∈ wsX20, w ∈ wsX2_isOfBlock := fun _ h => List.mem_cons_of_mem _ (List.mem_append_left _ (List.mem_append_left _ (List.mem_append_right _ h)))
  unfold wX2_isOfBlock at hw
  refine lv_aload_n hx hb dX2_isOfBlock_0 rfl (lv_at hl 0 rfl) ?_
  refine va_get (D := D) (ci := 2) (v := .ref (g 7)) (C := RX2) (T := TX2) (N := 7) hx hb hts hinX2 hown hK hP 0 rfl rfl 1 (by decide) (hts (.fieldLink RX2 19 "SlabHeap" "pages" "LSlabHeap$Pages;") (by decide +kernel)) (fun _ h9 => h9) rfl dX2_isOfBlock_1 ?_
  refine lv_iload_n hx hb dX2_isOfBlock_4 rfl (lv_at hl 1 rfl) ?_
  refine pcall (va_runV (As := [.int x1]) (rest := []) hC (c_X0_blockOver l D g k kd fm tk mr x1 _ hw s.heap) (cwV 1 hts gX2_isOfBlock_X0_blockOver rfl rfl rfl (by decide +kernel) ⟨Nat.le_of_ble_eq_true rfl, Nat.le_of_ble_eq_true rfl⟩) (preV_p (va_recv hK hP (ci := 0) (q0 := 7) rfl rfl) (hP.sub [7, 8, 9, 10, 11] rfl) hK hZ hS) rfl rfl hl.1 rfl (lv_room (Nat.le_of_ble_eq_true rfl)) dX2_isOfBlock_5 ⟨Nat.le_of_ble_eq_true rfl, Nat.le_of_ble_eq_true rfl⟩) (fun r_1 hw => ?_)
  refine lv_istore_n (lv' := [(2, .int r_1), (0, .ref (g 0)), (1, .int x1)]) hx hb dX2_isOfBlock_8 rfl hl (by decide) rfl (fun ls hl => ?_)
  refine lv_iload_n hx hb dX2_isOfBlock_9 rfl (lv_at hl 0 rfl) ?_
  refine lv_iconst (v := (-1)) hx hb dX2_isOfBlock_10 (by decide) ?_
  refine lv_icmp_eq (tgt := 29) hx hb dX2_isOfBlock_11 (by decide) (fun c_2 => ?_) (fun c_2 => ?_)
  · have hw := hw.1 c_2
    refine lv_iconst (v := 0) hx hb dX2_isOfBlock_29 (by decide) ?_
    exact hret _ _ _ dX2_isOfBlock_30 nb_0 hw
  · have hw := hw.2 c_2
    refine lv_iload_n hx hb dX2_isOfBlock_14 rfl (lv_at hl 2 rfl) ?_
    refine lv_iload_n hx hb dX2_isOfBlock_15 rfl (lv_at hl 0 rfl) ?_
    refine lv_isub hx hb dX2_isOfBlock_16 ?_
    refine lv_aload_n hx hb dX2_isOfBlock_17 rfl (lv_at hl 1 rfl) ?_
    refine lv_iload_n hx hb dX2_isOfBlock_18 rfl (lv_at hl 0 rfl) ?_
    refine pcall (va_runV (As := [.int r_1]) (rest := [.int (x1 - r_1)]) hC (c_X2_lengthOf l D g k fd cd cr tr ro nw kp qu qd ql kd fm tk mr r_1 _ hw s.heap) (cwV 1 hts gX2_isOfBlock_X2_lengthOf rfl rfl rfl (by decide +kernel) ⟨Nat.le_of_ble_eq_true rfl, Nat.le_of_ble_eq_true rfl⟩) (preV_p (va_recv hK hP (ci := 2) (q0 := 0) rfl rfl) hP hK hZ hS) rfl rfl hl.1 rfl (lv_room (Nat.le_of_ble_eq_true rfl)) dX2_isOfBlock_19 ⟨Nat.le_of_ble_eq_true rfl, Nat.le_of_ble_eq_true rfl⟩) (fun r_3 hw => ?_)
    refine lv_icmp_ge (tgt := 29) hx hb dX2_isOfBlock_22 (by decide) (fun c_4 => ?_) (fun c_4 => ?_)
    · have hw := hw.1 c_4
      refine lv_iconst (v := 0) hx hb dX2_isOfBlock_29 (by decide) ?_
      exact hret _ _ _ dX2_isOfBlock_30 nb_0 hw
    · have hw := hw.2 c_4
      refine lv_iconst (v := 1) hx hb dX2_isOfBlock_25 (by decide) ?_
      refine lv_goto (tgt := 30) hx hb dX2_isOfBlock_26 (by decide) ?_
      exact hret _ _ _ dX2_isOfBlock_30 nb_1 hw
-- X2_scribble
abbrev rmX2_scribble : Room := { frames := 5, cells := 0, slots := 0, locals := 105 }
set_option maxHeartbeats 4000000 in
set_option maxRecDepth 100000 in
theorem c_X2_scribble (l : Launch) (D : va_G) (g : Nat → Nat) (k : xC) (fd : Int32) (cd : Int32) (cr : Int32) (tr : Int32) (ro : Nat → Int32) (nw : Nat → Int32) (kp : Nat → Int32) (qu : Nat → Int32) (qd : Nat → Int32) (ql : Int32) (kd : Nat → Int32) (fm : Nat → Int32) (tk : Nat → Int32) (mr : Nat → Int32) (x1 : Int32) (x2 : Int32) (post : Int32 → Int32 → (Nat → Int32) → (Nat → Int32) → (Nat → Int32) → Int32 → Prop) (hw : wX2_scribble post tr nw qu qd ql kd fm tk x1 x2) : CMi l yX2_scribble wsX2_scribble rmX2_scribble D k [.ref (g 0), .int x1, .int x2] (fun v : Int32 × (Nat → Int32) × (Nat → Int32) × (Nat → Int32) × Int32 => (xS g k fd cd cr (v.1) ro (v.2.1) kp (v.2.2.1) (v.2.2.2.1) (v.2.2.2.2) kd fm tk mr)) (tr, nw, qu, qd, ql) (fun r v => post r (v.1) (v.2.1) (v.2.2.1) (v.2.2.2.1) (v.2.2.2.2)) := by
  refine met_mz (cc := cX2_scribble) (nL := 3) (by decide) rfl (Nat.le_of_ble_eq_true rfl) ?_
  intro p e s m args below meth c Q A ls hC hP hD hA hK hZ hS hl hret
  obtain ⟨hx, hb, hml, hown, hts⟩ := id hC
  have hC : CallFix p m c cX2_scribble 3 s args wsX2_scribble RX2 := hC
  have hown : s.vm.findClass RX2 = some m.cls := hown
  have hl : lv_has ls 3 [(0, .ref (g 0)), (1, .int x1), (2, .int x2)] := hl
  have hP : va_P D vwCl (xS g k fd cd cr tr ro nw kp qu qd ql kd fm tk mr) s.heap := hP
  have hD : va_D A (xS g k fd cd cr tr ro nw kp qu qd ql kd fm tk mr) := hD
  have hinX2 : ∀ w ∈ wsX20, w ∈ wsX2_scribble := fun _ h => List.mem_cons_of_mem _ (List.mem_append_left _ (List.mem_append_left _ (List.mem_append_right _ h)))
  have B13 : ∀ (tr : Int32), ∀ (nw : Nat → Int32), ∀ (qu : Nat → Int32), ∀ (qd : Nat → Int32), ∀ (ql : Int32), ∀ (H : Heap) (locs : List Loc), va_P D vwCl (xS g k fd cd cr tr ro nw kp qu qd ql kd fm tk mr) H → va_D A (xS g k fd cd cr tr ro nw kp qu qd ql kd fm tk mr) → va_S A s.heap H locs → ∀ (ls : Array Slot), lv_has ls 3 [(0, .ref (g 0))] → wX2_scribble_13 post kd fm tk tr nw qu qd ql → W p l e rmX2_scribble s m args below meth c H locs 0 0 Q (F0 m 13 ls []) := by
    intro  tr nw qu qd ql H locs hP hD hS ls hl hw
    unfold wX2_scribble_13 at hw
    refine lv_aload_n hx hb dX2_scribble_13 rfl (lv_at hl 0 rfl) ?_
    refine lv_iconst (v := 3) hx hb dX2_scribble_14 (by decide) ?_
    refine icall (wr := []) (va_runV (As := [.int 3]) (rest := []) hC (c_X2_settle l D g k fd cd cr tr ro nw kp qu qd ql kd fm tk mr 3 _ hw H.size) (cwV 1 hts gX2_scribble_X2_settle rfl rfl rfl (by decide +kernel) ⟨Nat.le_of_ble_eq_true rfl, Nat.le_of_ble_eq_true rfl⟩) (preV_m (va_recv hK hP (ci := 2) (q0 := 0) rfl rfl) hP hD hA hK hZ hS [0, 1, 2, 3, 4, 5, 6, 7, 8, 9, 10, 11] rfl rfl (by decide)) rfl rfl hl.1 rfl (lv_room (Nat.le_of_ble_eq_true rfl)) dX2_scribble_15 ⟨Nat.le_of_ble_eq_true rfl, Nat.le_of_ble_eq_true rfl⟩) hP hD hA hS [0, 1, 2, 3, 4, 5, 6, 7, 8, 9, 10, 11] [] rfl rfl (by decide) (by decide) (fun r_3 u' H locs hw hP hD hS => ?_)
    obtain ⟨tr_2, rfl⟩ : ∃ z, z = u' := ⟨_, rfl⟩
    try dsimp only at hw
    have hP : va_P D vwCl (xS g k fd cd cr tr_2 ro nw kp qu qd ql kd fm tk mr) H := hP
    have hD : va_D A (xS g k fd cd cr tr_2 ro nw kp qu qd ql kd fm tk mr) := hD
    obtain ⟨h_4, hw⟩ := hw
    exact hret _ _ _ (tr_2, nw, qu, qd, ql) _ _ hP hD hS dX2_scribble_18 h_4 hw
  unfold wX2_scribble at hw
  suffices main : ∀ (H : Heap) (locs : List Loc), va_P D vwCl (xS g k fd cd cr tr ro nw kp qu qd ql kd fm tk mr) H → va_D A (xS g k fd cd cr tr ro nw kp qu qd ql kd fm tk mr) → va_S A s.heap H locs → W p l e rmX2_scribble s m args below meth c H locs 0 0 Q (F0 m 0 ls []) from main _ _ hP hD hS
  intro H locs hP hD hS
  refine lv_iload_n hx hb dX2_scribble_0 rfl (lv_at hl 1 rfl) ?_
  refine lv_bipush (v := 16) hx hb dX2_scribble_1 (by decide) ?_
  refine lv_icmp_lt (tgt := 13) hx hb dX2_scribble_3 (by decide) (fun c_1 => ?_) (fun c_1 => ?_)
  · have hw := hw.1 c_1
    exact B13  tr nw qu qd ql H locs hP hD hS ls (lv_sub hl [0] rfl) hw
  · have hw := hw.2 c_1
    refine lv_iload_n hx hb dX2_scribble_6 rfl (lv_at hl 1 rfl) ?_
    refine lv_sipush (v := 4096) hx hb dX2_scribble_7 (by decide) ?_
    refine lv_icmp_lt (tgt := 19) hx hb dX2_scribble_10 (by decide) (fun c_5 => ?_) (fun c_5 => ?_)
    · have hw := hw.1 c_5
      refine lv_aload_n hx hb dX2_scribble_19 rfl (lv_at hl 0 rfl) ?_
      refine lv_iload_n hx hb dX2_scribble_20 rfl (lv_at hl 1 rfl) ?_
      refine pcall (va_runV (As := [.int x1]) (rest := []) hC (c_X2_isOfBlock l D g k fd cd cr tr ro nw kp qu qd ql kd fm tk mr x1 _ hw H) (cwV 1 hts gX2_scribble_X2_isOfBlock rfl rfl rfl (by decide +kernel) ⟨Nat.le_of_ble_eq_true rfl, Nat.le_of_ble_eq_true rfl⟩) (preV_p (va_recv hK hP (ci := 2) (q0 := 0) rfl rfl) hP hK hZ hS) rfl rfl hl.1 rfl (lv_room (Nat.le_of_ble_eq_true rfl)) dX2_scribble_21 ⟨Nat.le_of_ble_eq_true rfl, Nat.le_of_ble_eq_true rfl⟩) (fun r_6 hw => ?_)
      refine lv_if_eq (tgt := 33) hx hb dX2_scribble_24 (by decide) (fun c_7 => ?_) (fun c_7 => ?_)
      · have hw := hw.1 c_7
        refine lv_aload_n hx hb dX2_scribble_33 rfl (lv_at hl 0 rfl) ?_
        refine va_get (D := D) (ci := 2) (v := .ref (g 2)) (C := RX2) (T := TX2) (N := 7) hx hb hts hinX2 hown hK hP 0 rfl rfl 0 (by decide) (hts (.fieldLink RX2 10 "SlabHeap" "words" "LSlabHeap$Words;") (by decide +kernel)) (fun _ h9 => h9) rfl dX2_scribble_34 ?_
        refine lv_iload_n hx hb dX2_scribble_37 rfl (lv_at hl 1 rfl) ?_
        refine lv_iload_n hx hb dX2_scribble_38 rfl (lv_at hl 2 rfl) ?_
        refine vcall (wr := [(g 0, .inr (2, [.ref (g 2), .ref (g 7), .ref (g 1), .int fd, .int cd, .int cr, .int tr])), (g 1, .inl (k.1, 2040, .inl ro)), (g 7, .inr (0, [.ref (g 8), .ref (g 9), .ref (g 10), .ref (g 11)])), (g 8, .inl (k.1, 256, .inl kd)), (g 9, .inl (k.1, 256, .inl fm)), (g 10, .inl (k.1, 256, .inl tk)), (g 11, .inl (k.1, 256, .inl mr))]) (va_runV (As := [.int x1, .int x2]) (rest := []) hC (c_X1_write l D g k nw kp qu qd ql x1 x2 _ hw H.size) (cwV 2 hts gX2_scribble_X1_write rfl rfl rfl (by decide +kernel) ⟨Nat.le_of_ble_eq_true rfl, Nat.le_of_ble_eq_true rfl⟩) (preV_m (va_recv hK hP (ci := 1) (q0 := 2) rfl rfl) hP hD hA hK hZ hS [2, 3, 4, 5, 6] rfl rfl (by decide)) rfl rfl hl.1 rfl (lv_room (Nat.le_of_ble_eq_true rfl)) dX2_scribble_39 ⟨Nat.le_of_ble_eq_true rfl, Nat.le_of_ble_eq_true rfl⟩) hP hD hA hS [2, 3, 4, 5, 6] [0, 1, 7, 8, 9, 10, 11] rfl rfl (by decide) (by decide) (fun u' H locs hw hP hD hS => ?_)
        obtain ⟨nw_8, qu_9, qd_10, ql_11⟩ := u'
        try dsimp only at hw
        have hP : va_P D vwCl (xS g k fd cd cr tr ro nw_8 kp qu_9 qd_10 ql_11 kd fm tk mr) H := hP.sub [0, 1, 7, 8, 9, 10, 11, 2, 3, 4, 5, 6] rfl
        have hD : va_D A (xS g k fd cd cr tr ro nw_8 kp qu_9 qd_10 ql_11 kd fm tk mr) := hD.sub [0, 1, 7, 8, 9, 10, 11, 2, 3, 4, 5, 6] (by decide) rfl
        refine lv_aload_n hx hb dX2_scribble_42 rfl (lv_at hl 0 rfl) ?_
        refine lv_iconst (v := 0) hx hb dX2_scribble_43 (by decide) ?_
        refine icall (wr := []) (va_runV (As := [.int 0]) (rest := []) hC (c_X2_settle l D g k fd cd cr tr ro nw_8 kp qu_9 qd_10 ql_11 kd fm tk mr 0 _ hw H.size) (cwV 1 hts gX2_scribble_X2_settle rfl rfl rfl (by decide +kernel) ⟨Nat.le_of_ble_eq_true rfl, Nat.le_of_ble_eq_true rfl⟩) (preV_m (va_recv hK hP (ci := 2) (q0 := 0) rfl rfl) hP hD hA hK hZ hS [0, 1, 2, 3, 4, 5, 6, 7, 8, 9, 10, 11] rfl rfl (by decide)) rfl rfl hl.1 rfl (lv_room (Nat.le_of_ble_eq_true rfl)) dX2_scribble_44 ⟨Nat.le_of_ble_eq_true rfl, Nat.le_of_ble_eq_true rfl⟩) hP hD hA hS [0, 1, 2, 3, 4, 5, 6, 7, 8, 9, 10, 11] [] rfl rfl (by decide) (by decide) (fun r_13 u' H locs hw hP hD hS => ?_)
        obtain ⟨tr_12, rfl⟩ : ∃ z, z = u' := ⟨_, rfl⟩
        try dsimp only at hw
        have hP : va_P D vwCl (xS g k fd cd cr tr_12 ro nw_8 kp qu_9 qd_10 ql_11 kd fm tk mr) H := hP
        have hD : va_D A (xS g k fd cd cr tr_12 ro nw_8 kp qu_9 qd_10 ql_11 kd fm tk mr) := hD
        obtain ⟨h_14, hw⟩ := hw
        exact hret _ _ _ (tr_12, nw_8, qu_9, qd_10, ql_11) _ _ hP hD hS dX2_scribble_47 h_14 hw
      · have hw := hw.2 c_7
        refine lv_aload_n hx hb dX2_scribble_27 rfl (lv_at hl 0 rfl) ?_
        refine lv_iconst (v := 2) hx hb dX2_scribble_28 (by decide) ?_
        refine icall (wr := []) (va_runV (As := [.int 2]) (rest := []) hC (c_X2_settle l D g k fd cd cr tr ro nw kp qu qd ql kd fm tk mr 2 _ hw H.size) (cwV 1 hts gX2_scribble_X2_settle rfl rfl rfl (by decide +kernel) ⟨Nat.le_of_ble_eq_true rfl, Nat.le_of_ble_eq_true rfl⟩) (preV_m (va_recv hK hP (ci := 2) (q0 := 0) rfl rfl) hP hD hA hK hZ hS [0, 1, 2, 3, 4, 5, 6, 7, 8, 9, 10, 11] rfl rfl (by decide)) rfl rfl hl.1 rfl (lv_room (Nat.le_of_ble_eq_true rfl)) dX2_scribble_29 ⟨Nat.le_of_ble_eq_true rfl, Nat.le_of_ble_eq_true rfl⟩) hP hD hA hS [0, 1, 2, 3, 4, 5, 6, 7, 8, 9, 10, 11] [] rfl rfl (by decide) (by decide) (fun r_16 u' H locs hw hP hD hS => ?_)
        obtain ⟨tr_15, rfl⟩ : ∃ z, z = u' := ⟨_, rfl⟩
        try dsimp only at hw
        have hP : va_P D vwCl (xS g k fd cd cr tr_15 ro nw kp qu qd ql kd fm tk mr) H := hP
        have hD : va_D A (xS g k fd cd cr tr_15 ro nw kp qu qd ql kd fm tk mr) := hD
        obtain ⟨h_17, hw⟩ := hw
        exact hret _ _ _ (tr_15, nw, qu, qd, ql) _ _ hP hD hS dX2_scribble_32 h_17 hw
    · have hw := hw.2 c_5
      exact B13  tr nw qu qd ql H locs hP hD hS ls (lv_sub hl [0] rfl) hw
-- X2_block
abbrev rmX2_block : Room := { frames := 4, cells := 0, slots := 0, locals := 94 }
set_option maxHeartbeats 4000000 in
set_option maxRecDepth 100000 in
theorem c_X2_block (l : Launch) (D : va_G) (g : Nat → Nat) (k : xC) (fd : Int32) (cd : Int32) (cr : Int32) (tr : Int32) (ro : Nat → Int32) (nw : Nat → Int32) (kp : Nat → Int32) (qu : Nat → Int32) (qd : Nat → Int32) (ql : Int32) (kd : Nat → Int32) (fm : Nat → Int32) (tk : Nat → Int32) (mr : Nat → Int32) (x1 : Int32) (x2 : Int32) (post : Int32 → (Nat → Int32) → Prop) (hw : wX2_block post ro nw kd fm tk x1 x2) : CMi l yX2_block wsX2_block rmX2_block D k [.ref (g 0), .int x1, .int x2] (fun v : (Nat → Int32) => (xS g k fd cd cr tr v nw kp qu qd ql kd fm tk mr)) ro (fun r v => post r v) := by
  refine met_mi (cc := cX2_block) (nL := 3) (by decide) rfl (Nat.le_of_ble_eq_true rfl) ?_
  intro p e s m args below meth c Q A ls hC hP hD hA hK hZ hS hl hret
  obtain ⟨hx, hb, hml, hown, hts⟩ := id hC
  have hC : CallFix p m c cX2_block 3 s args wsX2_block RX2 := hC
  have hown : s.vm.findClass RX2 = some m.cls := hown
  have hl : lv_has ls 3 [(0, .ref (g 0)), (1, .int x1), (2, .int x2)] := hl
  have hP : va_P D vwCl (xS g k fd cd cr tr ro nw kp qu qd ql kd fm tk mr) s.heap := hP
  have hD : va_D A (xS g k fd cd cr tr ro nw kp qu qd ql kd fm tk mr) := hD
  have hinX2 : ∀ w ∈ wsX20, w ∈ wsX2_block := fun _ h => List.mem_cons_of_mem _ (List.mem_append_left _ (List.mem_append_left _ (List.mem_append_right _ h)))
  unfold wX2_block at hw
  suffices main : ∀ (H : Heap) (locs : List Loc), va_P D vwCl (xS g k fd cd cr tr ro nw kp qu qd ql kd fm tk mr) H → va_D A (xS g k fd cd cr tr ro nw kp qu qd ql kd fm tk mr) → va_S A s.heap H locs → W p l e rmX2_block s m args below meth c H locs 0 0 Q (F0 m 0 ls []) from main _ _ hP hD hS
  intro H locs hP hD hS
  refine lv_aload_n hx hb dX2_block_0 rfl (lv_at hl 0 rfl) ?_
  refine va_get (D := D) (ci := 2) (v := .ref (g 7)) (C := RX2) (T := TX2) (N := 7) hx hb hts hinX2 hown hK hP 0 rfl rfl 1 (by decide) (hts (.fieldLink RX2 19 "SlabHeap" "pages" "LSlabHeap$Pages;") (by decide +kernel)) (fun _ h9 => h9) rfl dX2_block_1 ?_
  refine lv_iload_n hx hb dX2_block_4 rfl (lv_at hl 1 rfl) ?_
  refine pcall (va_runV (As := [.int x1]) (rest := []) hC (c_X0_isLive l D g k kd fm tk mr x1 _ hw H) (cwV 1 hts gX2_block_X0_isLive rfl rfl rfl (by decide +kernel) ⟨Nat.le_of_ble_eq_true rfl, Nat.le_of_ble_eq_true rfl⟩) (preV_p (va_recv hK hP (ci := 0) (q0 := 7) rfl rfl) (hP.sub [7, 8, 9, 10, 11] rfl) hK hZ hS) rfl rfl hl.1 rfl (lv_room (Nat.le_of_ble_eq_true rfl)) dX2_block_5 ⟨Nat.le_of_ble_eq_true rfl, Nat.le_of_ble_eq_true rfl⟩) (fun r_1 hw => ?_)
  refine lv_if_ne (tgt := 13) hx hb dX2_block_8 (by decide) (fun c_2 => ?_) (fun c_2 => ?_)
  · have hw := hw.1 c_2
    refine lv_iload_n hx hb dX2_block_13 rfl (lv_at hl 2 rfl) ?_
    by_cases c_3 : x2 < 0
    · have hw := hw.1 c_3
      refine lv_tableOut (tgt := 84) hx hb dX2_block_14 (Or.inl (by rw [Int32.lt_iff_toInt_lt] at c_3; exact c_3)) (by decide) ?_
      refine lv_iconst (v := (-1)) hx hb dX2_block_84 (by decide) ?_
      exact hret _ _ _ ro _ _ hP hD hS dX2_block_85 hw
    have hw := hw.2 c_3
    by_cases c_4 : 4 < x2
    · have hw := hw.1 c_4
      refine lv_tableOut (tgt := 84) hx hb dX2_block_14 (Or.inr (by rw [Int32.lt_iff_toInt_lt] at c_4; exact c_4)) (by decide) ?_
      refine lv_iconst (v := (-1)) hx hb dX2_block_84 (by decide) ?_
      exact hret _ _ _ ro _ _ hP hD hS dX2_block_85 hw
    have hw := hw.2 c_4
    obtain ⟨j_5, hj_5, ej_5⟩ := nI_of2 (x := x2) (M := 4) (n := 4) rfl c_3 (Int32.not_lt.mp c_4)
    rcases (show j_5 = 0 ∨ j_5 = 1 ∨ j_5 = 2 ∨ j_5 = 3 ∨ j_5 = 4 by omega) with rfl | rfl | rfl | rfl | rfl
    · have hw := hw.1 ej_5
      refine lv_tableIn (tgt := 48) hx hb dX2_block_14 (by rw [ej_5]; decide) (by rw [ej_5]; decide) (by rw [ej_5]; rfl) (by decide) ?_
      refine lv_aload_n hx hb dX2_block_48 rfl (lv_at hl 0 rfl) ?_
      refine lv_iload_n hx hb dX2_block_49 rfl (lv_at hl 1 rfl) ?_
      refine pcall (va_runV (As := [.int x1]) (rest := []) hC (c_X2_sizeOf l D g k fd cd cr tr ro nw kp qu qd ql kd fm tk mr x1 _ hw H) (cwV 1 hts gX2_block_X2_sizeOf rfl rfl rfl (by decide +kernel) ⟨Nat.le_of_ble_eq_true rfl, Nat.le_of_ble_eq_true rfl⟩) (preV_p (va_recv hK hP (ci := 2) (q0 := 0) rfl rfl) hP hK hZ hS) rfl rfl hl.1 rfl (lv_room (Nat.le_of_ble_eq_true rfl)) dX2_block_50 ⟨Nat.le_of_ble_eq_true rfl, Nat.le_of_ble_eq_true rfl⟩) (fun r_6 hw => ?_)
      exact hret _ _ _ ro _ _ hP hD hS dX2_block_53 hw
    · have hw := hw.2.1 ej_5
      refine lv_tableIn (tgt := 54) hx hb dX2_block_14 (by rw [ej_5]; decide) (by rw [ej_5]; decide) (by rw [ej_5]; rfl) (by decide) ?_
      refine lv_aload_n hx hb dX2_block_54 rfl (lv_at hl 0 rfl) ?_
      refine lv_iload_n hx hb dX2_block_55 rfl (lv_at hl 1 rfl) ?_
      refine pcall (va_runV (As := [.int x1]) (rest := []) hC (c_X2_refsOf l D g k fd cd cr tr ro nw kp qu qd ql kd fm tk mr x1 _ hw H) (cwV 1 hts gX2_block_X2_refsOf rfl rfl rfl (by decide +kernel) ⟨Nat.le_of_ble_eq_true rfl, Nat.le_of_ble_eq_true rfl⟩) (preV_p (va_recv hK hP (ci := 2) (q0 := 0) rfl rfl) hP hK hZ hS) rfl rfl hl.1 rfl (lv_room (Nat.le_of_ble_eq_true rfl)) dX2_block_56 ⟨Nat.le_of_ble_eq_true rfl, Nat.le_of_ble_eq_true rfl⟩) (fun r_7 hw => ?_)
      exact hret _ _ _ ro _ _ hP hD hS dX2_block_59 hw
    · have hw := hw.2.2.1 ej_5
      refine lv_tableIn (tgt := 60) hx hb dX2_block_14 (by rw [ej_5]; decide) (by rw [ej_5]; decide) (by rw [ej_5]; rfl) (by decide) ?_
      refine lv_aload_n hx hb dX2_block_60 rfl (lv_at hl 0 rfl) ?_
      refine lv_iload_n hx hb dX2_block_61 rfl (lv_at hl 1 rfl) ?_
      refine pcall (va_runV (As := [.int x1]) (rest := []) hC (c_X2_sizeOf l D g k fd cd cr tr ro nw kp qu qd ql kd fm tk mr x1 _ hw H) (cwV 1 hts gX2_block_X2_sizeOf rfl rfl rfl (by decide +kernel) ⟨Nat.le_of_ble_eq_true rfl, Nat.le_of_ble_eq_true rfl⟩) (preV_p (va_recv hK hP (ci := 2) (q0 := 0) rfl rfl) hP hK hZ hS) rfl rfl hl.1 rfl (lv_room (Nat.le_of_ble_eq_true rfl)) dX2_block_62 ⟨Nat.le_of_ble_eq_true rfl, Nat.le_of_ble_eq_true rfl⟩) (fun r_8 hw => ?_)
      refine pcall (va_runS (As := [.int r_8]) (rest := []) hC (c_X2_classFor l D k r_8 _ hw H) (va_cwS 1 hts gX2_block_X2_classFor rfl rfl rfl (by decide +kernel) ⟨Nat.le_of_ble_eq_true rfl, Nat.le_of_ble_eq_true rfl⟩) (preS_p (hP.sub [] rfl) hK hZ hS) rfl rfl hl.1 rfl (lv_room (Nat.le_of_ble_eq_true rfl)) dX2_block_65 ⟨Nat.le_of_ble_eq_true rfl, Nat.le_of_ble_eq_true rfl⟩) (fun r_9 hw => ?_)
      exact hret _ _ _ ro _ _ hP hD hS dX2_block_68 hw
    · have hw := hw.2.2.2.1 ej_5
      refine lv_tableIn (tgt := 69) hx hb dX2_block_14 (by rw [ej_5]; decide) (by rw [ej_5]; decide) (by rw [ej_5]; rfl) (by decide) ?_
      refine lv_aload_n hx hb dX2_block_69 rfl (lv_at hl 0 rfl) ?_
      refine lv_iload_n hx hb dX2_block_70 rfl (lv_at hl 1 rfl) ?_
      refine pcall (va_runV (As := [.int x1]) (rest := []) hC (c_X2_sizeOf l D g k fd cd cr tr ro nw kp qu qd ql kd fm tk mr x1 _ hw H) (cwV 1 hts gX2_block_X2_sizeOf rfl rfl rfl (by decide +kernel) ⟨Nat.le_of_ble_eq_true rfl, Nat.le_of_ble_eq_true rfl⟩) (preV_p (va_recv hK hP (ci := 2) (q0 := 0) rfl rfl) hP hK hZ hS) rfl rfl hl.1 rfl (lv_room (Nat.le_of_ble_eq_true rfl)) dX2_block_71 ⟨Nat.le_of_ble_eq_true rfl, Nat.le_of_ble_eq_true rfl⟩) (fun r_10 hw => ?_)
      refine pcall (va_runS (As := [.int r_10]) (rest := []) hC (c_X2_orderFor l D k r_10 _ hw H) (va_cwS 1 hts gX2_block_X2_orderFor rfl rfl rfl (by decide +kernel) ⟨Nat.le_of_ble_eq_true rfl, Nat.le_of_ble_eq_true rfl⟩) (preS_p (hP.sub [] rfl) hK hZ hS) rfl rfl hl.1 rfl (lv_room (Nat.le_of_ble_eq_true rfl)) dX2_block_74 ⟨Nat.le_of_ble_eq_true rfl, Nat.le_of_ble_eq_true rfl⟩) (fun r_11 hw => ?_)
      exact hret _ _ _ ro _ _ hP hD hS dX2_block_77 hw
    · have hw := hw.2.2.2.2 ej_5
      refine lv_tableIn (tgt := 78) hx hb dX2_block_14 (by rw [ej_5]; decide) (by rw [ej_5]; decide) (by rw [ej_5]; rfl) (by decide) ?_
      refine lv_aload_n hx hb dX2_block_78 rfl (lv_at hl 0 rfl) ?_
      refine lv_iload_n hx hb dX2_block_79 rfl (lv_at hl 1 rfl) ?_
      refine icall (wr := []) (va_runV (As := [.int x1]) (rest := []) hC (c_X2_leadsTo l D g k fd cd cr tr ro nw kp qu qd ql kd fm tk mr x1 _ hw H.size) (cwV 1 hts gX2_block_X2_leadsTo rfl rfl rfl (by decide +kernel) ⟨Nat.le_of_ble_eq_true rfl, Nat.le_of_ble_eq_true rfl⟩) (preV_m (va_recv hK hP (ci := 2) (q0 := 0) rfl rfl) hP hD hA hK hZ hS [0, 1, 2, 3, 4, 5, 6, 7, 8, 9, 10, 11] rfl rfl (by decide)) rfl rfl hl.1 rfl (lv_room (Nat.le_of_ble_eq_true rfl)) dX2_block_80 ⟨Nat.le_of_ble_eq_true rfl, Nat.le_of_ble_eq_true rfl⟩) hP hD hA hS [0, 1, 2, 3, 4, 5, 6, 7, 8, 9, 10, 11] [] rfl rfl (by decide) (by decide) (fun r_13 u' H locs hw hP hD hS => ?_)
      obtain ⟨ro_12, rfl⟩ : ∃ z, z = u' := ⟨_, rfl⟩
      try dsimp only at hw
      have hP : va_P D vwCl (xS g k fd cd cr tr ro_12 nw kp qu qd ql kd fm tk mr) H := hP
      have hD : va_D A (xS g k fd cd cr tr ro_12 nw kp qu qd ql kd fm tk mr) := hD
      exact hret _ _ _ ro_12 _ _ hP hD hS dX2_block_83 hw
  · have hw := hw.2 c_2
    refine lv_iconst (v := (-1)) hx hb dX2_block_11 (by decide) ?_
    exact hret _ _ _ ro _ _ hP hD hS dX2_block_12 hw
-- X2_live
abbrev rmX2_live : Room := { frames := 3, cells := 0, slots := 0, locals := 69 }
set_option maxHeartbeats 4000000 in
set_option maxRecDepth 100000 in
theorem c_X2_live (l : Launch) (D : va_G) (g : Nat → Nat) (k : xC) (fd : Int32) (cd : Int32) (cr : Int32) (tr : Int32) (ro : Nat → Int32) (nw : Nat → Int32) (kp : Nat → Int32) (qu : Nat → Int32) (qd : Nat → Int32) (ql : Int32) (kd : Nat → Int32) (fm : Nat → Int32) (tk : Nat → Int32) (mr : Nat → Int32) (x1 : Int32) (post : Int32 → (Nat → Int32) → Prop) (hw : wX2_live post ro kd fm tk x1) : CMi l yX2_live wsX2_live rmX2_live D k [.ref (g 0), .int x1] (fun v : (Nat → Int32) => (xS g k fd cd cr tr v nw kp qu qd ql kd fm tk mr)) ro (fun r v => post r v) := by
  refine met_mi (cc := cX2_live) (nL := 3) (by decide) rfl (Nat.le_of_ble_eq_true rfl) ?_
  intro p e s m args below meth c Q A ls hC hP hD hA hK hZ hS hl hret
  obtain ⟨hx, hb, hml, hown, hts⟩ := id hC
  have hC : CallFix p m c cX2_live 3 s args wsX2_live RX2 := hC
  have hown : s.vm.findClass RX2 = some m.cls := hown
  have hl : lv_has ls 3 [(0, .ref (g 0)), (1, .int x1)] := hl
  have hP : va_P D vwCl (xS g k fd cd cr tr ro nw kp qu qd ql kd fm tk mr) s.heap := hP
  have hD : va_D A (xS g k fd cd cr tr ro nw kp qu qd ql kd fm tk mr) := hD
  have hinX2 : ∀ w ∈ wsX20, w ∈ wsX2_live := fun _ h => List.mem_cons_of_mem _ (List.mem_append_left _ (List.mem_append_right _ h))
  unfold wX2_live at hw
  suffices main : ∀ (H : Heap) (locs : List Loc), va_P D vwCl (xS g k fd cd cr tr ro nw kp qu qd ql kd fm tk mr) H → va_D A (xS g k fd cd cr tr ro nw kp qu qd ql kd fm tk mr) → va_S A s.heap H locs → W p l e rmX2_live s m args below meth c H locs 0 0 Q (F0 m 0 ls []) from main _ _ hP hD hS
  intro H locs hP hD hS
  refine lv_aload_n hx hb dX2_live_0 rfl (lv_at hl 0 rfl) ?_
  refine icall (wr := []) (va_runV (As := []) (rest := []) hC (c_X2_listLive l D g k fd cd cr tr ro nw kp qu qd ql kd fm tk mr _ hw H.size) (cwV 0 hts gX2_live_X2_listLive rfl rfl rfl (by decide +kernel) ⟨Nat.le_of_ble_eq_true rfl, Nat.le_of_ble_eq_true rfl⟩) (preV_m (va_recv hK hP (ci := 2) (q0 := 0) rfl rfl) hP hD hA hK hZ hS [0, 1, 2, 3, 4, 5, 6, 7, 8, 9, 10, 11] rfl rfl (by decide)) rfl rfl hl.1 rfl (lv_room (Nat.le_of_ble_eq_true rfl)) dX2_live_1 ⟨Nat.le_of_ble_eq_true rfl, Nat.le_of_ble_eq_true rfl⟩) hP hD hA hS [0, 1, 2, 3, 4, 5, 6, 7, 8, 9, 10, 11] [] rfl rfl (by decide) (by decide) (fun r_2 u' H locs hw hP hD hS => ?_)
  obtain ⟨ro_1, rfl⟩ : ∃ z, z = u' := ⟨_, rfl⟩
  try dsimp only at hw
  have hP : va_P D vwCl (xS g k fd cd cr tr ro_1 nw kp qu qd ql kd fm tk mr) H := hP
  have hD : va_D A (xS g k fd cd cr tr ro_1 nw kp qu qd ql kd fm tk mr) := hD
  refine lv_istore_n (lv' := [(2, .int r_2), (0, .ref (g 0)), (1, .int x1)]) hx hb dX2_live_4 rfl hl (by decide) rfl (fun ls hl => ?_)
  refine lv_iload_n hx hb dX2_live_5 rfl (lv_at hl 2 rfl) ?_
  refine lv_if_lt (tgt := 22) hx hb dX2_live_6 (by decide) (fun c_3 => ?_) (fun c_3 => ?_)
  · have hw := hw.1 c_3
    refine lv_iconst (v := (-1)) hx hb dX2_live_22 (by decide) ?_
    exact hret _ _ _ ro_1 _ _ hP hD hS dX2_live_23 hw
  · have hw := hw.2 c_3
    refine lv_iload_n hx hb dX2_live_9 rfl (lv_at hl 2 rfl) ?_
    refine lv_iload_n hx hb dX2_live_10 rfl (lv_at hl 0 rfl) ?_
    refine lv_icmp_ge (tgt := 22) hx hb dX2_live_11 (by decide) (fun c_4 => ?_) (fun c_4 => ?_)
    · have hw := hw.1 c_4
      refine lv_iconst (v := (-1)) hx hb dX2_live_22 (by decide) ?_
      exact hret _ _ _ ro_1 _ _ hP hD hS dX2_live_23 hw
    · have hw := hw.2 c_4
      refine lv_aload_n hx hb dX2_live_14 rfl (lv_at hl 1 rfl) ?_
      refine lv_iload_n hx hb dX2_live_15 rfl (lv_at hl 2 rfl) ?_
      refine pcall (va_runV (As := [.int x1]) (rest := []) hC (c_X2_rowAt l D g k fd cd cr tr ro_1 nw kp qu qd ql kd fm tk mr x1 _ hw H) (cwV 1 hts gX2_live_X2_rowAt rfl rfl rfl (by decide +kernel) ⟨Nat.le_of_ble_eq_true rfl, Nat.le_of_ble_eq_true rfl⟩) (preV_p (va_recv hK hP (ci := 2) (q0 := 0) rfl rfl) hP hK hZ hS) rfl rfl hl.1 rfl (lv_room (Nat.le_of_ble_eq_true rfl)) dX2_live_16 ⟨Nat.le_of_ble_eq_true rfl, Nat.le_of_ble_eq_true rfl⟩) (fun r_5 hw => ?_)
      refine lv_goto (tgt := 23) hx hb dX2_live_19 (by decide) ?_
      exact hret _ _ _ ro_1 _ _ hP hD hS dX2_live_23 hw
-- X2_page
abbrev rmX2_page : Room := { frames := 6, cells := 0, slots := 0, locals := 133 }
set_option maxHeartbeats 4000000 in
set_option maxRecDepth 100000 in
theorem c_X2_page (l : Launch) (D : va_G) (g : Nat → Nat) (k : xC) (fd : Int32) (cd : Int32) (cr : Int32) (tr : Int32) (ro : Nat → Int32) (nw : Nat → Int32) (kp : Nat → Int32) (qu : Nat → Int32) (qd : Nat → Int32) (ql : Int32) (kd : Nat → Int32) (fm : Nat → Int32) (tk : Nat → Int32) (mr : Nat → Int32) (x1 : Int32) (x2 : Int32) (post : Int32 → Prop) (hw : wX2_page post kd fm tk x1 x2) : CPi l yX2_page wsX2_page rmX2_page D k [.ref (g 0), .int x1, .int x2] (xS g k fd cd cr tr ro nw kp qu qd ql kd fm tk mr) post := by
  refine met_pi (cc := cX2_page) (nL := 3) (by decide) rfl (Nat.le_of_ble_eq_true rfl) ?_
  intro p e s m args below meth c Q ls hC hP hK hZ hS hl hret
  obtain ⟨hx, hb, hml, hown, hts⟩ := id hC
  have hC : CallFix p m c cX2_page 3 s args wsX2_page RX2 := hC
  have hown : s.vm.findClass RX2 = some m.cls := hown
  have hl : lv_has ls 3 [(0, .ref (g 0)), (1, .int x1), (2, .int x2)] := hl
  have hinX2 : ∀ w ∈ wsX20, w ∈ wsX2_page := fun _ h => List.mem_cons_of_mem _ (List.mem_append_left _ (List.mem_append_right _ h))
  unfold wX2_page at hw
  refine lv_iload_n hx hb dX2_page_0 rfl (lv_at hl 1 rfl) ?_
  refine pcall (va_runS (As := [.int x1]) (rest := []) hC (c_X2_isPage l D k x1 _ hw s.heap) (va_cwS 1 hts gX2_page_X2_isPage rfl rfl rfl (by decide +kernel) ⟨Nat.le_of_ble_eq_true rfl, Nat.le_of_ble_eq_true rfl⟩) (preS_p (hP.sub [] rfl) hK hZ hS) rfl rfl hl.1 rfl (lv_room (Nat.le_of_ble_eq_true rfl)) dX2_page_1 ⟨Nat.le_of_ble_eq_true rfl, Nat.le_of_ble_eq_true rfl⟩) (fun r_1 hw => ?_)
  refine lv_if_ne (tgt := 9) hx hb dX2_page_4 (by decide) (fun c_2 => ?_) (fun c_2 => ?_)
  · have hw := hw.1 c_2
    refine lv_iload_n hx hb dX2_page_9 rfl (lv_at hl 2 rfl) ?_
    by_cases c_3 : x2 < 0
    · have hw := hw.1 c_3
      refine lv_tableOut (tgt := 76) hx hb dX2_page_10 (Or.inl (by rw [Int32.lt_iff_toInt_lt] at c_3; exact c_3)) (by decide) ?_
      refine lv_iconst (v := (-1)) hx hb dX2_page_76 (by decide) ?_
      exact hret _ _ _ dX2_page_77 hw
    have hw := hw.2 c_3
    by_cases c_4 : 3 < x2
    · have hw := hw.1 c_4
      refine lv_tableOut (tgt := 76) hx hb dX2_page_10 (Or.inr (by rw [Int32.lt_iff_toInt_lt] at c_4; exact c_4)) (by decide) ?_
      refine lv_iconst (v := (-1)) hx hb dX2_page_76 (by decide) ?_
      exact hret _ _ _ dX2_page_77 hw
    have hw := hw.2 c_4
    obtain ⟨j_5, hj_5, ej_5⟩ := nI_of2 (x := x2) (M := 3) (n := 3) rfl c_3 (Int32.not_lt.mp c_4)
    rcases (show j_5 = 0 ∨ j_5 = 1 ∨ j_5 = 2 ∨ j_5 = 3 by omega) with rfl | rfl | rfl | rfl
    · have hw := hw.1 ej_5
      refine lv_tableIn (tgt := 40) hx hb dX2_page_10 (by rw [ej_5]; decide) (by rw [ej_5]; decide) (by rw [ej_5]; rfl) (by decide) ?_
      refine lv_aload_n hx hb dX2_page_40 rfl (lv_at hl 0 rfl) ?_
      refine va_get (D := D) (ci := 2) (v := .ref (g 7)) (C := RX2) (T := TX2) (N := 7) hx hb hts hinX2 hown hK hP 0 rfl rfl 1 (by decide) (hts (.fieldLink RX2 19 "SlabHeap" "pages" "LSlabHeap$Pages;") (by decide +kernel)) (fun _ h9 => h9) rfl dX2_page_41 ?_
      refine lv_iload_n hx hb dX2_page_44 rfl (lv_at hl 1 rfl) ?_
      refine pcall (va_runV (As := [.int x1]) (rest := []) hC (c_X0_kindOf l D g k kd fm tk mr x1 _ hw s.heap) (cwV 1 hts gX2_page_X0_kindOf rfl rfl rfl (by decide +kernel) ⟨Nat.le_of_ble_eq_true rfl, Nat.le_of_ble_eq_true rfl⟩) (preV_p (va_recv hK hP (ci := 0) (q0 := 7) rfl rfl) (hP.sub [7, 8, 9, 10, 11] rfl) hK hZ hS) rfl rfl hl.1 rfl (lv_room (Nat.le_of_ble_eq_true rfl)) dX2_page_45 ⟨Nat.le_of_ble_eq_true rfl, Nat.le_of_ble_eq_true rfl⟩) (fun r_6 hw => ?_)
      exact hret _ _ _ dX2_page_48 hw
    · have hw := hw.2.1 ej_5
      refine lv_tableIn (tgt := 49) hx hb dX2_page_10 (by rw [ej_5]; decide) (by rw [ej_5]; decide) (by rw [ej_5]; rfl) (by decide) ?_
      refine lv_aload_n hx hb dX2_page_49 rfl (lv_at hl 0 rfl) ?_
      refine va_get (D := D) (ci := 2) (v := .ref (g 7)) (C := RX2) (T := TX2) (N := 7) hx hb hts hinX2 hown hK hP 0 rfl rfl 1 (by decide) (hts (.fieldLink RX2 19 "SlabHeap" "pages" "LSlabHeap$Pages;") (by decide +kernel)) (fun _ h9 => h9) rfl dX2_page_50 ?_
      refine lv_iload_n hx hb dX2_page_53 rfl (lv_at hl 1 rfl) ?_
      refine pcall (va_runV (As := [.int x1]) (rest := []) hC (c_X0_formOf l D g k kd fm tk mr x1 _ hw s.heap) (cwV 1 hts gX2_page_X0_formOf rfl rfl rfl (by decide +kernel) ⟨Nat.le_of_ble_eq_true rfl, Nat.le_of_ble_eq_true rfl⟩) (preV_p (va_recv hK hP (ci := 0) (q0 := 7) rfl rfl) (hP.sub [7, 8, 9, 10, 11] rfl) hK hZ hS) rfl rfl hl.1 rfl (lv_room (Nat.le_of_ble_eq_true rfl)) dX2_page_54 ⟨Nat.le_of_ble_eq_true rfl, Nat.le_of_ble_eq_true rfl⟩) (fun r_7 hw => ?_)
      exact hret _ _ _ dX2_page_57 hw
    · have hw := hw.2.2.1 ej_5
      refine lv_tableIn (tgt := 58) hx hb dX2_page_10 (by rw [ej_5]; decide) (by rw [ej_5]; decide) (by rw [ej_5]; rfl) (by decide) ?_
      refine lv_aload_n hx hb dX2_page_58 rfl (lv_at hl 0 rfl) ?_
      refine va_get (D := D) (ci := 2) (v := .ref (g 7)) (C := RX2) (T := TX2) (N := 7) hx hb hts hinX2 hown hK hP 0 rfl rfl 1 (by decide) (hts (.fieldLink RX2 19 "SlabHeap" "pages" "LSlabHeap$Pages;") (by decide +kernel)) (fun _ h9 => h9) rfl dX2_page_59 ?_
      refine lv_iload_n hx hb dX2_page_62 rfl (lv_at hl 1 rfl) ?_
      refine pcall (va_runV (As := [.int x1]) (rest := []) hC (c_X0_blocksOn l D g k kd fm tk mr x1 _ hw s.heap) (cwV 1 hts gX2_page_X0_blocksOn rfl rfl rfl (by decide +kernel) ⟨Nat.le_of_ble_eq_true rfl, Nat.le_of_ble_eq_true rfl⟩) (preV_p (va_recv hK hP (ci := 0) (q0 := 7) rfl rfl) (hP.sub [7, 8, 9, 10, 11] rfl) hK hZ hS) rfl rfl hl.1 rfl (lv_room (Nat.le_of_ble_eq_true rfl)) dX2_page_63 ⟨Nat.le_of_ble_eq_true rfl, Nat.le_of_ble_eq_true rfl⟩) (fun r_8 hw => ?_)
      exact hret _ _ _ dX2_page_66 hw
    · have hw := hw.2.2.2 ej_5
      refine lv_tableIn (tgt := 67) hx hb dX2_page_10 (by rw [ej_5]; decide) (by rw [ej_5]; decide) (by rw [ej_5]; rfl) (by decide) ?_
      refine lv_aload_n hx hb dX2_page_67 rfl (lv_at hl 0 rfl) ?_
      refine va_get (D := D) (ci := 2) (v := .ref (g 7)) (C := RX2) (T := TX2) (N := 7) hx hb hts hinX2 hown hK hP 0 rfl rfl 1 (by decide) (hts (.fieldLink RX2 19 "SlabHeap" "pages" "LSlabHeap$Pages;") (by decide +kernel)) (fun _ h9 => h9) rfl dX2_page_68 ?_
      refine lv_iload_n hx hb dX2_page_71 rfl (lv_at hl 1 rfl) ?_
      refine pcall (va_runV (As := [.int x1]) (rest := []) hC (c_X0_firstOf l D g k kd fm tk mr x1 _ hw s.heap) (cwV 1 hts gX2_page_X0_firstOf rfl rfl rfl (by decide +kernel) ⟨Nat.le_of_ble_eq_true rfl, Nat.le_of_ble_eq_true rfl⟩) (preV_p (va_recv hK hP (ci := 0) (q0 := 7) rfl rfl) (hP.sub [7, 8, 9, 10, 11] rfl) hK hZ hS) rfl rfl hl.1 rfl (lv_room (Nat.le_of_ble_eq_true rfl)) dX2_page_72 ⟨Nat.le_of_ble_eq_true rfl, Nat.le_of_ble_eq_true rfl⟩) (fun r_9 hw => ?_)
      exact hret _ _ _ dX2_page_75 hw
  · have hw := hw.2 c_2
    refine lv_iconst (v := (-1)) hx hb dX2_page_7 (by decide) ?_
    exact hret _ _ _ dX2_page_8 hw
-- X2_extents
abbrev rmX2_extents : Room := { frames := 4, cells := 0, slots := 0, locals := 90 }
set_option maxHeartbeats 4000000 in
set_option maxRecDepth 100000 in
theorem c_X2_extents (l : Launch) (D : va_G) (g : Nat → Nat) (k : xC) (fd : Int32) (cd : Int32) (cr : Int32) (tr : Int32) (ro : Nat → Int32) (nw : Nat → Int32) (kp : Nat → Int32) (qu : Nat → Int32) (qd : Nat → Int32) (ql : Int32) (kd : Nat → Int32) (fm : Nat → Int32) (tk : Nat → Int32) (mr : Nat → Int32) (x1 : Int32) (post : Int32 → Prop) (hw : wX2_extents post kd x1) : CPi l yX2_extents wsX2_extents rmX2_extents D k [.ref (g 0), .int x1] (xS g k fd cd cr tr ro nw kp qu qd ql kd fm tk mr) post := by
  refine met_pi (cc := cX2_extents) (nL := 2) (by decide) rfl (Nat.le_of_ble_eq_true rfl) ?_
  intro p e s m args below meth c Q ls hC hP hK hZ hS hl hret
  obtain ⟨hx, hb, hml, hown, hts⟩ := id hC
  have hC : CallFix p m c cX2_extents 2 s args wsX2_extents RX2 := hC
  have hown : s.vm.findClass RX2 = some m.cls := hown
  have hl : lv_has ls 2 [(0, .ref (g 0)), (1, .int x1)] := hl
  have hinX2 : ∀ w ∈ wsX20, w ∈ wsX2_extents := fun _ h => List.mem_cons_of_mem _ (List.mem_append_left _ (List.mem_append_right _ h))
  unfold wX2_extents at hw
  refine lv_aload_n hx hb dX2_extents_0 rfl (lv_at hl 0 rfl) ?_
  refine va_get (D := D) (ci := 2) (v := .ref (g 7)) (C := RX2) (T := TX2) (N := 7) hx hb hts hinX2 hown hK hP 0 rfl rfl 1 (by decide) (hts (.fieldLink RX2 19 "SlabHeap" "pages" "LSlabHeap$Pages;") (by decide +kernel)) (fun _ h9 => h9) rfl dX2_extents_1 ?_
  refine lv_iload_n hx hb dX2_extents_4 rfl (lv_at hl 1 rfl) ?_
  refine pcall (va_runV (As := [.int x1]) (rest := []) hC (c_X0_freeExtents l D g k kd fm tk mr x1 _ hw s.heap) (cwV 1 hts gX2_extents_X0_freeExtents rfl rfl rfl (by decide +kernel) ⟨Nat.le_of_ble_eq_true rfl, Nat.le_of_ble_eq_true rfl⟩) (preV_p (va_recv hK hP (ci := 0) (q0 := 7) rfl rfl) (hP.sub [7, 8, 9, 10, 11] rfl) hK hZ hS) rfl rfl hl.1 rfl (lv_room (Nat.le_of_ble_eq_true rfl)) dX2_extents_5 ⟨Nat.le_of_ble_eq_true rfl, Nat.le_of_ble_eq_true rfl⟩) (fun r_1 hw => ?_)
  exact hret _ _ _ dX2_extents_8 hw
-- X2_next
abbrev rmX2_next : Room := { frames := 4, cells := 0, slots := 0, locals := 90 }
set_option maxHeartbeats 4000000 in
set_option maxRecDepth 100000 in
theorem c_X2_next (l : Launch) (D : va_G) (g : Nat → Nat) (k : xC) (fd : Int32) (cd : Int32) (cr : Int32) (tr : Int32) (ro : Nat → Int32) (nw : Nat → Int32) (kp : Nat → Int32) (qu : Nat → Int32) (qd : Nat → Int32) (ql : Int32) (kd : Nat → Int32) (fm : Nat → Int32) (tk : Nat → Int32) (mr : Nat → Int32) (x1 : Int32) (post : Int32 → Prop) (hw : wX2_next post kd x1) : CPi l yX2_next wsX2_next rmX2_next D k [.ref (g 0), .int x1] (xS g k fd cd cr tr ro nw kp qu qd ql kd fm tk mr) post := by
  refine met_pi (cc := cX2_next) (nL := 2) (by decide) rfl (Nat.le_of_ble_eq_true rfl) ?_
  intro p e s m args below meth c Q ls hC hP hK hZ hS hl hret
  obtain ⟨hx, hb, hml, hown, hts⟩ := id hC
  have hC : CallFix p m c cX2_next 2 s args wsX2_next RX2 := hC
  have hown : s.vm.findClass RX2 = some m.cls := hown
  have hl : lv_has ls 2 [(0, .ref (g 0)), (1, .int x1)] := hl
  have hinX2 : ∀ w ∈ wsX20, w ∈ wsX2_next := fun _ h => List.mem_cons_of_mem _ (List.mem_append_left _ (List.mem_append_right _ h))
  unfold wX2_next at hw
  refine lv_aload_n hx hb dX2_next_0 rfl (lv_at hl 0 rfl) ?_
  refine va_get (D := D) (ci := 2) (v := .ref (g 7)) (C := RX2) (T := TX2) (N := 7) hx hb hts hinX2 hown hK hP 0 rfl rfl 1 (by decide) (hts (.fieldLink RX2 19 "SlabHeap" "pages" "LSlabHeap$Pages;") (by decide +kernel)) (fun _ h9 => h9) rfl dX2_next_1 ?_
  refine lv_iload_n hx hb dX2_next_4 rfl (lv_at hl 1 rfl) ?_
  refine pcall (va_runV (As := [.int x1]) (rest := []) hC (c_X0_extentFor l D g k kd fm tk mr x1 _ hw s.heap) (cwV 1 hts gX2_next_X0_extentFor rfl rfl rfl (by decide +kernel) ⟨Nat.le_of_ble_eq_true rfl, Nat.le_of_ble_eq_true rfl⟩) (preV_p (va_recv hK hP (ci := 0) (q0 := 7) rfl rfl) (hP.sub [7, 8, 9, 10, 11] rfl) hK hZ hS) rfl rfl hl.1 rfl (lv_room (Nat.le_of_ble_eq_true rfl)) dX2_next_5 ⟨Nat.le_of_ble_eq_true rfl, Nat.le_of_ble_eq_true rfl⟩) (fun r_1 hw => ?_)
  exact hret _ _ _ dX2_next_8 hw
-- X2_liveWords
abbrev rmX2_liveWords : Room := { frames := 4, cells := 0, slots := 0, locals := 83 }
set_option maxHeartbeats 4000000 in
set_option maxRecDepth 100000 in
theorem c_X2_liveWords (l : Launch) (D : va_G) (g : Nat → Nat) (k : xC) (fd : Int32) (cd : Int32) (cr : Int32) (tr : Int32) (ro : Nat → Int32) (nw : Nat → Int32) (kp : Nat → Int32) (qu : Nat → Int32) (qd : Nat → Int32) (ql : Int32) (kd : Nat → Int32) (fm : Nat → Int32) (tk : Nat → Int32) (mr : Nat → Int32)  (post : Int32 → (Nat → Int32) → Prop) (hw : wX2_liveWords post ro nw kd fm tk) : CMi l yX2_liveWords wsX2_liveWords rmX2_liveWords D k [.ref (g 0)] (fun v : (Nat → Int32) => (xS g k fd cd cr tr v nw kp qu qd ql kd fm tk mr)) ro (fun r v => post r v) := by
  refine met_mi (cc := cX2_liveWords) (nL := 4) (by decide) rfl (Nat.le_of_ble_eq_true rfl) ?_
  intro p e s m args below meth c Q A ls hC hP hD hA hK hZ hS hl hret
  obtain ⟨hx, hb, hml, hown, hts⟩ := id hC
  have hC : CallFix p m c cX2_liveWords 4 s args wsX2_liveWords RX2 := hC
  have hown : s.vm.findClass RX2 = some m.cls := hown
  have hl : lv_has ls 4 [(0, .ref (g 0))] := hl
  have hP : va_P D vwCl (xS g k fd cd cr tr ro nw kp qu qd ql kd fm tk mr) s.heap := hP
  have hD : va_D A (xS g k fd cd cr tr ro nw kp qu qd ql kd fm tk mr) := hD
  have hinX2 : ∀ w ∈ wsX20, w ∈ wsX2_liveWords := fun _ h => List.mem_cons_of_mem _ (List.mem_append_left _ (List.mem_append_left _ (List.mem_append_right _ h)))
  have B9 : ∀ (fu : Nat), ∀ (x1 : Int32), ∀ (x2 : Int32), ∀ (x3 : Int32), ∀ (ro : Nat → Int32), ∀ (H : Heap) (locs : List Loc), va_P D vwCl (xS g k fd cd cr tr ro nw kp qu qd ql kd fm tk mr) H → va_D A (xS g k fd cd cr tr ro nw kp qu qd ql kd fm tk mr) → va_S A s.heap H locs → ∀ (ls : Array Slot), lv_has ls 4 [(0, .ref (g 0)), (1, .int x1), (2, .int x2), (3, .int x3)] → wX2_liveWords_9 post nw kd fm tk fu x1 x2 x3 ro → W p l e rmX2_liveWords s m args below meth c H locs 0 0 Q (F0 m 9 ls []) := by
    intro  fu
    induction fu with
    | zero =>
      intro x1 x2 x3 ro H locs hP hD hS ls hl hw
      exact absurd hw (by unfold wX2_liveWords_9; exact fun q => q)
    | succ n ih =>
      intro x1 x2 x3 ro H locs hP hD hS ls hl hw
      unfold wX2_liveWords_9 at hw
      refine lv_iload_n hx hb dX2_liveWords_9 rfl (lv_at hl 3 rfl) ?_
      refine lv_iload_n hx hb dX2_liveWords_10 rfl (lv_at hl 1 rfl) ?_
      refine lv_icmp_ge (tgt := 32) hx hb dX2_liveWords_11 (by decide) (fun c_3 => ?_) (fun c_3 => ?_)
      · have hw := hw.1 c_3
        refine lv_iload_n hx hb dX2_liveWords_32 rfl (lv_at hl 2 rfl) ?_
        exact hret _ _ _ ro _ _ hP hD hS dX2_liveWords_33 hw
      · have hw := hw.2 c_3
        refine lv_iload_n hx hb dX2_liveWords_14 rfl (lv_at hl 2 rfl) ?_
        refine lv_aload_n hx hb dX2_liveWords_15 rfl (lv_at hl 0 rfl) ?_
        refine lv_aload_n hx hb dX2_liveWords_16 rfl (lv_at hl 0 rfl) ?_
        refine lv_iload_n hx hb dX2_liveWords_17 rfl (lv_at hl 3 rfl) ?_
        refine pcall (va_runV (As := [.int x3]) (rest := [.ref (g 0), .int x2]) hC (c_X2_rowAt l D g k fd cd cr tr ro nw kp qu qd ql kd fm tk mr x3 _ hw H) (cwV 1 hts gX2_liveWords_X2_rowAt rfl rfl rfl (by decide +kernel) ⟨Nat.le_of_ble_eq_true rfl, Nat.le_of_ble_eq_true rfl⟩) (preV_p (va_recv hK hP (ci := 2) (q0 := 0) rfl rfl) hP hK hZ hS) rfl rfl hl.1 rfl (lv_room (Nat.le_of_ble_eq_true rfl)) dX2_liveWords_18 ⟨Nat.le_of_ble_eq_true rfl, Nat.le_of_ble_eq_true rfl⟩) (fun r_4 hw => ?_)
        refine pcall (va_runV (As := [.int r_4]) (rest := [.int x2]) hC (c_X2_lengthOf l D g k fd cd cr tr ro nw kp qu qd ql kd fm tk mr r_4 _ hw H) (cwV 1 hts gX2_liveWords_X2_lengthOf rfl rfl rfl (by decide +kernel) ⟨Nat.le_of_ble_eq_true rfl, Nat.le_of_ble_eq_true rfl⟩) (preV_p (va_recv hK hP (ci := 2) (q0 := 0) rfl rfl) hP hK hZ hS) rfl rfl hl.1 rfl (lv_room (Nat.le_of_ble_eq_true rfl)) dX2_liveWords_21 ⟨Nat.le_of_ble_eq_true rfl, Nat.le_of_ble_eq_true rfl⟩) (fun r_5 hw => ?_)
        refine lv_iadd hx hb dX2_liveWords_24 ?_
        refine lv_topi (fun x2_6 ex2_6 => ?_)
        have hw := hw x2_6 ex2_6
        refine lv_istore_n (lv' := [(2, .int x2_6), (0, .ref (g 0)), (1, .int x1), (3, .int x3)]) hx hb dX2_liveWords_25 rfl hl (by decide) rfl (fun ls hl => ?_)
        obtain ⟨x3_7, ex3_7⟩ : ∃ y : Int32, y = x3 + 1 := ⟨_, rfl⟩
        have hw := hw x3_7 ex3_7
        refine lv_iinc (v := x3_7) (lv' := [(3, .int x3_7), (2, .int x2_6), (0, .ref (g 0)), (1, .int x1)]) hx hb dX2_liveWords_26 hl (k := 3) rfl (by rw [ex3_7]; rfl) (by decide) rfl (fun ls hl => ?_)
        refine lv_goto (tgt := 9) hx hb dX2_liveWords_29 (by decide) ?_
        exact ih x1 x2_6 x3_7 ro H locs hP hD hS ls (lv_sub hl [2, 3, 1, 0] rfl) hw
  unfold wX2_liveWords at hw
  suffices main : ∀ (H : Heap) (locs : List Loc), va_P D vwCl (xS g k fd cd cr tr ro nw kp qu qd ql kd fm tk mr) H → va_D A (xS g k fd cd cr tr ro nw kp qu qd ql kd fm tk mr) → va_S A s.heap H locs → W p l e rmX2_liveWords s m args below meth c H locs 0 0 Q (F0 m 0 ls []) from main _ _ hP hD hS
  intro H locs hP hD hS
  refine lv_aload_n hx hb dX2_liveWords_0 rfl (lv_at hl 0 rfl) ?_
  refine icall (wr := []) (va_runV (As := []) (rest := []) hC (c_X2_listLive l D g k fd cd cr tr ro nw kp qu qd ql kd fm tk mr _ hw H.size) (cwV 0 hts gX2_liveWords_X2_listLive rfl rfl rfl (by decide +kernel) ⟨Nat.le_of_ble_eq_true rfl, Nat.le_of_ble_eq_true rfl⟩) (preV_m (va_recv hK hP (ci := 2) (q0 := 0) rfl rfl) hP hD hA hK hZ hS [0, 1, 2, 3, 4, 5, 6, 7, 8, 9, 10, 11] rfl rfl (by decide)) rfl rfl hl.1 rfl (lv_room (Nat.le_of_ble_eq_true rfl)) dX2_liveWords_1 ⟨Nat.le_of_ble_eq_true rfl, Nat.le_of_ble_eq_true rfl⟩) hP hD hA hS [0, 1, 2, 3, 4, 5, 6, 7, 8, 9, 10, 11] [] rfl rfl (by decide) (by decide) (fun r_2 u' H locs hw hP hD hS => ?_)
  obtain ⟨ro_1, rfl⟩ : ∃ z, z = u' := ⟨_, rfl⟩
  try dsimp only at hw
  have hP : va_P D vwCl (xS g k fd cd cr tr ro_1 nw kp qu qd ql kd fm tk mr) H := hP
  have hD : va_D A (xS g k fd cd cr tr ro_1 nw kp qu qd ql kd fm tk mr) := hD
  refine lv_istore_n (lv' := [(1, .int r_2), (0, .ref (g 0))]) hx hb dX2_liveWords_4 rfl hl (by decide) rfl (fun ls hl => ?_)
  refine lv_iconst (v := 0) hx hb dX2_liveWords_5 (by decide) ?_
  refine lv_istore_n (lv' := [(2, .int 0), (1, .int r_2), (0, .ref (g 0))]) hx hb dX2_liveWords_6 rfl hl (by decide) rfl (fun ls hl => ?_)
  refine lv_iconst (v := 0) hx hb dX2_liveWords_7 (by decide) ?_
  refine lv_istore_n (lv' := [(3, .int 0), (2, .int 0), (1, .int r_2), (0, .ref (g 0))]) hx hb dX2_liveWords_8 rfl hl (by decide) rfl (fun ls hl => ?_)
  obtain ⟨fu_8, hw⟩ := hw
  exact B9  fu_8 r_2 0 0 ro_1 H locs hP hD hS ls (lv_sub hl [3, 2, 1, 0] rfl) hw
-- X2_count
abbrev rmX2_count : Room := { frames := 5, cells := 0, slots := 0, locals := 106 }
set_option maxHeartbeats 4000000 in
set_option maxRecDepth 100000 in
theorem c_X2_count (l : Launch) (D : va_G) (g : Nat → Nat) (k : xC) (fd : Int32) (cd : Int32) (cr : Int32) (tr : Int32) (ro : Nat → Int32) (nw : Nat → Int32) (kp : Nat → Int32) (qu : Nat → Int32) (qd : Nat → Int32) (ql : Int32) (kd : Nat → Int32) (fm : Nat → Int32) (tk : Nat → Int32) (mr : Nat → Int32) (x1 : Int32) (post : Int32 → (Nat → Int32) → Prop) (hw : wX2_count post cd cr ro nw ql kd fm tk x1) : CMi l yX2_count wsX2_count rmX2_count D k [.ref (g 0), .int x1] (fun v : (Nat → Int32) => (xS g k fd cd cr tr v nw kp qu qd ql kd fm tk mr)) ro (fun r v => post r v) := by
  refine met_mi (cc := cX2_count) (nL := 2) (by decide) rfl (Nat.le_of_ble_eq_true rfl) ?_
  intro p e s m args below meth c Q A ls hC hP hD hA hK hZ hS hl hret
  obtain ⟨hx, hb, hml, hown, hts⟩ := id hC
  have hC : CallFix p m c cX2_count 2 s args wsX2_count RX2 := hC
  have hown : s.vm.findClass RX2 = some m.cls := hown
  have hl : lv_has ls 2 [(0, .ref (g 0)), (1, .int x1)] := hl
  have hP : va_P D vwCl (xS g k fd cd cr tr ro nw kp qu qd ql kd fm tk mr) s.heap := hP
  have hD : va_D A (xS g k fd cd cr tr ro nw kp qu qd ql kd fm tk mr) := hD
  have hinX2 : ∀ w ∈ wsX20, w ∈ wsX2_count := fun _ h => List.mem_cons_of_mem _ (List.mem_append_left _ (List.mem_append_left _ (List.mem_append_right _ h)))
  unfold wX2_count at hw
  suffices main : ∀ (H : Heap) (locs : List Loc), va_P D vwCl (xS g k fd cd cr tr ro nw kp qu qd ql kd fm tk mr) H → va_D A (xS g k fd cd cr tr ro nw kp qu qd ql kd fm tk mr) → va_S A s.heap H locs → W p l e rmX2_count s m args below meth c H locs 0 0 Q (F0 m 0 ls []) from main _ _ hP hD hS
  intro H locs hP hD hS
  refine lv_iload_n hx hb dX2_count_0 rfl (lv_at hl 1 rfl) ?_
  by_cases c_1 : x1 < 0
  · have hw := hw.1 c_1
    refine lv_tableOut (tgt := 102) hx hb dX2_count_1 (Or.inl (by rw [Int32.lt_iff_toInt_lt] at c_1; exact c_1)) (by decide) ?_
    refine lv_iconst (v := (-1)) hx hb dX2_count_102 (by decide) ?_
    exact hret _ _ _ ro _ _ hP hD hS dX2_count_103 hw
  have hw := hw.2 c_1
  by_cases c_2 : 7 < x1
  · have hw := hw.1 c_2
    refine lv_tableOut (tgt := 102) hx hb dX2_count_1 (Or.inr (by rw [Int32.lt_iff_toInt_lt] at c_2; exact c_2)) (by decide) ?_
    refine lv_iconst (v := (-1)) hx hb dX2_count_102 (by decide) ?_
    exact hret _ _ _ ro _ _ hP hD hS dX2_count_103 hw
  have hw := hw.2 c_2
  obtain ⟨j_3, hj_3, ej_3⟩ := nI_of2 (x := x1) (M := 7) (n := 7) rfl c_1 (Int32.not_lt.mp c_2)
  rcases (show j_3 = 0 ∨ j_3 = 1 ∨ j_3 = 2 ∨ j_3 = 3 ∨ j_3 = 4 ∨ j_3 = 5 ∨ j_3 = 6 ∨ j_3 = 7 by omega) with rfl | rfl | rfl | rfl | rfl | rfl | rfl | rfl
  · have hw := hw.1 ej_3
    refine lv_tableIn (tgt := 48) hx hb dX2_count_1 (by rw [ej_3]; decide) (by rw [ej_3]; decide) (by rw [ej_3]; rfl) (by decide) ?_
    refine lv_aload_n hx hb dX2_count_48 rfl (lv_at hl 0 rfl) ?_
    refine icall (wr := []) (va_runV (As := []) (rest := []) hC (c_X2_listLive l D g k fd cd cr tr ro nw kp qu qd ql kd fm tk mr _ hw H.size) (cwV 0 hts gX2_count_X2_listLive rfl rfl rfl (by decide +kernel) ⟨Nat.le_of_ble_eq_true rfl, Nat.le_of_ble_eq_true rfl⟩) (preV_m (va_recv hK hP (ci := 2) (q0 := 0) rfl rfl) hP hD hA hK hZ hS [0, 1, 2, 3, 4, 5, 6, 7, 8, 9, 10, 11] rfl rfl (by decide)) rfl rfl hl.1 rfl (lv_room (Nat.le_of_ble_eq_true rfl)) dX2_count_49 ⟨Nat.le_of_ble_eq_true rfl, Nat.le_of_ble_eq_true rfl⟩) hP hD hA hS [0, 1, 2, 3, 4, 5, 6, 7, 8, 9, 10, 11] [] rfl rfl (by decide) (by decide) (fun r_5 u' H locs hw hP hD hS => ?_)
    obtain ⟨ro_4, rfl⟩ : ∃ z, z = u' := ⟨_, rfl⟩
    try dsimp only at hw
    have hP : va_P D vwCl (xS g k fd cd cr tr ro_4 nw kp qu qd ql kd fm tk mr) H := hP
    have hD : va_D A (xS g k fd cd cr tr ro_4 nw kp qu qd ql kd fm tk mr) := hD
    exact hret _ _ _ ro_4 _ _ hP hD hS dX2_count_52 hw
  · have hw := hw.2.1 ej_3
    refine lv_tableIn (tgt := 53) hx hb dX2_count_1 (by rw [ej_3]; decide) (by rw [ej_3]; decide) (by rw [ej_3]; rfl) (by decide) ?_
    refine lv_aload_n hx hb dX2_count_53 rfl (lv_at hl 0 rfl) ?_
    refine va_get (D := D) (ci := 2) (v := .ref (g 7)) (C := RX2) (T := TX2) (N := 7) hx hb hts hinX2 hown hK hP 0 rfl rfl 1 (by decide) (hts (.fieldLink RX2 19 "SlabHeap" "pages" "LSlabHeap$Pages;") (by decide +kernel)) (fun _ h9 => h9) rfl dX2_count_54 ?_
    refine lv_iconst (v := 0) hx hb dX2_count_57 (by decide) ?_
    refine pcall (va_runV (As := [.int 0]) (rest := []) hC (c_X0_howMany l D g k kd fm tk mr 0 _ hw H) (cwV 1 hts gX2_count_X0_howMany rfl rfl rfl (by decide +kernel) ⟨Nat.le_of_ble_eq_true rfl, Nat.le_of_ble_eq_true rfl⟩) (preV_p (va_recv hK hP (ci := 0) (q0 := 7) rfl rfl) (hP.sub [7, 8, 9, 10, 11] rfl) hK hZ hS) rfl rfl hl.1 rfl (lv_room (Nat.le_of_ble_eq_true rfl)) dX2_count_58 ⟨Nat.le_of_ble_eq_true rfl, Nat.le_of_ble_eq_true rfl⟩) (fun r_6 hw => ?_)
    exact hret _ _ _ ro _ _ hP hD hS dX2_count_61 hw
  · have hw := hw.2.2.1 ej_3
    refine lv_tableIn (tgt := 62) hx hb dX2_count_1 (by rw [ej_3]; decide) (by rw [ej_3]; decide) (by rw [ej_3]; rfl) (by decide) ?_
    refine lv_aload_n hx hb dX2_count_62 rfl (lv_at hl 0 rfl) ?_
    refine va_get (D := D) (ci := 2) (v := .ref (g 7)) (C := RX2) (T := TX2) (N := 7) hx hb hts hinX2 hown hK hP 0 rfl rfl 1 (by decide) (hts (.fieldLink RX2 19 "SlabHeap" "pages" "LSlabHeap$Pages;") (by decide +kernel)) (fun _ h9 => h9) rfl dX2_count_63 ?_
    refine lv_iconst (v := 1) hx hb dX2_count_66 (by decide) ?_
    refine pcall (va_runV (As := [.int 1]) (rest := []) hC (c_X0_howMany l D g k kd fm tk mr 1 _ hw H) (cwV 1 hts gX2_count_X0_howMany rfl rfl rfl (by decide +kernel) ⟨Nat.le_of_ble_eq_true rfl, Nat.le_of_ble_eq_true rfl⟩) (preV_p (va_recv hK hP (ci := 0) (q0 := 7) rfl rfl) (hP.sub [7, 8, 9, 10, 11] rfl) hK hZ hS) rfl rfl hl.1 rfl (lv_room (Nat.le_of_ble_eq_true rfl)) dX2_count_67 ⟨Nat.le_of_ble_eq_true rfl, Nat.le_of_ble_eq_true rfl⟩) (fun r_7 hw => ?_)
    exact hret _ _ _ ro _ _ hP hD hS dX2_count_70 hw
  · have hw := hw.2.2.2.1 ej_3
    refine lv_tableIn (tgt := 71) hx hb dX2_count_1 (by rw [ej_3]; decide) (by rw [ej_3]; decide) (by rw [ej_3]; rfl) (by decide) ?_
    refine lv_aload_n hx hb dX2_count_71 rfl (lv_at hl 0 rfl) ?_
    refine va_get (D := D) (ci := 2) (v := .ref (g 7)) (C := RX2) (T := TX2) (N := 7) hx hb hts hinX2 hown hK hP 0 rfl rfl 1 (by decide) (hts (.fieldLink RX2 19 "SlabHeap" "pages" "LSlabHeap$Pages;") (by decide +kernel)) (fun _ h9 => h9) rfl dX2_count_72 ?_
    refine pcall (va_runV (As := []) (rest := []) hC (c_X0_emptySlots l D g k kd fm tk mr _ hw H) (cwV 0 hts gX2_count_X0_emptySlots rfl rfl rfl (by decide +kernel) ⟨Nat.le_of_ble_eq_true rfl, Nat.le_of_ble_eq_true rfl⟩) (preV_p (va_recv hK hP (ci := 0) (q0 := 7) rfl rfl) (hP.sub [7, 8, 9, 10, 11] rfl) hK hZ hS) rfl rfl hl.1 rfl (lv_room (Nat.le_of_ble_eq_true rfl)) dX2_count_75 ⟨Nat.le_of_ble_eq_true rfl, Nat.le_of_ble_eq_true rfl⟩) (fun r_8 hw => ?_)
    exact hret _ _ _ ro _ _ hP hD hS dX2_count_78 hw
  · have hw := hw.2.2.2.2.1 ej_3
    refine lv_tableIn (tgt := 79) hx hb dX2_count_1 (by rw [ej_3]; decide) (by rw [ej_3]; decide) (by rw [ej_3]; rfl) (by decide) ?_
    refine lv_aload_n hx hb dX2_count_79 rfl (lv_at hl 0 rfl) ?_
    refine va_get (D := D) (ci := 2) (v := .ref (g 2)) (C := RX2) (T := TX2) (N := 7) hx hb hts hinX2 hown hK hP 0 rfl rfl 0 (by decide) (hts (.fieldLink RX2 10 "SlabHeap" "words" "LSlabHeap$Words;") (by decide +kernel)) (fun _ h9 => h9) rfl dX2_count_80 ?_
    refine pcall (va_runV (As := []) (rest := []) hC (c_X1_waiting l D g k nw kp qu qd ql _ hw H) (cwV 0 hts gX2_count_X1_waiting rfl rfl rfl (by decide +kernel) ⟨Nat.le_of_ble_eq_true rfl, Nat.le_of_ble_eq_true rfl⟩) (preV_p (va_recv hK hP (ci := 1) (q0 := 2) rfl rfl) (hP.sub [2, 3, 4, 5, 6] rfl) hK hZ hS) rfl rfl hl.1 rfl (lv_room (Nat.le_of_ble_eq_true rfl)) dX2_count_83 ⟨Nat.le_of_ble_eq_true rfl, Nat.le_of_ble_eq_true rfl⟩) (fun r_9 hw => ?_)
    exact hret _ _ _ ro _ _ hP hD hS dX2_count_86 hw
  · have hw := hw.2.2.2.2.2.1 ej_3
    refine lv_tableIn (tgt := 87) hx hb dX2_count_1 (by rw [ej_3]; decide) (by rw [ej_3]; decide) (by rw [ej_3]; rfl) (by decide) ?_
    refine lv_aload_n hx hb dX2_count_87 rfl (lv_at hl 0 rfl) ?_
    refine va_get (D := D) (ci := 2) (v := .int cd) (C := RX2) (T := TX2) (N := 7) hx hb hts hinX2 hown hK hP 0 rfl rfl 4 (by decide) (hts (.fieldLink RX2 31 "SlabHeap" "cleared" "I") (by decide +kernel)) (fun _ h9 => h9) rfl dX2_count_88 ?_
    exact hret _ _ _ ro _ _ hP hD hS dX2_count_91 hw
  · have hw := hw.2.2.2.2.2.2.1 ej_3
    refine lv_tableIn (tgt := 92) hx hb dX2_count_1 (by rw [ej_3]; decide) (by rw [ej_3]; decide) (by rw [ej_3]; rfl) (by decide) ?_
    refine lv_aload_n hx hb dX2_count_92 rfl (lv_at hl 0 rfl) ?_
    refine icall (wr := []) (va_runV (As := []) (rest := []) hC (c_X2_liveWords l D g k fd cd cr tr ro nw kp qu qd ql kd fm tk mr _ hw H.size) (cwV 0 hts gX2_count_X2_liveWords rfl rfl rfl (by decide +kernel) ⟨Nat.le_of_ble_eq_true rfl, Nat.le_of_ble_eq_true rfl⟩) (preV_m (va_recv hK hP (ci := 2) (q0 := 0) rfl rfl) hP hD hA hK hZ hS [0, 1, 2, 3, 4, 5, 6, 7, 8, 9, 10, 11] rfl rfl (by decide)) rfl rfl hl.1 rfl (lv_room (Nat.le_of_ble_eq_true rfl)) dX2_count_93 ⟨Nat.le_of_ble_eq_true rfl, Nat.le_of_ble_eq_true rfl⟩) hP hD hA hS [0, 1, 2, 3, 4, 5, 6, 7, 8, 9, 10, 11] [] rfl rfl (by decide) (by decide) (fun r_11 u' H locs hw hP hD hS => ?_)
    obtain ⟨ro_10, rfl⟩ : ∃ z, z = u' := ⟨_, rfl⟩
    try dsimp only at hw
    have hP : va_P D vwCl (xS g k fd cd cr tr ro_10 nw kp qu qd ql kd fm tk mr) H := hP
    have hD : va_D A (xS g k fd cd cr tr ro_10 nw kp qu qd ql kd fm tk mr) := hD
    exact hret _ _ _ ro_10 _ _ hP hD hS dX2_count_96 hw
  · have hw := hw.2.2.2.2.2.2.2 ej_3
    refine lv_tableIn (tgt := 97) hx hb dX2_count_1 (by rw [ej_3]; decide) (by rw [ej_3]; decide) (by rw [ej_3]; rfl) (by decide) ?_
    refine lv_aload_n hx hb dX2_count_97 rfl (lv_at hl 0 rfl) ?_
    refine va_get (D := D) (ci := 2) (v := .int cr) (C := RX2) (T := TX2) (N := 7) hx hb hts hinX2 hown hK hP 0 rfl rfl 5 (by decide) (hts (.fieldLink RX2 34 "SlabHeap" "crashes" "I") (by decide +kernel)) (fun _ h9 => h9) rfl dX2_count_98 ?_
    exact hret _ _ _ ro _ _ hP hD hS dX2_count_101 hw
-- X2_head
abbrev rmX2_head : Room := { frames := 2, cells := 0, slots := 0, locals := 45 }
set_option maxHeartbeats 4000000 in
set_option maxRecDepth 100000 in
theorem c_X2_head (l : Launch) (D : va_G) (g : Nat → Nat) (k : xC) (fd : Int32) (cd : Int32) (cr : Int32) (tr : Int32) (ro : Nat → Int32) (nw : Nat → Int32) (kp : Nat → Int32) (qu : Nat → Int32) (qd : Nat → Int32) (ql : Int32) (kd : Nat → Int32) (fm : Nat → Int32) (tk : Nat → Int32) (mr : Nat → Int32) (x1 : Int32) (x2 : Int32) (x3 : Int32) (post : Int32 → Prop) (hw : wX2_head post x1 x2 x3) : CPi l yX2_head wsX2_head rmX2_head D k [.ref (g 0), .int x1, .int x2, .int x3] (xS g k fd cd cr tr ro nw kp qu qd ql kd fm tk mr) post := by
  refine met_pi (cc := cX2_head) (nL := 5) (by decide) rfl (Nat.le_of_ble_eq_true rfl) ?_
  intro p e s m args below meth c Q ls hC hP hK hZ hS hl hret
  obtain ⟨hx, hb, hml, hown, hts⟩ := id hC
  have hC : CallFix p m c cX2_head 5 s args wsX2_head RX2 := hC
  have hown : s.vm.findClass RX2 = some m.cls := hown
  have hl : lv_has ls 5 [(0, .ref (g 0)), (1, .int x1), (2, .int x2), (3, .int x3)] := hl
  have B26 : ∀ (x1 : Int32), ∀ (x2 : Int32), ∀ (x3 : Int32), ∀ (z0 : Int32), ∀ (ls : Array Slot), lv_has ls 5 [(1, .int x1), (2, .int x2), (3, .int x3)] → wX2_head_26 post x1 x2 x3 z0 → W p l e rmX2_head s m args below meth c s.heap [] 0 0 Q (F0 m 26 ls [.int z0]) := by
    intro  x1 x2 x3 z0 ls hl hw
    unfold wX2_head_26 at hw
    refine lv_istore (lv' := [(4, .int z0), (1, .int x1), (2, .int x2), (3, .int x3)]) hx hb dX2_head_26 hl (by decide) rfl (fun ls hl => ?_)
    refine lv_iload hx hb dX2_head_28 (lv_at hl 0 rfl) ?_
    refine lv_if_eq (tgt := 42) hx hb dX2_head_30 (by decide) (fun c_2 => ?_) (fun c_2 => ?_)
    · have hw := hw.1 c_2
      refine lv_iconst (v := 0) hx hb dX2_head_42 (by decide) ?_
      exact hret _ _ _ dX2_head_43 hw
    · have hw := hw.2 c_2
      refine lv_iload_n hx hb dX2_head_33 rfl (lv_at hl 1 rfl) ?_
      refine lv_iload_n hx hb dX2_head_34 rfl (lv_at hl 2 rfl) ?_
      refine lv_iload_n hx hb dX2_head_35 rfl (lv_at hl 3 rfl) ?_
      refine pcall (va_runS (As := [.int x1, .int x2, .int x3]) (rest := []) hC (c_X2_headOf l D k x1 x2 x3 _ hw s.heap) (va_cwS 3 hts gX2_head_X2_headOf rfl rfl rfl (by decide +kernel) ⟨Nat.le_of_ble_eq_true rfl, Nat.le_of_ble_eq_true rfl⟩) (preS_p (hP.sub [] rfl) hK hZ hS) rfl rfl hl.1 rfl (lv_room (Nat.le_of_ble_eq_true rfl)) dX2_head_36 ⟨Nat.le_of_ble_eq_true rfl, Nat.le_of_ble_eq_true rfl⟩) (fun r_3 hw => ?_)
      refine lv_goto (tgt := 43) hx hb dX2_head_39 (by decide) ?_
      exact hret _ _ _ dX2_head_43 hw
  have B25 : ∀ (x1 : Int32), ∀ (x2 : Int32), ∀ (x3 : Int32), ∀ (ls : Array Slot), lv_has ls 5 [(1, .int x1), (2, .int x2), (3, .int x3)] → wX2_head_25 post x1 x2 x3 → W p l e rmX2_head s m args below meth c s.heap [] 0 0 Q (F0 m 25 ls []) := by
    intro  x1 x2 x3 ls hl hw
    unfold wX2_head_25 at hw
    refine lv_iconst (v := 0) hx hb dX2_head_25 (by decide) ?_
    exact B26  x1 x2 x3 0 ls (lv_sub hl [0, 1, 2] rfl) hw
  unfold wX2_head at hw
  refine lv_iload_n hx hb dX2_head_0 rfl (lv_at hl 1 rfl) ?_
  refine lv_bipush (v := 16) hx hb dX2_head_1 (by decide) ?_
  refine lv_icmp_lt (tgt := 25) hx hb dX2_head_3 (by decide) (fun c_1 => ?_) (fun c_1 => ?_)
  · have hw := hw.1 c_1
    exact B25  x1 x2 x3 ls (lv_sub hl [1, 2, 3] rfl) hw
  · have hw := hw.2 c_1
    refine lv_iload_n hx hb dX2_head_6 rfl (lv_at hl 1 rfl) ?_
    refine lv_sipush (v := 4096) hx hb dX2_head_7 (by decide) ?_
    refine lv_icmp_ge (tgt := 25) hx hb dX2_head_10 (by decide) (fun c_4 => ?_) (fun c_4 => ?_)
    · have hw := hw.1 c_4
      exact B25  x1 x2 x3 ls (lv_sub hl [1, 2, 3] rfl) hw
    · have hw := hw.2 c_4
      refine lv_iload_n hx hb dX2_head_13 rfl (lv_at hl 2 rfl) ?_
      refine lv_iload_n hx hb dX2_head_14 rfl (lv_at hl 3 rfl) ?_
      refine pcall (va_runS (As := [.int x2, .int x3]) (rest := []) hC (c_X2_isShape l D k x2 x3 _ hw s.heap) (va_cwS 2 hts gX2_head_X2_isShape rfl rfl rfl (by decide +kernel) ⟨Nat.le_of_ble_eq_true rfl, Nat.le_of_ble_eq_true rfl⟩) (preS_p (hP.sub [] rfl) hK hZ hS) rfl rfl hl.1 rfl (lv_room (Nat.le_of_ble_eq_true rfl)) dX2_head_15 ⟨Nat.le_of_ble_eq_true rfl, Nat.le_of_ble_eq_true rfl⟩) (fun r_5 hw => ?_)
      refine lv_if_eq (tgt := 25) hx hb dX2_head_18 (by decide) (fun c_6 => ?_) (fun c_6 => ?_)
      · have hw := hw.1 c_6
        exact B25  x1 x2 x3 ls (lv_sub hl [1, 2, 3] rfl) hw
      · have hw := hw.2 c_6
        refine lv_iconst (v := 1) hx hb dX2_head_21 (by decide) ?_
        refine lv_goto (tgt := 26) hx hb dX2_head_22 (by decide) ?_
        exact B26  x1 x2 x3 1 ls (lv_sub hl [1, 2, 3] rfl) hw
-- X2_waits
abbrev rmX2_waits : Room := { frames := 1, cells := 0, slots := 0, locals := 21 }
set_option maxHeartbeats 4000000 in
set_option maxRecDepth 100000 in
theorem c_X2_waits (l : Launch) (D : va_G) (g : Nat → Nat) (k : xC) (fd : Int32) (cd : Int32) (cr : Int32) (tr : Int32) (ro : Nat → Int32) (nw : Nat → Int32) (kp : Nat → Int32) (qu : Nat → Int32) (qd : Nat → Int32) (ql : Int32) (kd : Nat → Int32) (fm : Nat → Int32) (tk : Nat → Int32) (mr : Nat → Int32) (x1 : Int32) (post : Int32 → Prop) (hw : wX2_waits post qu ql x1) : CPi l yX2_waits wsX2_waits rmX2_waits D k [.ref (g 0), .int x1] (xS g k fd cd cr tr ro nw kp qu qd ql kd fm tk mr) post := by
  refine met_pi (cc := cX2_waits) (nL := 2) (by decide) rfl (Nat.le_of_ble_eq_true rfl) ?_
  intro p e s m args below meth c Q ls hC hP hK hZ hS hl hret
  obtain ⟨hx, hb, hml, hown, hts⟩ := id hC
  have hC : CallFix p m c cX2_waits 2 s args wsX2_waits RX2 := hC
  have hown : s.vm.findClass RX2 = some m.cls := hown
  have hl : lv_has ls 2 [(0, .ref (g 0)), (1, .int x1)] := hl
  have hinX2 : ∀ w ∈ wsX20, w ∈ wsX2_waits := fun _ h => List.mem_cons_of_mem _ (List.mem_append_left _ (List.mem_append_right _ h))
  unfold wX2_waits at hw
  refine lv_aload_n hx hb dX2_waits_0 rfl (lv_at hl 0 rfl) ?_
  refine va_get (D := D) (ci := 2) (v := .ref (g 2)) (C := RX2) (T := TX2) (N := 7) hx hb hts hinX2 hown hK hP 0 rfl rfl 0 (by decide) (hts (.fieldLink RX2 10 "SlabHeap" "words" "LSlabHeap$Words;") (by decide +kernel)) (fun _ h9 => h9) rfl dX2_waits_1 ?_
  refine lv_iload_n hx hb dX2_waits_4 rfl (lv_at hl 1 rfl) ?_
  refine pcall (va_runV (As := [.int x1]) (rest := []) hC (c_X1_lineAt l D g k nw kp qu qd ql x1 _ hw s.heap) (cwV 1 hts gX2_waits_X1_lineAt rfl rfl rfl (by decide +kernel) ⟨Nat.le_of_ble_eq_true rfl, Nat.le_of_ble_eq_true rfl⟩) (preV_p (va_recv hK hP (ci := 1) (q0 := 2) rfl rfl) (hP.sub [2, 3, 4, 5, 6] rfl) hK hZ hS) rfl rfl hl.1 rfl (lv_room (Nat.le_of_ble_eq_true rfl)) dX2_waits_5 ⟨Nat.le_of_ble_eq_true rfl, Nat.le_of_ble_eq_true rfl⟩) (fun r_1 hw => ?_)
  exact hret _ _ _ dX2_waits_8 hw
-- X2_trouble
abbrev rmX2_trouble : Room := { frames := 0, cells := 0, slots := 0, locals := 0 }
set_option maxHeartbeats 4000000 in
set_option maxRecDepth 100000 in
theorem c_X2_trouble (l : Launch) (D : va_G) (g : Nat → Nat) (k : xC) (fd : Int32) (cd : Int32) (cr : Int32) (tr : Int32) (ro : Nat → Int32) (nw : Nat → Int32) (kp : Nat → Int32) (qu : Nat → Int32) (qd : Nat → Int32) (ql : Int32) (kd : Nat → Int32) (fm : Nat → Int32) (tk : Nat → Int32) (mr : Nat → Int32)  (post : Int32 → Prop) (hw : wX2_trouble post tr) : CPi l yX2_trouble wsX2_trouble rmX2_trouble D k [.ref (g 0)] (xS g k fd cd cr tr ro nw kp qu qd ql kd fm tk mr) post := by
  refine met_pi (cc := cX2_trouble) (nL := 1) (by decide) rfl (Nat.le_of_ble_eq_true rfl) ?_
  intro p e s m args below meth c Q ls hC hP hK hZ hS hl hret
  obtain ⟨hx, hb, hml, hown, hts⟩ := id hC
  have hC : CallFix p m c cX2_trouble 1 s args wsX2_trouble RX2 := hC
  have hown : s.vm.findClass RX2 = some m.cls := hown
  have hl : lv_has ls 1 [(0, .ref (g 0))] := hl
  have hinX2 : ∀ w ∈ wsX20, w ∈ wsX2_trouble := fun _ h => List.mem_cons_of_mem _ (List.mem_append_right _ h)
  unfold wX2_trouble at hw
  refine lv_aload_n hx hb dX2_trouble_0 rfl (lv_at hl 0 rfl) ?_
  refine va_get (D := D) (ci := 2) (v := .int tr) (C := RX2) (T := TX2) (N := 7) hx hb hts hinX2 hown hK hP 0 rfl rfl 6 (by decide) (hts (.fieldLink RX2 37 "SlabHeap" "latestTrouble" "I") (by decide +kernel)) (fun _ h9 => h9) rfl dX2_trouble_1 ?_
  exact hret _ _ _ dX2_trouble_4 hw
