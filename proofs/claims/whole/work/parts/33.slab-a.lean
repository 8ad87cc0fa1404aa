-- X2_answer
abbrev rmX2_answer : Room := { frames := 0, cells := 0, slots := 0, locals := 0 }
set_option maxHeartbeats 4000000 in
set_option maxRecDepth 100000 in
theorem c_X2_answer (l : Launch) (D : va_G) (g : Nat → Nat) (k : xC) (fd : Int32) (cd : Int32) (cr : Int32) (tr : Int32) (ro : Nat → Int32) (nw : Nat → Int32) (kp : Nat → Int32) (qu : Nat → Int32) (qd : Nat → Int32) (ql : Int32) (kd : Nat → Int32) (fm : Nat → Int32) (tk : Nat → Int32) (mr : Nat → Int32) (x1 : Int32) (x2 : Int32) (post : Int32 → Int32 → Prop) (hw : wX2_answer post tr x1 x2) : CMi l yX2_answer wsX2_answer rmX2_answer D k [.ref (g 0), .int x1, .int x2] (fun v : Int32 => (xS g k fd cd cr v ro nw kp qu qd ql kd fm tk mr)) tr (fun r v => post r v) := by
  refine met_mi (cc := cX2_answer) (nL := 3) (by decide) rfl (Nat.le_of_ble_eq_true rfl) ?_
  intro p e s m args below meth c Q A ls hC hP hD hA hK hZ hS hl hret
  obtain ⟨hx, hb, hml, hown, hts⟩ := id hC
  have hC : CallFix p m c cX2_answer 3 s args wsX2_answer RX2 := hC
  have hown : s.vm.findClass RX2 = some m.cls := hown
  have hl : lv_has ls 3 [(0, .ref (g 0)), (1, .int x1), (2, .int x2)] := hl
  have hP : va_P D vwCl (xS g k fd cd cr tr ro nw kp qu qd ql kd fm tk mr) s.heap := hP
  have hD : va_D A (xS g k fd cd cr tr ro nw kp qu qd ql kd fm tk mr) := hD
  have hinX2 : ∀ w ∈ wsX20, w ∈ wsX2_answer := fun _ h => List.mem_cons_of_mem _ (List.mem_append_right _ h)
  unfold wX2_answer at hw
  suffices main : ∀ (H : Heap) (locs : List Loc), va_P D vwCl (xS g k fd cd cr tr ro nw kp qu qd ql kd fm tk mr) H → va_D A (xS g k fd cd cr tr ro nw kp qu qd ql kd fm tk mr) → va_S A s.heap H locs → W p l e rmX2_answer s m args below meth c H locs 0 0 Q (F0 m 0 ls []) from main _ _ hP hD hS
  intro H locs hP hD hS
  refine lv_aload_n hx hb dX2_answer_0 rfl (lv_at hl 0 rfl) ?_
  refine lv_iload_n hx hb dX2_answer_1 rfl (lv_at hl 1 rfl) ?_
  refine va_put (D := D) (ci := 2) (v := .int x1) (ty := .int) (C := RX2) (T := TX2) (N := 7) hx hb hts hinX2 tyX2 tyX2_ok nmX2 hown hK hP hD hS 0 rfl rfl 6 (by decide) (hts (.fieldLink RX2 37 "SlabHeap" "latestTrouble" "I") (by decide +kernel)) (fun _ h9 => h9) rfl (by decide +kernel) rfl rfl (Nat.le_of_ble_eq_true rfl) dX2_answer_2 (fun H locs hP hD hS => ?_)
  have hP : va_P D vwCl (xS g k fd cd cr x1 ro nw kp qu qd ql kd fm tk mr) H := hP
  have hD : va_D A (xS g k fd cd cr x1 ro nw kp qu qd ql kd fm tk mr) := hD
  refine lv_iload_n hx hb dX2_answer_5 rfl (lv_at hl 2 rfl) ?_
  exact hret _ _ _ x1 _ _ hP hD hS dX2_answer_6 hw
-- X2_alloc
abbrev rmX2_alloc : Room := { frames := 5, cells := 0, slots := 0, locals := 114 }
set_option maxHeartbeats 4000000 in
set_option maxRecDepth 100000 in
theorem c_X2_alloc (l : Launch) (D : va_G) (g : Nat → Nat) (k : xC) (fd : Int32) (cd : Int32) (cr : Int32) (tr : Int32) (ro : Nat → Int32) (nw : Nat → Int32) (kp : Nat → Int32) (qu : Nat → Int32) (qd : Nat → Int32) (ql : Int32) (kd : Nat → Int32) (fm : Nat → Int32) (tk : Nat → Int32) (mr : Nat → Int32) (x1 : Int32) (x2 : Int32) (post : Int32 → Int32 → (Nat → Int32) → (Nat → Int32) → (Nat → Int32) → Int32 → (Nat → Int32) → (Nat → Int32) → (Nat → Int32) → Prop) (hw : wX2_alloc post tr nw qu qd ql kd fm tk x1 x2) : CMi l yX2_alloc wsX2_alloc rmX2_alloc D k [.ref (g 0), .int x1, .int x2] (fun v : Int32 × (Nat → Int32) × (Nat → Int32) × (Nat → Int32) × Int32 × (Nat → Int32) × (Nat → Int32) × (Nat → Int32) => (xS g k fd cd cr (v.1) ro (v.2.1) kp (v.2.2.1) (v.2.2.2.1) (v.2.2.2.2.1) (v.2.2.2.2.2.1) (v.2.2.2.2.2.2.1) (v.2.2.2.2.2.2.2) mr)) (tr, nw, qu, qd, ql, kd, fm, tk) (fun r v => post r (v.1) (v.2.1) (v.2.2.1) (v.2.2.2.1) (v.2.2.2.2.1) (v.2.2.2.2.2.1) (v.2.2.2.2.2.2.1) (v.2.2.2.2.2.2.2)) := by
  refine met_mi (cc := cX2_alloc) (nL := 5) (by decide) rfl (Nat.le_of_ble_eq_true rfl) ?_
  intro p e s m args below meth c Q A ls hC hP hD hA hK hZ hS hl hret
  obtain ⟨hx, hb, hml, hown, hts⟩ := id hC
  have hC : CallFix p m c cX2_alloc 5 s args wsX2_alloc RX2 := hC
  have hown : s.vm.findClass RX2 = some m.cls := hown
  have hl : lv_has ls 5 [(0, .ref (g 0)), (1, .int x1), (2, .int x2)] := hl
  have hP : va_P D vwCl (xS g k fd cd cr tr ro nw kp qu qd ql kd fm tk mr) s.heap := hP
  have hD : va_D A (xS g k fd cd cr tr ro nw kp qu qd ql kd fm tk mr) := hD
  have hinX2 : ∀ w ∈ wsX20, w ∈ wsX2_alloc := fun _ h => List.mem_cons_of_mem _ (List.mem_append_left _ (List.mem_append_left _ (List.mem_append_right _ h)))
  have B62 : ∀ (fu : Nat), ∀ (x1 : Int32), ∀ (x3 : Int32), ∀ (x4 : Int32), ∀ (tr : Int32), ∀ (nw : Nat → Int32), ∀ (qu : Nat → Int32), ∀ (qd : Nat → Int32), ∀ (ql : Int32), ∀ (kd : Nat → Int32), ∀ (fm : Nat → Int32), ∀ (tk : Nat → Int32), ∀ (H : Heap) (locs : List Loc), va_P D vwCl (xS g k fd cd cr tr ro nw kp qu qd ql kd fm tk mr) H → va_D A (xS g k fd cd cr tr ro nw kp qu qd ql kd fm tk mr) → va_S A s.heap H locs → ∀ (ls : Array Slot), lv_has ls 5 [(0, .ref (g 0)), (1, .int x1), (3, .int x3), (4, .int x4)] → wX2_alloc_62 post fu x1 x3 x4 tr nw qu qd ql kd fm tk → W p l e rmX2_alloc s m args below meth c H locs 0 0 Q (F0 m 62 ls []) := by
    intro  fu
    induction fu with
    | zero =>
      intro x1 x3 x4 tr nw qu qd ql kd fm tk H locs hP hD hS ls hl hw
      exact absurd hw (by unfold wX2_alloc_62; exact fun q => q)
    | succ n ih =>
      intro x1 x3 x4 tr nw qu qd ql kd fm tk H locs hP hD hS ls hl hw
      unfold wX2_alloc_62 at hw
      refine lv_iload hx hb dX2_alloc_62 (lv_at hl 3 rfl) ?_
      refine lv_iload_n hx hb dX2_alloc_64 rfl (lv_at hl 1 rfl) ?_
      refine lv_icmp_ge (tgt := 88) hx hb dX2_alloc_65 (by decide) (fun c_13 => ?_) (fun c_13 => ?_)
      · have hw := hw.1 c_13
        refine lv_aload_n hx hb dX2_alloc_88 rfl (lv_at hl 0 rfl) ?_
        refine lv_iconst (v := 0) hx hb dX2_alloc_89 (by decide) ?_
        refine lv_iload_n hx hb dX2_alloc_90 rfl (lv_at hl 2 rfl) ?_
        refine icall (wr := []) (va_runV (As := [.int 0, .int x3]) (rest := []) hC (c_X2_answer l D g k fd cd cr tr ro nw kp qu qd ql kd fm tk mr 0 x3 _ hw H.size) (cwV 2 hts gX2_alloc_X2_answer rfl rfl rfl (by decide +kernel) ⟨Nat.le_of_ble_eq_true rfl, Nat.le_of_ble_eq_true rfl⟩) (preV_m (va_recv hK hP (ci := 2) (q0 := 0) rfl rfl) hP hD hA hK hZ hS [0, 1, 2, 3, 4, 5, 6, 7, 8, 9, 10, 11] rfl rfl (by decide)) rfl rfl hl.1 rfl (lv_room (Nat.le_of_ble_eq_true rfl)) dX2_alloc_91 ⟨Nat.le_of_ble_eq_true rfl, Nat.le_of_ble_eq_true rfl⟩) hP hD hA hS [0, 1, 2, 3, 4, 5, 6, 7, 8, 9, 10, 11] [] rfl rfl (by decide) (by decide) (fun r_15 u' H locs hw hP hD hS => ?_)
        obtain ⟨tr_14, rfl⟩ : ∃ z, z = u' := ⟨_, rfl⟩
        try dsimp only at hw
        have hP : va_P D vwCl (xS g k fd cd cr tr_14 ro nw kp qu qd ql kd fm tk mr) H := hP
        have hD : va_D A (xS g k fd cd cr tr_14 ro nw kp qu qd ql kd fm tk mr) := hD
        exact hret _ _ _ (tr_14, nw, qu, qd, ql, kd, fm, tk) _ _ hP hD hS dX2_alloc_94 hw
      · have hw := hw.2 c_13
        refine lv_aload_n hx hb dX2_alloc_68 rfl (lv_at hl 0 rfl) ?_
        refine va_get (D := D) (ci := 2) (v := .ref (g 2)) (C := RX2) (T := TX2) (N := 7) hx hb hts hinX2 hown hK hP 0 rfl rfl 0 (by decide) (hts (.fieldLink RX2 10 "SlabHeap" "words" "LSlabHeap$Words;") (by decide +kernel)) (fun _ h9 => h9) rfl dX2_alloc_69 ?_
        refine lv_iload_n hx hb dX2_alloc_72 rfl (lv_at hl 2 rfl) ?_
        refine lv_iload hx hb dX2_alloc_73 (lv_at hl 3 rfl) ?_
        refine pcall (va_runS (As := [.int x3, .int x4]) (rest := [.ref (g 2)]) hC (c_X2_wordOf l D k x3 x4 _ hw H) (va_cwS 2 hts gX2_alloc_X2_wordOf rfl rfl rfl (by decide +kernel) ⟨Nat.le_of_ble_eq_true rfl, Nat.le_of_ble_eq_true rfl⟩) (preS_p (hP.sub [] rfl) hK hZ hS) rfl rfl hl.1 rfl (lv_room (Nat.le_of_ble_eq_true rfl)) dX2_alloc_75 ⟨Nat.le_of_ble_eq_true rfl, Nat.le_of_ble_eq_true rfl⟩) (fun r_16 hw => ?_)
        refine lv_iconst (v := 0) hx hb dX2_alloc_78 (by decide) ?_
        refine vcall (wr := [(g 0, .inr (2, [.ref (g 2), .ref (g 7), .ref (g 1), .int fd, .int cd, .int cr, .int tr])), (g 1, .inl (k.1, 2040, .inl ro)), (g 7, .inr (0, [.ref (g 8), .ref (g 9), .ref (g 10), .ref (g 11)])), (g 8, .inl (k.1, 256, .inl kd)), (g 9, .inl (k.1, 256, .inl fm)), (g 10, .inl (k.1, 256, .inl tk)), (g 11, .inl (k.1, 256, .inl mr))]) (va_runV (As := [.int r_16, .int 0]) (rest := []) hC (c_X1_write l D g k nw kp qu qd ql r_16 0 _ hw H.size) (cwV 2 hts gX2_alloc_X1_write rfl rfl rfl (by decide +kernel) ⟨Nat.le_of_ble_eq_true rfl, Nat.le_of_ble_eq_true rfl⟩) (preV_m (va_recv hK hP (ci := 1) (q0 := 2) rfl rfl) hP hD hA hK hZ hS [2, 3, 4, 5, 6] rfl rfl (by decide)) rfl rfl hl.1 rfl (lv_room (Nat.le_of_ble_eq_true rfl)) dX2_alloc_79 ⟨Nat.le_of_ble_eq_true rfl, Nat.le_of_ble_eq_true rfl⟩) hP hD hA hS [2, 3, 4, 5, 6] [0, 1, 7, 8, 9, 10, 11] rfl rfl (by decide) (by decide) (fun u' H locs hw hP hD hS => ?_)
        obtain ⟨nw_17, qu_18, qd_19, ql_20⟩ := u'
        try dsimp only at hw
        have hP : va_P D vwCl (xS g k fd cd cr tr ro nw_17 kp qu_18 qd_19 ql_20 kd fm tk mr) H := hP.sub [0, 1, 7, 8, 9, 10, 11, 2, 3, 4, 5, 6] rfl
        have hD : va_D A (xS g k fd cd cr tr ro nw_17 kp qu_18 qd_19 ql_20 kd fm tk mr) := hD.sub [0, 1, 7, 8, 9, 10, 11, 2, 3, 4, 5, 6] (by decide) rfl
        obtain ⟨x4_21, ex4_21⟩ : ∃ y : Int32, y = x4 + 1 := ⟨_, rfl⟩
        have hw := hw x4_21 ex4_21
        refine lv_iinc (v := x4_21) (lv' := [(4, .int x4_21), (0, .ref (g 0)), (1, .int x1), (3, .int x3)]) hx hb dX2_alloc_82 hl (k := 3) rfl (by rw [ex4_21]; rfl) (by decide) rfl (fun ls hl => ?_)
        refine lv_goto (tgt := 62) hx hb dX2_alloc_85 (by decide) ?_
        exact ih x1 x3 x4_21 tr nw_17 qu_18 qd_19 ql_20 kd fm tk H locs hP hD hS ls (lv_sub hl [1, 2, 3, 0] rfl) hw
  unfold wX2_alloc at hw
  suffices main : ∀ (H : Heap) (locs : List Loc), va_P D vwCl (xS g k fd cd cr tr ro nw kp qu qd ql kd fm tk mr) H → va_D A (xS g k fd cd cr tr ro nw kp qu qd ql kd fm tk mr) → va_S A s.heap H locs → W p l e rmX2_alloc s m args below meth c H locs 0 0 Q (F0 m 0 ls []) from main _ _ hP hD hS
  intro H locs hP hD hS
  refine lv_iload_n hx hb dX2_alloc_0 rfl (lv_at hl 1 rfl) ?_
  refine lv_iload_n hx hb dX2_alloc_1 rfl (lv_at hl 2 rfl) ?_
  refine pcall (va_runS (As := [.int x1, .int x2]) (rest := []) hC (c_X2_isShape l D k x1 x2 _ hw H) (va_cwS 2 hts gX2_alloc_X2_isShape rfl rfl rfl (by decide +kernel) ⟨Nat.le_of_ble_eq_true rfl, Nat.le_of_ble_eq_true rfl⟩) (preS_p (hP.sub [] rfl) hK hZ hS) rfl rfl hl.1 rfl (lv_room (Nat.le_of_ble_eq_true rfl)) dX2_alloc_2 ⟨Nat.le_of_ble_eq_true rfl, Nat.le_of_ble_eq_true rfl⟩) (fun r_1 hw => ?_)
  refine lv_if_ne (tgt := 15) hx hb dX2_alloc_5 (by decide) (fun c_2 => ?_) (fun c_2 => ?_)
  · have hw := hw.1 c_2
    refine lv_aload_n hx hb dX2_alloc_15 rfl (lv_at hl 0 rfl) ?_
    refine va_get (D := D) (ci := 2) (v := .ref (g 7)) (C := RX2) (T := TX2) (N := 7) hx hb hts hinX2 hown hK hP 0 rfl rfl 1 (by decide) (hts (.fieldLink RX2 19 "SlabHeap" "pages" "LSlabHeap$Pages;") (by decide +kernel)) (fun _ h9 => h9) rfl dX2_alloc_16 ?_
    refine lv_iload_n hx hb dX2_alloc_19 rfl (lv_at hl 1 rfl) ?_
    refine pcall (va_runV (As := [.int x1]) (rest := []) hC (c_X0_placeFor l D g k kd fm tk mr x1 _ hw H) (cwV 1 hts gX2_alloc_X0_placeFor rfl rfl rfl (by decide +kernel) ⟨Nat.le_of_ble_eq_true rfl, Nat.le_of_ble_eq_true rfl⟩) (preV_p (va_recv hK hP (ci := 0) (q0 := 7) rfl rfl) (hP.sub [7, 8, 9, 10, 11] rfl) hK hZ hS) rfl rfl hl.1 rfl (lv_room (Nat.le_of_ble_eq_true rfl)) dX2_alloc_20 ⟨Nat.le_of_ble_eq_true rfl, Nat.le_of_ble_eq_true rfl⟩) (fun r_3 hw => ?_)
    refine lv_istore_n (lv' := [(3, .int r_3), (0, .ref (g 0)), (1, .int x1), (2, .int x2)]) hx hb dX2_alloc_23 rfl hl (by decide) rfl (fun ls hl => ?_)
    refine lv_iload_n hx hb dX2_alloc_24 rfl (lv_at hl 0 rfl) ?_
    refine lv_iconst (v := (-1)) hx hb dX2_alloc_25 (by decide) ?_
    refine lv_icmp_ne (tgt := 36) hx hb dX2_alloc_26 (by decide) (fun c_4 => ?_) (fun c_4 => ?_)
    · have hw := hw.1 c_4
      refine lv_aload_n hx hb dX2_alloc_36 rfl (lv_at hl 1 rfl) ?_
      refine va_get (D := D) (ci := 2) (v := .ref (g 7)) (C := RX2) (T := TX2) (N := 7) hx hb hts hinX2 hown hK hP 0 rfl rfl 1 (by decide) (hts (.fieldLink RX2 19 "SlabHeap" "pages" "LSlabHeap$Pages;") (by decide +kernel)) (fun _ h9 => h9) rfl dX2_alloc_37 ?_
      refine lv_iload_n hx hb dX2_alloc_40 rfl (lv_at hl 0 rfl) ?_
      refine lv_iload_n hx hb dX2_alloc_41 rfl (lv_at hl 2 rfl) ?_
      refine vcall (wr := [(g 0, .inr (2, [.ref (g 2), .ref (g 7), .ref (g 1), .int fd, .int cd, .int cr, .int tr])), (g 1, .inl (k.1, 2040, .inl ro)), (g 2, .inr (1, [.ref (g 3), .ref (g 4), .ref (g 5), .ref (g 6), .int ql])), (g 3, .inl (k.1, 4096, .inl nw)), (g 4, .inl (k.1, 4096, .inl kp)), (g 5, .inl (k.1, 512, .inl qu)), (g 6, .inl (k.2, 512, .inl qd))]) (va_runV (As := [.int r_3, .int x1]) (rest := []) hC (c_X0_add l D g k kd fm tk mr r_3 x1 _ hw H.size) (cwV 2 hts gX2_alloc_X0_add rfl rfl rfl (by decide +kernel) ⟨Nat.le_of_ble_eq_true rfl, Nat.le_of_ble_eq_true rfl⟩) (preV_m (va_recv hK hP (ci := 0) (q0 := 7) rfl rfl) hP hD hA hK hZ hS [7, 8, 9, 10, 11] rfl rfl (by decide)) rfl rfl hl.1 rfl (lv_room (Nat.le_of_ble_eq_true rfl)) dX2_alloc_42 ⟨Nat.le_of_ble_eq_true rfl, Nat.le_of_ble_eq_true rfl⟩) hP hD hA hS [7, 8, 9, 10, 11] [0, 1, 2, 3, 4, 5, 6] rfl rfl (by decide) (by decide) (fun u' H locs hw hP hD hS => ?_)
      obtain ⟨kd_5, fm_6, tk_7⟩ := u'
      try dsimp only at hw
      have hP : va_P D vwCl (xS g k fd cd cr tr ro nw kp qu qd ql kd_5 fm_6 tk_7 mr) H := hP.sub [0, 1, 2, 3, 4, 5, 6, 7, 8, 9, 10, 11] rfl
      have hD : va_D A (xS g k fd cd cr tr ro nw kp qu qd ql kd_5 fm_6 tk_7 mr) := hD.sub [0, 1, 2, 3, 4, 5, 6, 7, 8, 9, 10, 11] (by decide) rfl
      refine lv_aload_n hx hb dX2_alloc_45 rfl (lv_at hl 1 rfl) ?_
      refine va_get (D := D) (ci := 2) (v := .ref (g 2)) (C := RX2) (T := TX2) (N := 7) hx hb hts hinX2 hown hK hP 0 rfl rfl 0 (by decide) (hts (.fieldLink RX2 10 "SlabHeap" "words" "LSlabHeap$Words;") (by decide +kernel)) (fun _ h9 => h9) rfl dX2_alloc_46 ?_
      refine lv_iload_n hx hb dX2_alloc_49 rfl (lv_at hl 0 rfl) ?_
      refine lv_iload_n hx hb dX2_alloc_50 rfl (lv_at hl 0 rfl) ?_
      refine lv_iload_n hx hb dX2_alloc_51 rfl (lv_at hl 2 rfl) ?_
      refine lv_iload_n hx hb dX2_alloc_52 rfl (lv_at hl 3 rfl) ?_
      refine pcall (va_runS (As := [.int r_3, .int x1, .int x2]) (rest := [.int r_3, .ref (g 2)]) hC (c_X2_headOf l D k r_3 x1 x2 _ hw H) (va_cwS 3 hts gX2_alloc_X2_headOf rfl rfl rfl (by decide +kernel) ⟨Nat.le_of_ble_eq_true rfl, Nat.le_of_ble_eq_true rfl⟩) (preS_p (hP.sub [] rfl) hK hZ hS) rfl rfl hl.1 rfl (lv_room (Nat.le_of_ble_eq_true rfl)) dX2_alloc_53 ⟨Nat.le_of_ble_eq_true rfl, Nat.le_of_ble_eq_true rfl⟩) (fun r_8 hw => ?_)
      refine vcall (wr := [(g 0, .inr (2, [.ref (g 2), .ref (g 7), .ref (g 1), .int fd, .int cd, .int cr, .int tr])), (g 1, .inl (k.1, 2040, .inl ro)), (g 7, .inr (0, [.ref (g 8), .ref (g 9), .ref (g 10), .ref (g 11)])), (g 8, .inl (k.1, 256, .inl kd_5)), (g 9, .inl (k.1, 256, .inl fm_6)), (g 10, .inl (k.1, 256, .inl tk_7)), (g 11, .inl (k.1, 256, .inl mr))]) (va_runV (As := [.int r_3, .int r_8]) (rest := []) hC (c_X1_write l D g k nw kp qu qd ql r_3 r_8 _ hw H.size) (cwV 2 hts gX2_alloc_X1_write rfl rfl rfl (by decide +kernel) ⟨Nat.le_of_ble_eq_true rfl, Nat.le_of_ble_eq_true rfl⟩) (preV_m (va_recv hK hP (ci := 1) (q0 := 2) rfl rfl) hP hD hA hK hZ hS [2, 3, 4, 5, 6] rfl rfl (by decide)) rfl rfl hl.1 rfl (lv_room (Nat.le_of_ble_eq_true rfl)) dX2_alloc_56 ⟨Nat.le_of_ble_eq_true rfl, Nat.le_of_ble_eq_true rfl⟩) hP hD hA hS [2, 3, 4, 5, 6] [0, 1, 7, 8, 9, 10, 11] rfl rfl (by decide) (by decide) (fun u' H locs hw hP hD hS => ?_)
      obtain ⟨nw_9, qu_10, qd_11, ql_12⟩ := u'
      try dsimp only at hw
      have hP : va_P D vwCl (xS g k fd cd cr tr ro nw_9 kp qu_10 qd_11 ql_12 kd_5 fm_6 tk_7 mr) H := hP.sub [0, 1, 7, 8, 9, 10, 11, 2, 3, 4, 5, 6] rfl
      have hD : va_D A (xS g k fd cd cr tr ro nw_9 kp qu_10 qd_11 ql_12 kd_5 fm_6 tk_7 mr) := hD.sub [0, 1, 7, 8, 9, 10, 11, 2, 3, 4, 5, 6] (by decide) rfl
      refine lv_iconst (v := 0) hx hb dX2_alloc_59 (by decide) ?_
      refine lv_istore (lv' := [(4, .int 0), (3, .int r_3), (0, .ref (g 0)), (1, .int x1), (2, .int x2)]) hx hb dX2_alloc_60 hl (by decide) rfl (fun ls hl => ?_)
      obtain ⟨fu_22, hw⟩ := hw
      exact B62  fu_22 x1 r_3 0 tr nw_9 qu_10 qd_11 ql_12 kd_5 fm_6 tk_7 H locs hP hD hS ls (lv_sub hl [2, 3, 1, 0] rfl) hw
    · have hw := hw.2 c_4
      refine lv_aload_n hx hb dX2_alloc_29 rfl (lv_at hl 1 rfl) ?_
      refine lv_iconst (v := 1) hx hb dX2_alloc_30 (by decide) ?_
      refine lv_iconst (v := (-1)) hx hb dX2_alloc_31 (by decide) ?_
      refine icall (wr := []) (va_runV (As := [.int 1, .int (-1)]) (rest := []) hC (c_X2_answer l D g k fd cd cr tr ro nw kp qu qd ql kd fm tk mr 1 (-1) _ hw H.size) (cwV 2 hts gX2_alloc_X2_answer rfl rfl rfl (by decide +kernel) ⟨Nat.le_of_ble_eq_true rfl, Nat.le_of_ble_eq_true rfl⟩) (preV_m (va_recv hK hP (ci := 2) (q0 := 0) rfl rfl) hP hD hA hK hZ hS [0, 1, 2, 3, 4, 5, 6, 7, 8, 9, 10, 11] rfl rfl (by decide)) rfl rfl hl.1 rfl (lv_room (Nat.le_of_ble_eq_true rfl)) dX2_alloc_32 ⟨Nat.le_of_ble_eq_true rfl, Nat.le_of_ble_eq_true rfl⟩) hP hD hA hS [0, 1, 2, 3, 4, 5, 6, 7, 8, 9, 10, 11] [] rfl rfl (by decide) (by decide) (fun r_24 u' H locs hw hP hD hS => ?_)
      obtain ⟨tr_23, rfl⟩ : ∃ z, z = u' := ⟨_, rfl⟩
      try dsimp only at hw
      have hP : va_P D vwCl (xS g k fd cd cr tr_23 ro nw kp qu qd ql kd fm tk mr) H := hP
      have hD : va_D A (xS g k fd cd cr tr_23 ro nw kp qu qd ql kd fm tk mr) := hD
      exact hret _ _ _ (tr_23, nw, qu, qd, ql, kd, fm, tk) _ _ hP hD hS dX2_alloc_35 hw
  · have hw := hw.2 c_2
    refine lv_aload_n hx hb dX2_alloc_8 rfl (lv_at hl 0 rfl) ?_
    refine lv_iconst (v := 3) hx hb dX2_alloc_9 (by decide) ?_
    refine lv_iconst (v := (-1)) hx hb dX2_alloc_10 (by decide) ?_
    refine icall (wr := []) (va_runV (As := [.int 3, .int (-1)]) (rest := []) hC (c_X2_answer l D g k fd cd cr tr ro nw kp qu qd ql kd fm tk mr 3 (-1) _ hw H.size) (cwV 2 hts gX2_alloc_X2_answer rfl rfl rfl (by decide +kernel) ⟨Nat.le_of_ble_eq_true rfl, Nat.le_of_ble_eq_true rfl⟩) (preV_m (va_recv hK hP (ci := 2) (q0 := 0) rfl rfl) hP hD hA hK hZ hS [0, 1, 2, 3, 4, 5, 6, 7, 8, 9, 10, 11] rfl rfl (by decide)) rfl rfl hl.1 rfl (lv_room (Nat.le_of_ble_eq_true rfl)) dX2_alloc_11 ⟨Nat.le_of_ble_eq_true rfl, Nat.le_of_ble_eq_true rfl⟩) hP hD hA hS [0, 1, 2, 3, 4, 5, 6, 7, 8, 9, 10, 11] [] rfl rfl (by decide) (by decide) (fun r_26 u' H locs hw hP hD hS => ?_)
    obtain ⟨tr_25, rfl⟩ : ∃ z, z = u' := ⟨_, rfl⟩
    try dsimp only at hw
    have hP : va_P D vwCl (xS g k fd cd cr tr_25 ro nw kp qu qd ql kd fm tk mr) H := hP
    have hD : va_D A (xS g k fd cd cr tr_25 ro nw kp qu qd ql kd fm tk mr) := hD
    exact hret _ _ _ (tr_25, nw, qu, qd, ql, kd, fm, tk) _ _ hP hD hS dX2_alloc_14 hw
-- X2_equalWords
abbrev rmX2_equalWords : Room := { frames := 2, cells := 0, slots := 0, locals := 41 }
set_option maxHeartbeats 4000000 in
set_option maxRecDepth 100000 in
theorem c_X2_equalWords (l : Launch) (D : va_G) (g : Nat → Nat) (k : xC) (fd : Int32) (cd : Int32) (cr : Int32) (tr : Int32) (ro : Nat → Int32) (nw : Nat → Int32) (kp : Nat → Int32) (qu : Nat → Int32) (qd : Nat → Int32) (ql : Int32) (kd : Nat → Int32) (fm : Nat → Int32) (tk : Nat → Int32) (mr : Nat → Int32) (x1 : Int32) (x2 : Int32) (x3 : Int32) (post : Int32 → Prop) (hw : wX2_equalWords post nw x1 x2 x3) : CPi l yX2_equalWords wsX2_equalWords rmX2_equalWords D k [.ref (g 0), .int x1, .int x2, .int x3] (xS g k fd cd cr tr ro nw kp qu qd ql kd fm tk mr) post := by
  refine met_pi (cc := cX2_equalWords) (nL := 6) (by decide) rfl (Nat.le_of_ble_eq_true rfl) ?_
  intro p e s m args below meth c Q ls hC hP hK hZ hS hl hret
  obtain ⟨hx, hb, hml, hown, hts⟩ := id hC
  have hC : CallFix p m c cX2_equalWords 6 s args wsX2_equalWords RX2 := hC
  have hown : s.vm.findClass RX2 = some m.cls := hown
  have hl : lv_has ls 6 [(0, .ref (g 0)), (1, .int x1), (2, .int x2), (3, .int x3)] := hl
  have hinX2 : ∀ w ∈ wsX20, w ∈ wsX2_equalWords := fun _ h => List.mem_cons_of_mem _ (List.mem_append_left _ (List.mem_append_right _ h))
  have B6 : ∀ (fu : Nat), ∀ (x1 : Int32), ∀ (x2 : Int32), ∀ (x3 : Int32), ∀ (x4 : Int32), ∀ (x5 : Int32), ∀ (ls : Array Slot), lv_has ls 6 [(0, .ref (g 0)), (1, .int x1), (2, .int x2), (3, .int x3), (4, .int x4), (5, .int x5)] → wX2_equalWords_6 post nw fu x1 x2 x3 x4 x5 → W p l e rmX2_equalWords s m args below meth c s.heap [] 0 0 Q (F0 m 6 ls []) := by
    intro  fu
    induction fu with
    | zero =>
      intro x1 x2 x3 x4 x5 ls hl hw
      exact absurd hw (by unfold wX2_equalWords_6; exact fun q => q)
    | succ n ih =>
      intro x1 x2 x3 x4 x5 ls hl hw
      unfold wX2_equalWords_6 at hw
      refine lv_iload hx hb dX2_equalWords_6 (lv_at hl 5 rfl) ?_
      refine lv_iload_n hx hb dX2_equalWords_8 rfl (lv_at hl 2 rfl) ?_
      refine lv_icmp_ge (tgt := 36) hx hb dX2_equalWords_9 (by decide) (fun c_1 => ?_) (fun c_1 => ?_)
      · have hw := hw.1 c_1
        refine lv_iload hx hb dX2_equalWords_36 (lv_at hl 4 rfl) ?_
        exact hret _ _ _ dX2_equalWords_38 hw
      · have hw := hw.2 c_1
        refine lv_aload_n hx hb dX2_equalWords_12 rfl (lv_at hl 0 rfl) ?_
        refine va_get (D := D) (ci := 2) (v := .ref (g 2)) (C := RX2) (T := TX2) (N := 7) hx hb hts hinX2 hown hK hP 0 rfl rfl 0 (by decide) (hts (.fieldLink RX2 10 "SlabHeap" "words" "LSlabHeap$Words;") (by decide +kernel)) (fun _ h9 => h9) rfl dX2_equalWords_13 ?_
        refine lv_iload_n hx hb dX2_equalWords_16 rfl (lv_at hl 1 rfl) ?_
        refine lv_iload hx hb dX2_equalWords_17 (lv_at hl 5 rfl) ?_
        refine lv_iadd hx hb dX2_equalWords_19 ?_
        refine pcall (va_runV (As := [.int (x1 + x5)]) (rest := []) hC (c_X1_at l D g k nw kp qu qd ql (x1 + x5) _ hw s.heap) (cwV 1 hts gX2_equalWords_X1_at rfl rfl rfl (by decide +kernel) ⟨Nat.le_of_ble_eq_true rfl, Nat.le_of_ble_eq_true rfl⟩) (preV_p (va_recv hK hP (ci := 1) (q0 := 2) rfl rfl) (hP.sub [2, 3, 4, 5, 6] rfl) hK hZ hS) rfl rfl hl.1 rfl (lv_room (Nat.le_of_ble_eq_true rfl)) dX2_equalWords_20 ⟨Nat.le_of_ble_eq_true rfl, Nat.le_of_ble_eq_true rfl⟩) (fun r_2 hw => ?_)
        refine lv_iload_n hx hb dX2_equalWords_23 rfl (lv_at hl 3 rfl) ?_
        refine lv_icmp_ne (tgt := 30) hx hb dX2_equalWords_24 (by decide) (fun c_3 => ?_) (fun c_3 => ?_)
        · have hw := hw.1 c_3
          obtain ⟨x5_4, ex5_4⟩ : ∃ y : Int32, y = x5 + 1 := ⟨_, rfl⟩
          have hw := hw x5_4 ex5_4
          refine lv_iinc (v := x5_4) (lv' := [(5, .int x5_4), (0, .ref (g 0)), (1, .int x1), (2, .int x2), (3, .int x3), (4, .int x4)]) hx hb dX2_equalWords_30 hl (k := 5) rfl (by rw [ex5_4]; rfl) (by decide) rfl (fun ls hl => ?_)
          refine lv_goto (tgt := 6) hx hb dX2_equalWords_33 (by decide) ?_
          exact ih x1 x2 x3 x4 x5_4 ls (lv_sub hl [1, 2, 3, 4, 5, 0] rfl) hw
        · have hw := hw.2 c_3
          obtain ⟨x4_5, ex4_5⟩ : ∃ y : Int32, y = x4 + 1 := ⟨_, rfl⟩
          have hw := hw x4_5 ex4_5
          refine lv_iinc (v := x4_5) (lv' := [(4, .int x4_5), (0, .ref (g 0)), (1, .int x1), (2, .int x2), (3, .int x3), (5, .int x5)]) hx hb dX2_equalWords_27 hl (k := 4) rfl (by rw [ex4_5]; rfl) (by decide) rfl (fun ls hl => ?_)
          obtain ⟨x5_6, ex5_6⟩ : ∃ y : Int32, y = x5 + 1 := ⟨_, rfl⟩
          have hw := hw x5_6 ex5_6
          refine lv_iinc (v := x5_6) (lv' := [(5, .int x5_6), (4, .int x4_5), (0, .ref (g 0)), (1, .int x1), (2, .int x2), (3, .int x3)]) hx hb dX2_equalWords_30 hl (k := 5) rfl (by rw [ex5_6]; rfl) (by decide) rfl (fun ls hl => ?_)
          refine lv_goto (tgt := 6) hx hb dX2_equalWords_33 (by decide) ?_
          exact ih x1 x2 x3 x4_5 x5_6 ls (lv_sub hl [2, 3, 4, 5, 1, 0] rfl) hw
  unfold wX2_equalWords at hw
  refine lv_iconst (v := 0) hx hb dX2_equalWords_0 (by decide) ?_
  refine lv_istore (lv' := [(4, .int 0), (0, .ref (g 0)), (1, .int x1), (2, .int x2), (3, .int x3)]) hx hb dX2_equalWords_1 hl (by decide) rfl (fun ls hl => ?_)
  refine lv_iconst (v := 0) hx hb dX2_equalWords_3 (by decide) ?_
  refine lv_istore (lv' := [(5, .int 0), (4, .int 0), (0, .ref (g 0)), (1, .int x1), (2, .int x2), (3, .int x3)]) hx hb dX2_equalWords_4 hl (by decide) rfl (fun ls hl => ?_)
  obtain ⟨fu_7, hw⟩ := hw
  exact B6  fu_7 x1 x2 x3 0 0 ls (lv_sub hl [2, 3, 4, 5, 1, 0] rfl) hw
-- X2_listLive
abbrev rmX2_listLive : Room := { frames := 2, cells := 0, slots := 0, locals := 44 }
set_option maxHeartbeats 4000000 in
set_option maxRecDepth 100000 in
theorem c_X2_listLive (l : Launch) (D : va_G) (g : Nat → Nat) (k : xC) (fd : Int32) (cd : Int32) (cr : Int32) (tr : Int32) (ro : Nat → Int32) (nw : Nat → Int32) (kp : Nat → Int32) (qu : Nat → Int32) (qd : Nat → Int32) (ql : Int32) (kd : Nat → Int32) (fm : Nat → Int32) (tk : Nat → Int32) (mr : Nat → Int32)  (post : Int32 → (Nat → Int32) → Prop) (hw : wX2_listLive post ro kd fm tk) : CMi l yX2_listLive wsX2_listLive rmX2_listLive D k [.ref (g 0)] (fun v : (Nat → Int32) => (xS g k fd cd cr tr v nw kp qu qd ql kd fm tk mr)) ro (fun r v => post r v) := by
  refine met_mi (cc := cX2_listLive) (nL := 6) (by decide) rfl (Nat.le_of_ble_eq_true rfl) ?_
  intro p e s m args below meth c Q A ls hC hP hD hA hK hZ hS hl hret
  obtain ⟨hx, hb, hml, hown, hts⟩ := id hC
  have hC : CallFix p m c cX2_listLive 6 s args wsX2_listLive RX2 := hC
  have hown : s.vm.findClass RX2 = some m.cls := hown
  have hl : lv_has ls 6 [(0, .ref (g 0))] := hl
  have hP : va_P D vwCl (xS g k fd cd cr tr ro nw kp qu qd ql kd fm tk mr) s.heap := hP
  have hD : va_D A (xS g k fd cd cr tr ro nw kp qu qd ql kd fm tk mr) := hD
  have hinX2 : ∀ w ∈ wsX20, w ∈ wsX2_listLive := fun _ h => List.mem_cons_of_mem _ (List.mem_append_left _ (List.mem_append_right _ h))
  have B23 : ∀ (J4 : Int32 → Int32 → (Nat → Int32) → Prop) (hJ4 : ∀ (x1 : Int32), ∀ (x2 : Int32), ∀ (ro : Nat → Int32), ∀ (H : Heap) (locs : List Loc), va_P D vwCl (xS g k fd cd cr tr ro nw kp qu qd ql kd fm tk mr) H → va_D A (xS g k fd cd cr tr ro nw kp qu qd ql kd fm tk mr) → va_S A s.heap H locs → ∀ (ls : Array Slot), lv_has ls 6 [(0, .ref (g 0)), (1, .int x1), (2, .int x2)] → J4 x1 x2 ro → W p l e rmX2_listLive s m args below meth c H locs 0 0 Q (F0 m 4 ls [])) (fu : Nat), ∀ (x1 : Int32), ∀ (x2 : Int32), ∀ (x3 : Int32), ∀ (x4 : Int32), ∀ (ro : Nat → Int32), ∀ (H : Heap) (locs : List Loc), va_P D vwCl (xS g k fd cd cr tr ro nw kp qu qd ql kd fm tk mr) H → va_D A (xS g k fd cd cr tr ro nw kp qu qd ql kd fm tk mr) → va_S A s.heap H locs → ∀ (ls : Array Slot), lv_has ls 6 [(0, .ref (g 0)), (1, .int x1), (2, .int x2), (3, .int x3), (4, .int x4)] → wX2_listLive_23 post kd fm tk J4 fu x1 x2 x3 x4 ro → W p l e rmX2_listLive s m args below meth c H locs 0 0 Q (F0 m 23 ls []) := by
    intro J4 hJ4 fu
    induction fu with
    | zero =>
      intro x1 x2 x3 x4 ro H locs hP hD hS ls hl hw
      exact absurd hw (by unfold wX2_listLive_23; exact fun q => q)
    | succ n ih =>
      intro x1 x2 x3 x4 ro H locs hP hD hS ls hl hw
      unfold wX2_listLive_23 at hw
      refine lv_iload hx hb dX2_listLive_23 (lv_at hl 4 rfl) ?_
      refine lv_iload_n hx hb dX2_listLive_25 rfl (lv_at hl 3 rfl) ?_
      refine lv_icmp_ge (tgt := 73) hx hb dX2_listLive_26 (by decide) (fun c_3 => ?_) (fun c_3 => ?_)
      · have hw := hw.1 c_3
        obtain ⟨x2_4, ex2_4⟩ : ∃ y : Int32, y = x2 + 1 := ⟨_, rfl⟩
        have hw := hw x2_4 ex2_4
        refine lv_iinc (v := x2_4) (lv' := [(2, .int x2_4), (0, .ref (g 0)), (1, .int x1), (3, .int x3), (4, .int x4)]) hx hb dX2_listLive_73 hl (k := 2) rfl (by rw [ex2_4]; rfl) (by decide) rfl (fun ls hl => ?_)
        refine lv_goto (tgt := 4) hx hb dX2_listLive_76 (by decide) ?_
        exact hJ4 x1 x2_4 ro H locs hP hD hS ls (lv_sub hl [1, 2, 0] rfl) hw
      · have hw := hw.2 c_3
        refine lv_aload_n hx hb dX2_listLive_29 rfl (lv_at hl 0 rfl) ?_
        refine va_get (D := D) (ci := 2) (v := .ref (g 7)) (C := RX2) (T := TX2) (N := 7) hx hb hts hinX2 hown hK hP 0 rfl rfl 1 (by decide) (hts (.fieldLink RX2 19 "SlabHeap" "pages" "LSlabHeap$Pages;") (by decide +kernel)) (fun _ h9 => h9) rfl dX2_listLive_30 ?_
        refine lv_iload_n hx hb dX2_listLive_33 rfl (lv_at hl 2 rfl) ?_
        refine lv_iload hx hb dX2_listLive_34 (lv_at hl 4 rfl) ?_
        refine pcall (va_runV (As := [.int x2, .int x4]) (rest := []) hC (c_X0_blockIn l D g k kd fm tk mr x2 x4 _ hw H) (cwV 2 hts gX2_listLive_X0_blockIn rfl rfl rfl (by decide +kernel) ⟨Nat.le_of_ble_eq_true rfl, Nat.le_of_ble_eq_true rfl⟩) (preV_p (va_recv hK hP (ci := 0) (q0 := 7) rfl rfl) (hP.sub [7, 8, 9, 10, 11] rfl) hK hZ hS) rfl rfl hl.1 rfl (lv_room (Nat.le_of_ble_eq_true rfl)) dX2_listLive_36 ⟨Nat.le_of_ble_eq_true rfl, Nat.le_of_ble_eq_true rfl⟩) (fun r_5 hw => ?_)
        refine lv_istore (lv' := [(5, .int r_5), (0, .ref (g 0)), (1, .int x1), (2, .int x2), (3, .int x3), (4, .int x4)]) hx hb dX2_listLive_39 hl (by decide) rfl (fun ls hl => ?_)
        refine lv_iload hx hb dX2_listLive_41 (lv_at hl 0 rfl) ?_
        refine lv_iconst (v := (-1)) hx hb dX2_listLive_43 (by decide) ?_
        refine lv_icmp_eq (tgt := 67) hx hb dX2_listLive_44 (by decide) (fun c_6 => ?_) (fun c_6 => ?_)
        · have hw := hw.1 c_6
          obtain ⟨x4_7, ex4_7⟩ : ∃ y : Int32, y = x4 + 1 := ⟨_, rfl⟩
          have hw := hw x4_7 ex4_7
          refine lv_iinc (v := x4_7) (lv' := [(4, .int x4_7), (5, .int r_5), (0, .ref (g 0)), (1, .int x1), (2, .int x2), (3, .int x3)]) hx hb dX2_listLive_67 hl (k := 5) rfl (by rw [ex4_7]; rfl) (by decide) rfl (fun ls hl => ?_)
          refine lv_goto (tgt := 23) hx hb dX2_listLive_70 (by decide) ?_
          exact ih x1 x2 x3 x4_7 ro H locs hP hD hS ls (lv_sub hl [2, 3, 4, 5, 0] rfl) hw
        · have hw := hw.2 c_6
          refine lv_iload_n hx hb dX2_listLive_47 rfl (lv_at hl 2 rfl) ?_
          refine lv_aload_n hx hb dX2_listLive_48 rfl (lv_at hl 1 rfl) ?_
          refine va_get (D := D) (ci := 2) (v := .ref (g 1)) (C := RX2) (T := TX2) (N := 7) hx hb hts hinX2 hown hK hP 0 rfl rfl 2 (by decide) (hts (.fieldLink RX2 23 "SlabHeap" "row" "[I") (by decide +kernel)) (fun _ h9 => h9) rfl dX2_listLive_49 ?_
          refine va_alen (v := 2040) hx hb hK hP 1 0 rfl rfl rfl dX2_listLive_52 ?_
          refine lv_icmp_ge (tgt := 67) hx hb dX2_listLive_53 (by decide) (fun c_8 => ?_) (fun c_8 => ?_)
          · have hw := hw.1 c_8
            obtain ⟨x4_9, ex4_9⟩ : ∃ y : Int32, y = x4 + 1 := ⟨_, rfl⟩
            have hw := hw x4_9 ex4_9
            refine lv_iinc (v := x4_9) (lv' := [(4, .int x4_9), (5, .int r_5), (0, .ref (g 0)), (1, .int x1), (2, .int x2), (3, .int x3)]) hx hb dX2_listLive_67 hl (k := 5) rfl (by rw [ex4_9]; rfl) (by decide) rfl (fun ls hl => ?_)
            refine lv_goto (tgt := 23) hx hb dX2_listLive_70 (by decide) ?_
            exact ih x1 x2 x3 x4_9 ro H locs hP hD hS ls (lv_sub hl [2, 3, 4, 5, 0] rfl) hw
          · have hw := hw.2 c_8
            refine lv_aload_n hx hb dX2_listLive_56 rfl (lv_at hl 1 rfl) ?_
            refine va_get (D := D) (ci := 2) (v := .ref (g 1)) (C := RX2) (T := TX2) (N := 7) hx hb hts hinX2 hown hK hP 0 rfl rfl 2 (by decide) (hts (.fieldLink RX2 23 "SlabHeap" "row" "[I") (by decide +kernel)) (fun _ h9 => h9) rfl dX2_listLive_57 ?_
            refine lv_iload_n hx hb dX2_listLive_60 rfl (lv_at hl 2 rfl) ?_
            refine lv_iload hx hb dX2_listLive_61 (lv_at hl 0 rfl) ?_
            obtain ⟨h_10, hw⟩ := hw
            refine va_iast hx hb hK hP hD hS 1 0 rfl rfl h_10 dX2_listLive_63 (fun H locs hP hD hS => ?_)
            have hP : va_P D vwCl (xS g k fd cd cr tr (upd ro x1.toNatClampNeg r_5) nw kp qu qd ql kd fm tk mr) H := hP
            have hD : va_D A (xS g k fd cd cr tr (upd ro x1.toNatClampNeg r_5) nw kp qu qd ql kd fm tk mr) := hD
            obtain ⟨x1_11, ex1_11⟩ : ∃ y : Int32, y = x1 + 1 := ⟨_, rfl⟩
            have hw := hw x1_11 ex1_11
            refine lv_iinc (v := x1_11) (lv' := [(1, .int x1_11), (5, .int r_5), (0, .ref (g 0)), (2, .int x2), (3, .int x3), (4, .int x4)]) hx hb dX2_listLive_64 hl (k := 2) rfl (by rw [ex1_11]; rfl) (by decide) rfl (fun ls hl => ?_)
            obtain ⟨x4_12, ex4_12⟩ : ∃ y : Int32, y = x4 + 1 := ⟨_, rfl⟩
            have hw := hw x4_12 ex4_12
            refine lv_iinc (v := x4_12) (lv' := [(4, .int x4_12), (1, .int x1_11), (5, .int r_5), (0, .ref (g 0)), (2, .int x2), (3, .int x3)]) hx hb dX2_listLive_67 hl (k := 5) rfl (by rw [ex4_12]; rfl) (by decide) rfl (fun ls hl => ?_)
            refine lv_goto (tgt := 23) hx hb dX2_listLive_70 (by decide) ?_
            exact ih x1_11 x2 x3 x4_12 (upd ro x1.toNatClampNeg r_5) H locs hP hD hS ls (lv_sub hl [3, 1, 4, 5, 0] rfl) hw
  have B4 : ∀ (fu : Nat), ∀ (x1 : Int32), ∀ (x2 : Int32), ∀ (ro : Nat → Int32), ∀ (H : Heap) (locs : List Loc), va_P D vwCl (xS g k fd cd cr tr ro nw kp qu qd ql kd fm tk mr) H → va_D A (xS g k fd cd cr tr ro nw kp qu qd ql kd fm tk mr) → va_S A s.heap H locs → ∀ (ls : Array Slot), lv_has ls 6 [(0, .ref (g 0)), (1, .int x1), (2, .int x2)] → wX2_listLive_4 post kd fm tk fu x1 x2 ro → W p l e rmX2_listLive s m args below meth c H locs 0 0 Q (F0 m 4 ls []) := by
    intro  fu
    induction fu with
    | zero =>
      intro x1 x2 ro H locs hP hD hS ls hl hw
      exact absurd hw (by unfold wX2_listLive_4; exact fun q => q)
    | succ n ih =>
      intro x1 x2 ro H locs hP hD hS ls hl hw
      unfold wX2_listLive_4 at hw
      refine lv_iload_n hx hb dX2_listLive_4 rfl (lv_at hl 2 rfl) ?_
      refine lv_sipush (v := 256) hx hb dX2_listLive_5 (by decide) ?_
      refine lv_icmp_ge (tgt := 79) hx hb dX2_listLive_8 (by decide) (fun c_1 => ?_) (fun c_1 => ?_)
      · have hw := hw.1 c_1
        refine lv_iload_n hx hb dX2_listLive_79 rfl (lv_at hl 1 rfl) ?_
        exact hret _ _ _ ro _ _ hP hD hS dX2_listLive_80 hw
      · have hw := hw.2 c_1
        refine lv_aload_n hx hb dX2_listLive_11 rfl (lv_at hl 0 rfl) ?_
        refine va_get (D := D) (ci := 2) (v := .ref (g 7)) (C := RX2) (T := TX2) (N := 7) hx hb hts hinX2 hown hK hP 0 rfl rfl 1 (by decide) (hts (.fieldLink RX2 19 "SlabHeap" "pages" "LSlabHeap$Pages;") (by decide +kernel)) (fun _ h9 => h9) rfl dX2_listLive_12 ?_
        refine lv_iload_n hx hb dX2_listLive_15 rfl (lv_at hl 2 rfl) ?_
        refine pcall (va_runV (As := [.int x2]) (rest := []) hC (c_X0_slotsOf l D g k kd fm tk mr x2 _ hw H) (cwV 1 hts gX2_listLive_X0_slotsOf rfl rfl rfl (by decide +kernel) ⟨Nat.le_of_ble_eq_true rfl, Nat.le_of_ble_eq_true rfl⟩) (preV_p (va_recv hK hP (ci := 0) (q0 := 7) rfl rfl) (hP.sub [7, 8, 9, 10, 11] rfl) hK hZ hS) rfl rfl hl.1 rfl (lv_room (Nat.le_of_ble_eq_true rfl)) dX2_listLive_16 ⟨Nat.le_of_ble_eq_true rfl, Nat.le_of_ble_eq_true rfl⟩) (fun r_2 hw => ?_)
        refine lv_istore_n (lv' := [(3, .int r_2), (0, .ref (g 0)), (1, .int x1), (2, .int x2)]) hx hb dX2_listLive_19 rfl hl (by decide) rfl (fun ls hl => ?_)
        refine lv_iconst (v := 0) hx hb dX2_listLive_20 (by decide) ?_
        refine lv_istore (lv' := [(4, .int 0), (3, .int r_2), (0, .ref (g 0)), (1, .int x1), (2, .int x2)]) hx hb dX2_listLive_21 hl (by decide) rfl (fun ls hl => ?_)
        obtain ⟨fu_13, hw⟩ := hw
        exact B23 (wX2_listLive_4 post kd fm tk n) ih fu_13 x1 x2 r_2 0 ro H locs hP hD hS ls (lv_sub hl [2, 3, 4, 1, 0] rfl) hw
  unfold wX2_listLive at hw
  suffices main : ∀ (H : Heap) (locs : List Loc), va_P D vwCl (xS g k fd cd cr tr ro nw kp qu qd ql kd fm tk mr) H → va_D A (xS g k fd cd cr tr ro nw kp qu qd ql kd fm tk mr) → va_S A s.heap H locs → W p l e rmX2_listLive s m args below meth c H locs 0 0 Q (F0 m 0 ls []) from main _ _ hP hD hS
  intro H locs hP hD hS
  refine lv_iconst (v := 0) hx hb dX2_listLive_0 (by decide) ?_
  refine lv_istore_n (lv' := [(1, .int 0), (0, .ref (g 0))]) hx hb dX2_listLive_1 rfl hl (by decide) rfl (fun ls hl => ?_)
  refine lv_iconst (v := 1) hx hb dX2_listLive_2 (by decide) ?_
  refine lv_istore_n (lv' := [(2, .int 1), (1, .int 0), (0, .ref (g 0))]) hx hb dX2_listLive_3 rfl hl (by decide) rfl (fun ls hl => ?_)
  obtain ⟨fu_14, hw⟩ := hw
  exact B4  fu_14 0 1 ro H locs hP hD hS ls (lv_sub hl [2, 1, 0] rfl) hw
-- X2_rowAt
abbrev rmX2_rowAt : Room := { frames := 0, cells := 0, slots := 0, locals := 0 }
set_option maxHeartbeats 4000000 in
set_option maxRecDepth 100000 in
theorem c_X2_rowAt (l : Launch) (D : va_G) (g : Nat → Nat) (k : xC) (fd : Int32) (cd : Int32) (cr : Int32) (tr : Int32) (ro : Nat → Int32) (nw : Nat → Int32) (kp : Nat → Int32) (qu : Nat → Int32) (qd : Nat → Int32) (ql : Int32) (kd : Nat → Int32) (fm : Nat → Int32) (tk : Nat → Int32) (mr : Nat → Int32) (x1 : Int32) (post : Int32 → Prop) (hw : wX2_rowAt post ro x1) : CPi l yX2_rowAt wsX2_rowAt rmX2_rowAt D k [.ref (g 0), .int x1] (xS g k fd cd cr tr ro nw kp qu qd ql kd fm tk mr) post := by
  refine met_pi (cc := cX2_rowAt) (nL := 2) (by decide) rfl (Nat.le_of_ble_eq_true rfl) ?_
  intro p e s m args below meth c Q ls hC hP hK hZ hS hl hret
  obtain ⟨hx, hb, hml, hown, hts⟩ := id hC
  have hC : CallFix p m c cX2_rowAt 2 s args wsX2_rowAt RX2 := hC
  have hown : s.vm.findClass RX2 = some m.cls := hown
  have hl : lv_has ls 2 [(0, .ref (g 0)), (1, .int x1)] := hl
  have hinX2 : ∀ w ∈ wsX20, w ∈ wsX2_rowAt := fun _ h => List.mem_cons_of_mem _ (List.mem_append_right _ h)
  unfold wX2_rowAt at hw
  refine lv_iload_n hx hb dX2_rowAt_0 rfl (lv_at hl 1 rfl) ?_
  refine lv_if_lt (tgt := 22) hx hb dX2_rowAt_1 (by decide) (fun c_1 => ?_) (fun c_1 => ?_)
  · have hw := hw.1 c_1
    refine lv_iconst (v := (-1)) hx hb dX2_rowAt_22 (by decide) ?_
    exact hret _ _ _ dX2_rowAt_23 hw
  · have hw := hw.2 c_1
    refine lv_iload_n hx hb dX2_rowAt_4 rfl (lv_at hl 1 rfl) ?_
    refine lv_aload_n hx hb dX2_rowAt_5 rfl (lv_at hl 0 rfl) ?_
    refine va_get (D := D) (ci := 2) (v := .ref (g 1)) (C := RX2) (T := TX2) (N := 7) hx hb hts hinX2 hown hK hP 0 rfl rfl 2 (by decide) (hts (.fieldLink RX2 23 "SlabHeap" "row" "[I") (by decide +kernel)) (fun _ h9 => h9) rfl dX2_rowAt_6 ?_
    refine va_alen (v := 2040) hx hb hK hP 1 0 rfl rfl rfl dX2_rowAt_9 ?_
    refine lv_icmp_ge (tgt := 22) hx hb dX2_rowAt_10 (by decide) (fun c_2 => ?_) (fun c_2 => ?_)
    · have hw := hw.1 c_2
      refine lv_iconst (v := (-1)) hx hb dX2_rowAt_22 (by decide) ?_
      exact hret _ _ _ dX2_rowAt_23 hw
    · have hw := hw.2 c_2
      refine lv_aload_n hx hb dX2_rowAt_13 rfl (lv_at hl 0 rfl) ?_
      refine va_get (D := D) (ci := 2) (v := .ref (g 1)) (C := RX2) (T := TX2) (N := 7) hx hb hts hinX2 hown hK hP 0 rfl rfl 2 (by decide) (hts (.fieldLink RX2 23 "SlabHeap" "row" "[I") (by decide +kernel)) (fun _ h9 => h9) rfl dX2_rowAt_14 ?_
      refine lv_iload_n hx hb dX2_rowAt_17 rfl (lv_at hl 1 rfl) ?_
      obtain ⟨h_3, hw⟩ := hw
      refine va_iald hx hb hK hP 1 0 rfl rfl h_3 dX2_rowAt_18 ?_
      refine lv_goto (tgt := 23) hx hb dX2_rowAt_19 (by decide) ?_
      exact hret _ _ _ dX2_rowAt_23 hw
-- X2_refsOf
abbrev rmX2_refsOf : Room := { frames := 2, cells := 0, slots := 0, locals := 41 }
set_option maxHeartbeats 4000000 in
set_option maxRecDepth 100000 in
theorem c_X2_refsOf (l : Launch) (D : va_G) (g : Nat → Nat) (k : xC) (fd : Int32) (cd : Int32) (cr : Int32) (tr : Int32) (ro : Nat → Int32) (nw : Nat → Int32) (kp : Nat → Int32) (qu : Nat → Int32) (qd : Nat → Int32) (ql : Int32) (kd : Nat → Int32) (fm : Nat → Int32) (tk : Nat → Int32) (mr : Nat → Int32) (x1 : Int32) (post : Int32 → Prop) (hw : wX2_refsOf post nw x1) : CPi l yX2_refsOf wsX2_refsOf rmX2_refsOf D k [.ref (g 0), .int x1] (xS g k fd cd cr tr ro nw kp qu qd ql kd fm tk mr) post := by
  refine met_pi (cc := cX2_refsOf) (nL := 2) (by decide) rfl (Nat.le_of_ble_eq_true rfl) ?_
  intro p e s m args below meth c Q ls hC hP hK hZ hS hl hret
  obtain ⟨hx, hb, hml, hown, hts⟩ := id hC
  have hC : CallFix p m c cX2_refsOf 2 s args wsX2_refsOf RX2 := hC
  have hown : s.vm.findClass RX2 = some m.cls := hown
  have hl : lv_has ls 2 [(0, .ref (g 0)), (1, .int x1)] := hl
  have hinX2 : ∀ w ∈ wsX20, w ∈ wsX2_refsOf := fun _ h => List.mem_cons_of_mem _ (List.mem_append_left _ (List.mem_append_right _ h))
  unfold wX2_refsOf at hw
  refine lv_aload_n hx hb dX2_refsOf_0 rfl (lv_at hl 0 rfl) ?_
  refine va_get (D := D) (ci := 2) (v := .ref (g 2)) (C := RX2) (T := TX2) (N := 7) hx hb hts hinX2 hown hK hP 0 rfl rfl 0 (by decide) (hts (.fieldLink RX2 10 "SlabHeap" "words" "LSlabHeap$Words;") (by decide +kernel)) (fun _ h9 => h9) rfl dX2_refsOf_1 ?_
  refine lv_iload_n hx hb dX2_refsOf_4 rfl (lv_at hl 1 rfl) ?_
  refine pcall (va_runV (As := [.int x1]) (rest := []) hC (c_X1_at l D g k nw kp qu qd ql x1 _ hw s.heap) (cwV 1 hts gX2_refsOf_X1_at rfl rfl rfl (by decide +kernel) ⟨Nat.le_of_ble_eq_true rfl, Nat.le_of_ble_eq_true rfl⟩) (preV_p (va_recv hK hP (ci := 1) (q0 := 2) rfl rfl) (hP.sub [2, 3, 4, 5, 6] rfl) hK hZ hS) rfl rfl hl.1 rfl (lv_room (Nat.le_of_ble_eq_true rfl)) dX2_refsOf_5 ⟨Nat.le_of_ble_eq_true rfl, Nat.le_of_ble_eq_true rfl⟩) (fun r_1 hw => ?_)
  refine pcall (va_runS (As := [.int r_1]) (rest := []) hC (c_X2_refsIn l D k r_1 _ hw s.heap) (va_cwS 1 hts gX2_refsOf_X2_refsIn rfl rfl rfl (by decide +kernel) ⟨Nat.le_of_ble_eq_true rfl, Nat.le_of_ble_eq_true rfl⟩) (preS_p (hP.sub [] rfl) hK hZ hS) rfl rfl hl.1 rfl (lv_room (Nat.le_of_ble_eq_true rfl)) dX2_refsOf_8 ⟨Nat.le_of_ble_eq_true rfl, Nat.le_of_ble_eq_true rfl⟩) (fun r_2 hw => ?_)
  exact hret _ _ _ dX2_refsOf_11 hw
-- X2_leadsTo
abbrev rmX2_leadsTo : Room := { frames := 3, cells := 0, slots := 0, locals := 69 }
set_option maxHeartbeats 4000000 in
set_option maxRecDepth 100000 in
theorem c_X2_leadsTo (l : Launch) (D : va_G) (g : Nat → Nat) (k : xC) (fd : Int32) (cd : Int32) (cr : Int32) (tr : Int32) (ro : Nat → Int32) (nw : Nat → Int32) (kp : Nat → Int32) (qu : Nat → Int32) (qd : Nat → Int32) (ql : Int32) (kd : Nat → Int32) (fm : Nat → Int32) (tk : Nat → Int32) (mr : Nat → Int32) (x1 : Int32) (post : Int32 → (Nat → Int32) → Prop) (hw : wX2_leadsTo post ro nw kd fm tk x1) : CMi l yX2_leadsTo wsX2_leadsTo rmX2_leadsTo D k [.ref (g 0), .int x1] (fun v : (Nat → Int32) => (xS g k fd cd cr tr v nw kp qu qd ql kd fm tk mr)) ro (fun r v => post r v) := by
  refine met_mi (cc := cX2_leadsTo) (nL := 6) (by decide) rfl (Nat.le_of_ble_eq_true rfl) ?_
  intro p e s m args below meth c Q A ls hC hP hD hA hK hZ hS hl hret
  obtain ⟨hx, hb, hml, hown, hts⟩ := id hC
  have hC : CallFix p m c cX2_leadsTo 6 s args wsX2_leadsTo RX2 := hC
  have hown : s.vm.findClass RX2 = some m.cls := hown
  have hl : lv_has ls 6 [(0, .ref (g 0)), (1, .int x1)] := hl
  have hP : va_P D vwCl (xS g k fd cd cr tr ro nw kp qu qd ql kd fm tk mr) s.heap := hP
  have hD : va_D A (xS g k fd cd cr tr ro nw kp qu qd ql kd fm tk mr) := hD
  have hinX2 : ∀ w ∈ wsX20, w ∈ wsX2_leadsTo := fun _ h => List.mem_cons_of_mem _ (List.mem_append_left _ (List.mem_append_left _ (List.mem_append_right _ h)))
  have B17 : ∀ (fu : Nat), ∀ (x1 : Int32), ∀ (x2 : Int32), ∀ (x3 : Int32), ∀ (x4 : Int32), ∀ (ro : Nat → Int32), ∀ (H : Heap) (locs : List Loc), va_P D vwCl (xS g k fd cd cr tr ro nw kp qu qd ql kd fm tk mr) H → va_D A (xS g k fd cd cr tr ro nw kp qu qd ql kd fm tk mr) → va_S A s.heap H locs → ∀ (ls : Array Slot), lv_has ls 6 [(0, .ref (g 0)), (1, .int x1), (2, .int x2), (3, .int x3), (4, .int x4)] → wX2_leadsTo_17 post nw kd fm tk fu x1 x2 x3 x4 ro → W p l e rmX2_leadsTo s m args below meth c H locs 0 0 Q (F0 m 17 ls []) := by
    intro  fu
    induction fu with
    | zero =>
      intro x1 x2 x3 x4 ro H locs hP hD hS ls hl hw
      exact absurd hw (by unfold wX2_leadsTo_17; exact fun q => q)
    | succ n ih =>
      intro x1 x2 x3 x4 ro H locs hP hD hS ls hl hw
      unfold wX2_leadsTo_17 at hw
      refine lv_iload hx hb dX2_leadsTo_17 (lv_at hl 4 rfl) ?_
      refine lv_iload_n hx hb dX2_leadsTo_19 rfl (lv_at hl 3 rfl) ?_
      refine lv_icmp_ge (tgt := 57) hx hb dX2_leadsTo_20 (by decide) (fun c_4 => ?_) (fun c_4 => ?_)
      · have hw := hw.1 c_4
        refine lv_iload_n hx hb dX2_leadsTo_57 rfl (lv_at hl 2 rfl) ?_
        exact hret _ _ _ ro _ _ hP hD hS dX2_leadsTo_58 hw
      · have hw := hw.2 c_4
        refine lv_aload_n hx hb dX2_leadsTo_23 rfl (lv_at hl 0 rfl) ?_
        refine lv_iload hx hb dX2_leadsTo_24 (lv_at hl 4 rfl) ?_
        refine pcall (va_runV (As := [.int x4]) (rest := []) hC (c_X2_rowAt l D g k fd cd cr tr ro nw kp qu qd ql kd fm tk mr x4 _ hw H) (cwV 1 hts gX2_leadsTo_X2_rowAt rfl rfl rfl (by decide +kernel) ⟨Nat.le_of_ble_eq_true rfl, Nat.le_of_ble_eq_true rfl⟩) (preV_p (va_recv hK hP (ci := 2) (q0 := 0) rfl rfl) hP hK hZ hS) rfl rfl hl.1 rfl (lv_room (Nat.le_of_ble_eq_true rfl)) dX2_leadsTo_26 ⟨Nat.le_of_ble_eq_true rfl, Nat.le_of_ble_eq_true rfl⟩) (fun r_5 hw => ?_)
        refine lv_istore (lv' := [(5, .int r_5), (0, .ref (g 0)), (1, .int x1), (2, .int x2), (3, .int x3), (4, .int x4)]) hx hb dX2_leadsTo_29 hl (by decide) rfl (fun ls hl => ?_)
        refine lv_iload_n hx hb dX2_leadsTo_31 rfl (lv_at hl 3 rfl) ?_
        refine lv_aload_n hx hb dX2_leadsTo_32 rfl (lv_at hl 1 rfl) ?_
        refine lv_iload hx hb dX2_leadsTo_33 (lv_at hl 0 rfl) ?_
        refine lv_iconst (v := 0) hx hb dX2_leadsTo_35 (by decide) ?_
        refine pcall (va_runS (As := [.int r_5, .int 0]) (rest := [.ref (g 0), .int x2]) hC (c_X2_wordOf l D k r_5 0 _ hw H) (va_cwS 2 hts gX2_leadsTo_X2_wordOf rfl rfl rfl (by decide +kernel) ⟨Nat.le_of_ble_eq_true rfl, Nat.le_of_ble_eq_true rfl⟩) (preS_p (hP.sub [] rfl) hK hZ hS) rfl rfl hl.1 rfl (lv_room (Nat.le_of_ble_eq_true rfl)) dX2_leadsTo_36 ⟨Nat.le_of_ble_eq_true rfl, Nat.le_of_ble_eq_true rfl⟩) (fun r_6 hw => ?_)
        refine lv_aload_n hx hb dX2_leadsTo_39 rfl (lv_at hl 1 rfl) ?_
        refine lv_iload hx hb dX2_leadsTo_40 (lv_at hl 0 rfl) ?_
        refine pcall (va_runV (As := [.int r_5]) (rest := [.int r_6, .ref (g 0), .int x2]) hC (c_X2_refsOf l D g k fd cd cr tr ro nw kp qu qd ql kd fm tk mr r_5 _ hw H) (cwV 1 hts gX2_leadsTo_X2_refsOf rfl rfl rfl (by decide +kernel) ⟨Nat.le_of_ble_eq_true rfl, Nat.le_of_ble_eq_true rfl⟩) (preV_p (va_recv hK hP (ci := 2) (q0 := 0) rfl rfl) hP hK hZ hS) rfl rfl hl.1 rfl (lv_room (Nat.le_of_ble_eq_true rfl)) dX2_leadsTo_42 ⟨Nat.le_of_ble_eq_true rfl, Nat.le_of_ble_eq_true rfl⟩) (fun r_7 hw => ?_)
        refine lv_iload_n hx hb dX2_leadsTo_45 rfl (lv_at hl 2 rfl) ?_
        refine pcall (va_runV (As := [.int r_6, .int r_7, .int x1]) (rest := [.int x2]) hC (c_X2_equalWords l D g k fd cd cr tr ro nw kp qu qd ql kd fm tk mr r_6 r_7 x1 _ hw H) (cwV 3 hts gX2_leadsTo_X2_equalWords rfl rfl rfl (by decide +kernel) ⟨Nat.le_of_ble_eq_true rfl, Nat.le_of_ble_eq_true rfl⟩) (preV_p (va_recv hK hP (ci := 2) (q0 := 0) rfl rfl) hP hK hZ hS) rfl rfl hl.1 rfl (lv_room (Nat.le_of_ble_eq_true rfl)) dX2_leadsTo_46 ⟨Nat.le_of_ble_eq_true rfl, Nat.le_of_ble_eq_true rfl⟩) (fun r_8 hw => ?_)
        refine lv_iadd hx hb dX2_leadsTo_49 ?_
        refine lv_topi (fun x2_9 ex2_9 => ?_)
        have hw := hw x2_9 ex2_9
        refine lv_istore_n (lv' := [(2, .int x2_9), (5, .int r_5), (0, .ref (g 0)), (1, .int x1), (3, .int x3), (4, .int x4)]) hx hb dX2_leadsTo_50 rfl hl (by decide) rfl (fun ls hl => ?_)
        obtain ⟨x4_10, ex4_10⟩ : ∃ y : Int32, y = x4 + 1 := ⟨_, rfl⟩
        have hw := hw x4_10 ex4_10
        refine lv_iinc (v := x4_10) (lv' := [(4, .int x4_10), (2, .int x2_9), (5, .int r_5), (0, .ref (g 0)), (1, .int x1), (3, .int x3)]) hx hb dX2_leadsTo_51 hl (k := 5) rfl (by rw [ex4_10]; rfl) (by decide) rfl (fun ls hl => ?_)
        refine lv_goto (tgt := 17) hx hb dX2_leadsTo_54 (by decide) ?_
        exact ih x1 x2_9 x3 x4_10 ro H locs hP hD hS ls (lv_sub hl [3, 4, 1, 5, 0] rfl) hw
  unfold wX2_leadsTo at hw
  suffices main : ∀ (H : Heap) (locs : List Loc), va_P D vwCl (xS g k fd cd cr tr ro nw kp qu qd ql kd fm tk mr) H → va_D A (xS g k fd cd cr tr ro nw kp qu qd ql kd fm tk mr) → va_S A s.heap H locs → W p l e rmX2_leadsTo s m args below meth c H locs 0 0 Q (F0 m 0 ls []) from main _ _ hP hD hS
  intro H locs hP hD hS
  refine lv_aload_n hx hb dX2_leadsTo_0 rfl (lv_at hl 0 rfl) ?_
  refine lv_iconst (v := 1) hx hb dX2_leadsTo_1 (by decide) ?_
  refine lv_bipush (v := 8) hx hb dX2_leadsTo_2 (by decide) ?_
  refine lv_iload_n hx hb dX2_leadsTo_4 rfl (lv_at hl 1 rfl) ?_
  refine pcall (va_runV (As := [.int 1, .int 8, .int x1]) (rest := []) hC (c_X2_equalWords l D g k fd cd cr tr ro nw kp qu qd ql kd fm tk mr 1 8 x1 _ hw H) (cwV 3 hts gX2_leadsTo_X2_equalWords rfl rfl rfl (by decide +kernel) ⟨Nat.le_of_ble_eq_true rfl, Nat.le_of_ble_eq_true rfl⟩) (preV_p (va_recv hK hP (ci := 2) (q0 := 0) rfl rfl) hP hK hZ hS) rfl rfl hl.1 rfl (lv_room (Nat.le_of_ble_eq_true rfl)) dX2_leadsTo_5 ⟨Nat.le_of_ble_eq_true rfl, Nat.le_of_ble_eq_true rfl⟩) (fun r_1 hw => ?_)
  refine lv_istore_n (lv' := [(2, .int r_1), (0, .ref (g 0)), (1, .int x1)]) hx hb dX2_leadsTo_8 rfl hl (by decide) rfl (fun ls hl => ?_)
  refine lv_aload_n hx hb dX2_leadsTo_9 rfl (lv_at hl 1 rfl) ?_
  refine icall (wr := []) (va_runV (As := []) (rest := []) hC (c_X2_listLive l D g k fd cd cr tr ro nw kp qu qd ql kd fm tk mr _ hw H.size) (cwV 0 hts gX2_leadsTo_X2_listLive rfl rfl rfl (by decide +kernel) ⟨Nat.le_of_ble_eq_true rfl, Nat.le_of_ble_eq_true rfl⟩) (preV_m (va_recv hK hP (ci := 2) (q0 := 0) rfl rfl) hP hD hA hK hZ hS [0, 1, 2, 3, 4, 5, 6, 7, 8, 9, 10, 11] rfl rfl (by decide)) rfl rfl hl.1 rfl (lv_room (Nat.le_of_ble_eq_true rfl)) dX2_leadsTo_10 ⟨Nat.le_of_ble_eq_true rfl, Nat.le_of_ble_eq_true rfl⟩) hP hD hA hS [0, 1, 2, 3, 4, 5, 6, 7, 8, 9, 10, 11] [] rfl rfl (by decide) (by decide) (fun r_3 u' H locs hw hP hD hS => ?_)
  obtain ⟨ro_2, rfl⟩ : ∃ z, z = u' := ⟨_, rfl⟩
  try dsimp only at hw
  have hP : va_P D vwCl (xS g k fd cd cr tr ro_2 nw kp qu qd ql kd fm tk mr) H := hP
  have hD : va_D A (xS g k fd cd cr tr ro_2 nw kp qu qd ql kd fm tk mr) := hD
  refine lv_istore_n (lv' := [(3, .int r_3), (2, .int r_1), (0, .ref (g 0)), (1, .int x1)]) hx hb dX2_leadsTo_13 rfl hl (by decide) rfl (fun ls hl => ?_)
  refine lv_iconst (v := 0) hx hb dX2_leadsTo_14 (by decide) ?_
  refine lv_istore (lv' := [(4, .int 0), (3, .int r_3), (2, .int r_1), (0, .ref (g 0)), (1, .int x1)]) hx hb dX2_leadsTo_15 hl (by decide) rfl (fun ls hl => ?_)
  obtain ⟨fu_11, hw⟩ := hw
  exact B17  fu_11 x1 r_1 r_3 0 ro_2 H locs hP hD hS ls (lv_sub hl [3, 4, 2, 1, 0] rfl) hw
-- X2_sizeOf
abbrev rmX2_sizeOf : Room := { frames := 2, cells := 0, slots := 0, locals := 41 }
set_option maxHeartbeats 4000000 in
set_option maxRecDepth 100000 in
theorem c_X2_sizeOf (l : Launch) (D : va_G) (g : Nat → Nat) (k : xC) (fd : Int32) (cd : Int32) (cr : Int32) (tr : Int32) (ro : Nat → Int32) (nw : Nat → Int32) (kp : Nat → Int32) (qu : Nat → Int32) (qd : Nat → Int32) (ql : Int32) (kd : Nat → Int32) (fm : Nat → Int32) (tk : Nat → Int32) (mr : Nat → Int32) (x1 : Int32) (post : Int32 → Prop) (hw : wX2_sizeOf post nw x1) : CPi l yX2_sizeOf wsX2_sizeOf rmX2_sizeOf D k [.ref (g 0), .int x1] (xS g k fd cd cr tr ro nw kp qu qd ql kd fm tk mr) post := by
  refine met_pi (cc := cX2_sizeOf) (nL := 2) (by decide) rfl (Nat.le_of_ble_eq_true rfl) ?_
  intro p e s m args below meth c Q ls hC hP hK hZ hS hl hret
  obtain ⟨hx, hb, hml, hown, hts⟩ := id hC
  have hC : CallFix p m c cX2_sizeOf 2 s args wsX2_sizeOf RX2 := hC
  have hown : s.vm.findClass RX2 = some m.cls := hown
  have hl : lv_has ls 2 [(0, .ref (g 0)), (1, .int x1)] := hl
  have hinX2 : ∀ w ∈ wsX20, w ∈ wsX2_sizeOf := fun _ h => List.mem_cons_of_mem _ (List.mem_append_left _ (List.mem_append_right _ h))
  unfold wX2_sizeOf at hw
  refine lv_aload_n hx hb dX2_sizeOf_0 rfl (lv_at hl 0 rfl) ?_
  refine va_get (D := D) (ci := 2) (v := .ref (g 2)) (C := RX2) (T := TX2) (N := 7) hx hb hts hinX2 hown hK hP 0 rfl rfl 0 (by decide) (hts (.fieldLink RX2 10 "SlabHeap" "words" "LSlabHeap$Words;") (by decide +kernel)) (fun _ h9 => h9) rfl dX2_sizeOf_1 ?_
  refine lv_iload_n hx hb dX2_sizeOf_4 rfl (lv_at hl 1 rfl) ?_
  refine pcall (va_runV (As := [.int x1]) (rest := []) hC (c_X1_at l D g k nw kp qu qd ql x1 _ hw s.heap) (cwV 1 hts gX2_sizeOf_X1_at rfl rfl rfl (by decide +kernel) ⟨Nat.le_of_ble_eq_true rfl, Nat.le_of_ble_eq_true rfl⟩) (preV_p (va_recv hK hP (ci := 1) (q0 := 2) rfl rfl) (hP.sub [2, 3, 4, 5, 6] rfl) hK hZ hS) rfl rfl hl.1 rfl (lv_room (Nat.le_of_ble_eq_true rfl)) dX2_sizeOf_5 ⟨Nat.le_of_ble_eq_true rfl, Nat.le_of_ble_eq_true rfl⟩) (fun r_1 hw => ?_)
  refine pcall (va_runS (As := [.int r_1]) (rest := []) hC (c_X2_sizeIn l D k r_1 _ hw s.heap) (va_cwS 1 hts gX2_sizeOf_X2_sizeIn rfl rfl rfl (by decide +kernel) ⟨Nat.le_of_ble_eq_true rfl, Nat.le_of_ble_eq_true rfl⟩) (preS_p (hP.sub [] rfl) hK hZ hS) rfl rfl hl.1 rfl (lv_room (Nat.le_of_ble_eq_true rfl)) dX2_sizeOf_8 ⟨Nat.le_of_ble_eq_true rfl, Nat.le_of_ble_eq_true rfl⟩) (fun r_2 hw => ?_)
  exact hret _ _ _ dX2_sizeOf_11 hw
-- X2_lengthOf
abbrev rmX2_lengthOf : Room := { frames := 3, cells := 0, slots := 0, locals := 62 }
set_option maxHeartbeats 4000000 in
set_option maxRecDepth 100000 in
theorem c_X2_lengthOf (l : Launch) (D : va_G) (g : Nat → Nat) (k : xC) (fd : Int32) (cd : Int32) (cr : Int32) (tr : Int32) (ro : Nat → Int32) (nw : Nat → Int32) (kp : Nat → Int32) (qu : Nat → Int32) (qd : Nat → Int32) (ql : Int32) (kd : Nat → Int32) (fm : Nat → Int32) (tk : Nat → Int32) (mr : Nat → Int32) (x1 : Int32) (post : Int32 → Prop) (hw : wX2_lengthOf post nw x1) : CPi l yX2_lengthOf wsX2_lengthOf rmX2_lengthOf D k [.ref (g 0), .int x1] (xS g k fd cd cr tr ro nw kp qu qd ql kd fm tk mr) post := by
  refine met_pi (cc := cX2_lengthOf) (nL := 2) (by decide) rfl (Nat.le_of_ble_eq_true rfl) ?_
  intro p e s m args below meth c Q ls hC hP hK hZ hS hl hret
  obtain ⟨hx, hb, hml, hown, hts⟩ := id hC
  have hC : CallFix p m c cX2_lengthOf 2 s args wsX2_lengthOf RX2 := hC
  have hown : s.vm.findClass RX2 = some m.cls := hown
  have hl : lv_has ls 2 [(0, .ref (g 0)), (1, .int x1)] := hl
  have hinX2 : ∀ w ∈ wsX20, w ∈ wsX2_lengthOf := fun _ h => List.mem_cons_of_mem _ (List.mem_append_left _ (List.mem_append_right _ h))
  unfold wX2_lengthOf at hw
  refine lv_aload_n hx hb dX2_lengthOf_0 rfl (lv_at hl 0 rfl) ?_
  refine lv_iload_n hx hb dX2_lengthOf_1 rfl (lv_at hl 1 rfl) ?_
  refine pcall (va_runV (As := [.int x1]) (rest := []) hC (c_X2_sizeOf l D g k fd cd cr tr ro nw kp qu qd ql kd fm tk mr x1 _ hw s.heap) (cwV 1 hts gX2_lengthOf_X2_sizeOf rfl rfl rfl (by decide +kernel) ⟨Nat.le_of_ble_eq_true rfl, Nat.le_of_ble_eq_true rfl⟩) (preV_p (va_recv hK hP (ci := 2) (q0 := 0) rfl rfl) hP hK hZ hS) rfl rfl hl.1 rfl (lv_room (Nat.le_of_ble_eq_true rfl)) dX2_lengthOf_2 ⟨Nat.le_of_ble_eq_true rfl, Nat.le_of_ble_eq_true rfl⟩) (fun r_1 hw => ?_)
  refine lv_iconst (v := 1) hx hb dX2_lengthOf_5 (by decide) ?_
  refine lv_iadd hx hb dX2_lengthOf_6 ?_
  exact hret _ _ _ dX2_lengthOf_7 hw
-- X2_release
abbrev rmX2_release : Room := { frames := 3, cells := 0, slots := 0, locals := 68 }
set_option maxHeartbeats 4000000 in
set_option maxRecDepth 100000 in
theorem c_X2_release (l : Launch) (D : va_G) (g : Nat → Nat) (k : xC) (fd : Int32) (cd : Int32) (cr : Int32) (tr : Int32) (ro : Nat → Int32) (nw : Nat → Int32) (kp : Nat → Int32) (qu : Nat → Int32) (qd : Nat → Int32) (ql : Int32) (kd : Nat → Int32) (fm : Nat → Int32) (tk : Nat → Int32) (mr : Nat → Int32) (x1 : Int32) (post : (Nat → Int32) → (Nat → Int32) → (Nat → Int32) → Int32 → (Nat → Int32) → (Nat → Int32) → (Nat → Int32) → Prop) (hw : wX2_release post nw qu qd ql kd fm tk x1) : CMv l yX2_release wsX2_release rmX2_release D k [.ref (g 0), .int x1] (fun v : (Nat → Int32) × (Nat → Int32) × (Nat → Int32) × Int32 × (Nat → Int32) × (Nat → Int32) × (Nat → Int32) => (xS g k fd cd cr tr ro (v.1) kp (v.2.1) (v.2.2.1) (v.2.2.2.1) (v.2.2.2.2.1) (v.2.2.2.2.2.1) (v.2.2.2.2.2.2) mr)) (nw, qu, qd, ql, kd, fm, tk) (fun v => post (v.1) (v.2.1) (v.2.2.1) (v.2.2.2.1) (v.2.2.2.2.1) (v.2.2.2.2.2.1) (v.2.2.2.2.2.2)) := by
  refine met_mv (cc := cX2_release) (nL := 2) (by decide) rfl (Nat.le_of_ble_eq_true rfl) ?_
  intro p e s m args below meth c Q A ls hC hP hD hA hK hZ hS hl hret
  obtain ⟨hx, hb, hml, hown, hts⟩ := id hC
  have hC : CallFix p m c cX2_release 2 s args wsX2_release RX2 := hC
  have hown : s.vm.findClass RX2 = some m.cls := hown
  have hl : lv_has ls 2 [(0, .ref (g 0)), (1, .int x1)] := hl
  have hP : va_P D vwCl (xS g k fd cd cr tr ro nw kp qu qd ql kd fm tk mr) s.heap := hP
  have hD : va_D A (xS g k fd cd cr tr ro nw kp qu qd ql kd fm tk mr) := hD
  have hinX2 : ∀ w ∈ wsX20, w ∈ wsX2_release := fun _ h => List.mem_cons_of_mem _ (List.mem_append_left _ (List.mem_append_left _ (List.mem_append_right _ h)))
  unfold wX2_release at hw
  suffices main : ∀ (H : Heap) (locs : List Loc), va_P D vwCl (xS g k fd cd cr tr ro nw kp qu qd ql kd fm tk mr) H → va_D A (xS g k fd cd cr tr ro nw kp qu qd ql kd fm tk mr) → va_S A s.heap H locs → W p l e rmX2_release s m args below meth c H locs 0 0 Q (F0 m 0 ls []) from main _ _ hP hD hS
  intro H locs hP hD hS
  refine lv_aload_n hx hb dX2_release_0 rfl (lv_at hl 0 rfl) ?_
  refine va_get (D := D) (ci := 2) (v := .ref (g 7)) (C := RX2) (T := TX2) (N := 7) hx hb hts hinX2 hown hK hP 0 rfl rfl 1 (by decide) (hts (.fieldLink RX2 19 "SlabHeap" "pages" "LSlabHeap$Pages;") (by decide +kernel)) (fun _ h9 => h9) rfl dX2_release_1 ?_
  refine lv_iload_n hx hb dX2_release_4 rfl (lv_at hl 1 rfl) ?_
  refine vcall (wr := [(g 0, .inr (2, [.ref (g 2), .ref (g 7), .ref (g 1), .int fd, .int cd, .int cr, .int tr])), (g 1, .inl (k.1, 2040, .inl ro)), (g 2, .inr (1, [.ref (g 3), .ref (g 4), .ref (g 5), .ref (g 6), .int ql])), (g 3, .inl (k.1, 4096, .inl nw)), (g 4, .inl (k.1, 4096, .inl kp)), (g 5, .inl (k.1, 512, .inl qu)), (g 6, .inl (k.2, 512, .inl qd))]) (va_runV (As := [.int x1]) (rest := []) hC (c_X0_remove l D g k kd fm tk mr x1 _ hw H.size) (cwV 1 hts gX2_release_X0_remove rfl rfl rfl (by decide +kernel) ⟨Nat.le_of_ble_eq_true rfl, Nat.le_of_ble_eq_true rfl⟩) (preV_m (va_recv hK hP (ci := 0) (q0 := 7) rfl rfl) hP hD hA hK hZ hS [7, 8, 9, 10, 11] rfl rfl (by decide)) rfl rfl hl.1 rfl (lv_room (Nat.le_of_ble_eq_true rfl)) dX2_release_5 ⟨Nat.le_of_ble_eq_true rfl, Nat.le_of_ble_eq_true rfl⟩) hP hD hA hS [7, 8, 9, 10, 11] [0, 1, 2, 3, 4, 5, 6] rfl rfl (by decide) (by decide) (fun u' H locs hw hP hD hS => ?_)
  obtain ⟨kd_1, fm_2, tk_3⟩ := u'
  try dsimp only at hw
  have hP : va_P D vwCl (xS g k fd cd cr tr ro nw kp qu qd ql kd_1 fm_2 tk_3 mr) H := hP.sub [0, 1, 2, 3, 4, 5, 6, 7, 8, 9, 10, 11] rfl
  have hD : va_D A (xS g k fd cd cr tr ro nw kp qu qd ql kd_1 fm_2 tk_3 mr) := hD.sub [0, 1, 2, 3, 4, 5, 6, 7, 8, 9, 10, 11] (by decide) rfl
  refine lv_aload_n hx hb dX2_release_8 rfl (lv_at hl 0 rfl) ?_
  refine va_get (D := D) (ci := 2) (v := .ref (g 2)) (C := RX2) (T := TX2) (N := 7) hx hb hts hinX2 hown hK hP 0 rfl rfl 0 (by decide) (hts (.fieldLink RX2 10 "SlabHeap" "words" "LSlabHeap$Words;") (by decide +kernel)) (fun _ h9 => h9) rfl dX2_release_9 ?_
  refine lv_iload_n hx hb dX2_release_12 rfl (lv_at hl 1 rfl) ?_
  refine lv_iconst (v := 0) hx hb dX2_release_13 (by decide) ?_
  refine vcall (wr := [(g 0, .inr (2, [.ref (g 2), .ref (g 7), .ref (g 1), .int fd, .int cd, .int cr, .int tr])), (g 1, .inl (k.1, 2040, .inl ro)), (g 7, .inr (0, [.ref (g 8), .ref (g 9), .ref (g 10), .ref (g 11)])), (g 8, .inl (k.1, 256, .inl kd_1)), (g 9, .inl (k.1, 256, .inl fm_2)), (g 10, .inl (k.1, 256, .inl tk_3)), (g 11, .inl (k.1, 256, .inl mr))]) (va_runV (As := [.int x1, .int 0]) (rest := []) hC (c_X1_write l D g k nw kp qu qd ql x1 0 _ hw H.size) (cwV 2 hts gX2_release_X1_write rfl rfl rfl (by decide +kernel) ⟨Nat.le_of_ble_eq_true rfl, Nat.le_of_ble_eq_true rfl⟩) (preV_m (va_recv hK hP (ci := 1) (q0 := 2) rfl rfl) hP hD hA hK hZ hS [2, 3, 4, 5, 6] rfl rfl (by decide)) rfl rfl hl.1 rfl (lv_room (Nat.le_of_ble_eq_true rfl)) dX2_release_14 ⟨Nat.le_of_ble_eq_true rfl, Nat.le_of_ble_eq_true rfl⟩) hP hD hA hS [2, 3, 4, 5, 6] [0, 1, 7, 8, 9, 10, 11] rfl rfl (by decide) (by decide) (fun u' H locs hw hP hD hS => ?_)
  obtain ⟨nw_4, qu_5, qd_6, ql_7⟩ := u'
  try dsimp only at hw
  have hP : va_P D vwCl (xS g k fd cd cr tr ro nw_4 kp qu_5 qd_6 ql_7 kd_1 fm_2 tk_3 mr) H := hP.sub [0, 1, 7, 8, 9, 10, 11, 2, 3, 4, 5, 6] rfl
  have hD : va_D A (xS g k fd cd cr tr ro nw_4 kp qu_5 qd_6 ql_7 kd_1 fm_2 tk_3 mr) := hD.sub [0, 1, 7, 8, 9, 10, 11, 2, 3, 4, 5, 6] (by decide) rfl
  exact hret _ _ (nw_4, qu_5, qd_6, ql_7, kd_1, fm_2, tk_3) _ _ hP hD hS dX2_release_17 hw
-- X2_free
abbrev rmX2_free : Room := { frames := 4, cells := 0, slots := 0, locals := 94 }
set_option maxHeartbeats 4000000 in
set_option maxRecDepth 100000 in
theorem c_X2_free (l : Launch) (D : va_G) (g : Nat → Nat) (k : xC) (fd : Int32) (cd : Int32) (cr : Int32) (tr : Int32) (ro : Nat → Int32) (nw : Nat → Int32) (kp : Nat → Int32) (qu : Nat → Int32) (qd : Nat → Int32) (ql : Int32) (kd : Nat → Int32) (fm : Nat → Int32) (tk : Nat → Int32) (mr : Nat → Int32) (x1 : Int32) (post : Int32 → Int32 → (Nat → Int32) → (Nat → Int32) → (Nat → Int32) → (Nat → Int32) → Int32 → (Nat → Int32) → (Nat → Int32) → (Nat → Int32) → Prop) (hw : wX2_free post tr ro nw qu qd ql kd fm tk x1) : CMi l yX2_free wsX2_free rmX2_free D k [.ref (g 0), .int x1] (fun v : Int32 × (Nat → Int32) × (Nat → Int32) × (Nat → Int32) × (Nat → Int32) × Int32 × (Nat → Int32) × (Nat → Int32) × (Nat → Int32) => (xS g k fd cd cr (v.1) (v.2.1) (v.2.2.1) kp (v.2.2.2.1) (v.2.2.2.2.1) (v.2.2.2.2.2.1) (v.2.2.2.2.2.2.1) (v.2.2.2.2.2.2.2.1) (v.2.2.2.2.2.2.2.2) mr)) (tr, ro, nw, qu, qd, ql, kd, fm, tk) (fun r v => post r (v.1) (v.2.1) (v.2.2.1) (v.2.2.2.1) (v.2.2.2.2.1) (v.2.2.2.2.2.1) (v.2.2.2.2.2.2.1) (v.2.2.2.2.2.2.2.1) (v.2.2.2.2.2.2.2.2)) := by
  refine met_mi (cc := cX2_free) (nL := 3) (by decide) rfl (Nat.le_of_ble_eq_true rfl) ?_
  intro p e s m args below meth c Q A ls hC hP hD hA hK hZ hS hl hret
  obtain ⟨hx, hb, hml, hown, hts⟩ := id hC
  have hC : CallFix p m c cX2_free 3 s args wsX2_free RX2 := hC
  have hown : s.vm.findClass RX2 = some m.cls := hown
  have hl : lv_has ls 3 [(0, .ref (g 0)), (1, .int x1)] := hl
  have hP : va_P D vwCl (xS g k fd cd cr tr ro nw kp qu qd ql kd fm tk mr) s.heap := hP
  have hD : va_D A (xS g k fd cd cr tr ro nw kp qu qd ql kd fm tk mr) := hD
  have hinX2 : ∀ w ∈ wsX20, w ∈ wsX2_free := fun _ h => List.mem_cons_of_mem _ (List.mem_append_left _ (List.mem_append_left _ (List.mem_append_right _ h)))
  unfold wX2_free at hw
  suffices main : ∀ (H : Heap) (locs : List Loc), va_P D vwCl (xS g k fd cd cr tr ro nw kp qu qd ql kd fm tk mr) H → va_D A (xS g k fd cd cr tr ro nw kp qu qd ql kd fm tk mr) → va_S A s.heap H locs → W p l e rmX2_free s m args below meth c H locs 0 0 Q (F0 m 0 ls []) from main _ _ hP hD hS
  intro H locs hP hD hS
  refine lv_aload_n hx hb dX2_free_0 rfl (lv_at hl 0 rfl) ?_
  refine va_get (D := D) (ci := 2) (v := .ref (g 7)) (C := RX2) (T := TX2) (N := 7) hx hb hts hinX2 hown hK hP 0 rfl rfl 1 (by decide) (hts (.fieldLink RX2 19 "SlabHeap" "pages" "LSlabHeap$Pages;") (by decide +kernel)) (fun _ h9 => h9) rfl dX2_free_1 ?_
  refine lv_iload_n hx hb dX2_free_4 rfl (lv_at hl 1 rfl) ?_
  refine pcall (va_runV (As := [.int x1]) (rest := []) hC (c_X0_isLive l D g k kd fm tk mr x1 _ hw H) (cwV 1 hts gX2_free_X0_isLive rfl rfl rfl (by decide +kernel) ⟨Nat.le_of_ble_eq_true rfl, Nat.le_of_ble_eq_true rfl⟩) (preV_p (va_recv hK hP (ci := 0) (q0 := 7) rfl rfl) (hP.sub [7, 8, 9, 10, 11] rfl) hK hZ hS) rfl rfl hl.1 rfl (lv_room (Nat.le_of_ble_eq_true rfl)) dX2_free_5 ⟨Nat.le_of_ble_eq_true rfl, Nat.le_of_ble_eq_true rfl⟩) (fun r_1 hw => ?_)
  refine lv_if_ne (tgt := 18) hx hb dX2_free_8 (by decide) (fun c_2 => ?_) (fun c_2 => ?_)
  · have hw := hw.1 c_2
    refine lv_aload_n hx hb dX2_free_18 rfl (lv_at hl 0 rfl) ?_
    refine lv_iload_n hx hb dX2_free_19 rfl (lv_at hl 1 rfl) ?_
    refine icall (wr := []) (va_runV (As := [.int x1]) (rest := []) hC (c_X2_leadsTo l D g k fd cd cr tr ro nw kp qu qd ql kd fm tk mr x1 _ hw H.size) (cwV 1 hts gX2_free_X2_leadsTo rfl rfl rfl (by decide +kernel) ⟨Nat.le_of_ble_eq_true rfl, Nat.le_of_ble_eq_true rfl⟩) (preV_m (va_recv hK hP (ci := 2) (q0 := 0) rfl rfl) hP hD hA hK hZ hS [0, 1, 2, 3, 4, 5, 6, 7, 8, 9, 10, 11] rfl rfl (by decide)) rfl rfl hl.1 rfl (lv_room (Nat.le_of_ble_eq_true rfl)) dX2_free_20 ⟨Nat.le_of_ble_eq_true rfl, Nat.le_of_ble_eq_true rfl⟩) hP hD hA hS [0, 1, 2, 3, 4, 5, 6, 7, 8, 9, 10, 11] [] rfl rfl (by decide) (by decide) (fun r_4 u' H locs hw hP hD hS => ?_)
    obtain ⟨ro_3, rfl⟩ : ∃ z, z = u' := ⟨_, rfl⟩
    try dsimp only at hw
    have hP : va_P D vwCl (xS g k fd cd cr tr ro_3 nw kp qu qd ql kd fm tk mr) H := hP
    have hD : va_D A (xS g k fd cd cr tr ro_3 nw kp qu qd ql kd fm tk mr) := hD
    refine lv_if_le (tgt := 33) hx hb dX2_free_23 (by decide) (fun c_5 => ?_) (fun c_5 => ?_)
    · have hw := hw.1 c_5
      refine lv_aload_n hx hb dX2_free_33 rfl (lv_at hl 0 rfl) ?_
      refine lv_iload_n hx hb dX2_free_34 rfl (lv_at hl 1 rfl) ?_
      refine pcall (va_runV (As := [.int x1]) (rest := []) hC (c_X2_lengthOf l D g k fd cd cr tr ro_3 nw kp qu qd ql kd fm tk mr x1 _ hw H) (cwV 1 hts gX2_free_X2_lengthOf rfl rfl rfl (by decide +kernel) ⟨Nat.le_of_ble_eq_true rfl, Nat.le_of_ble_eq_true rfl⟩) (preV_p (va_recv hK hP (ci := 2) (q0 := 0) rfl rfl) hP hK hZ hS) rfl rfl hl.1 rfl (lv_room (Nat.le_of_ble_eq_true rfl)) dX2_free_35 ⟨Nat.le_of_ble_eq_true rfl, Nat.le_of_ble_eq_true rfl⟩) (fun r_6 hw => ?_)
      refine lv_istore_n (lv' := [(2, .int r_6), (0, .ref (g 0)), (1, .int x1)]) hx hb dX2_free_38 rfl hl (by decide) rfl (fun ls hl => ?_)
      refine lv_aload_n hx hb dX2_free_39 rfl (lv_at hl 1 rfl) ?_
      refine lv_iload_n hx hb dX2_free_40 rfl (lv_at hl 2 rfl) ?_
      refine vcall (wr := []) (va_runV (As := [.int x1]) (rest := []) hC (c_X2_release l D g k fd cd cr tr ro_3 nw kp qu qd ql kd fm tk mr x1 _ hw H.size) (cwV 1 hts gX2_free_X2_release rfl rfl rfl (by decide +kernel) ⟨Nat.le_of_ble_eq_true rfl, Nat.le_of_ble_eq_true rfl⟩) (preV_m (va_recv hK hP (ci := 2) (q0 := 0) rfl rfl) hP hD hA hK hZ hS [0, 1, 2, 3, 4, 5, 6, 7, 8, 9, 10, 11] rfl rfl (by decide)) rfl rfl hl.1 rfl (lv_room (Nat.le_of_ble_eq_true rfl)) dX2_free_41 ⟨Nat.le_of_ble_eq_true rfl, Nat.le_of_ble_eq_true rfl⟩) hP hD hA hS [0, 1, 2, 3, 4, 5, 6, 7, 8, 9, 10, 11] [] rfl rfl (by decide) (by decide) (fun u' H locs hw hP hD hS => ?_)
      obtain ⟨nw_7, qu_8, qd_9, ql_10, kd_11, fm_12, tk_13⟩ := u'
      try dsimp only at hw
      have hP : va_P D vwCl (xS g k fd cd cr tr ro_3 nw_7 kp qu_8 qd_9 ql_10 kd_11 fm_12 tk_13 mr) H := hP
      have hD : va_D A (xS g k fd cd cr tr ro_3 nw_7 kp qu_8 qd_9 ql_10 kd_11 fm_12 tk_13 mr) := hD
      refine lv_aload_n hx hb dX2_free_44 rfl (lv_at hl 1 rfl) ?_
      refine lv_iconst (v := 0) hx hb dX2_free_45 (by decide) ?_
      refine lv_iload_n hx hb dX2_free_46 rfl (lv_at hl 0 rfl) ?_
      refine icall (wr := []) (va_runV (As := [.int 0, .int r_6]) (rest := []) hC (c_X2_answer l D g k fd cd cr tr ro_3 nw_7 kp qu_8 qd_9 ql_10 kd_11 fm_12 tk_13 mr 0 r_6 _ hw H.size) (cwV 2 hts gX2_free_X2_answer rfl rfl rfl (by decide +kernel) ⟨Nat.le_of_ble_eq_true rfl, Nat.le_of_ble_eq_true rfl⟩) (preV_m (va_recv hK hP (ci := 2) (q0 := 0) rfl rfl) hP hD hA hK hZ hS [0, 1, 2, 3, 4, 5, 6, 7, 8, 9, 10, 11] rfl rfl (by decide)) rfl rfl hl.1 rfl (lv_room (Nat.le_of_ble_eq_true rfl)) dX2_free_47 ⟨Nat.le_of_ble_eq_true rfl, Nat.le_of_ble_eq_true rfl⟩) hP hD hA hS [0, 1, 2, 3, 4, 5, 6, 7, 8, 9, 10, 11] [] rfl rfl (by decide) (by decide) (fun r_15 u' H locs hw hP hD hS => ?_)
      obtain ⟨tr_14, rfl⟩ : ∃ z, z = u' := ⟨_, rfl⟩
      try dsimp only at hw
      have hP : va_P D vwCl (xS g k fd cd cr tr_14 ro_3 nw_7 kp qu_8 qd_9 ql_10 kd_11 fm_12 tk_13 mr) H := hP
      have hD : va_D A (xS g k fd cd cr tr_14 ro_3 nw_7 kp qu_8 qd_9 ql_10 kd_11 fm_12 tk_13 mr) := hD
      exact hret _ _ _ (tr_14, ro_3, nw_7, qu_8, qd_9, ql_10, kd_11, fm_12, tk_13) _ _ hP hD hS dX2_free_50 hw
    · have hw := hw.2 c_5
      refine lv_aload_n hx hb dX2_free_26 rfl (lv_at hl 0 rfl) ?_
      refine lv_iconst (v := 4) hx hb dX2_free_27 (by decide) ?_
      refine lv_iconst (v := (-1)) hx hb dX2_free_28 (by decide) ?_
      refine icall (wr := []) (va_runV (As := [.int 4, .int (-1)]) (rest := []) hC (c_X2_answer l D g k fd cd cr tr ro_3 nw kp qu qd ql kd fm tk mr 4 (-1) _ hw H.size) (cwV 2 hts gX2_free_X2_answer rfl rfl rfl (by decide +kernel) ⟨Nat.le_of_ble_eq_true rfl, Nat.le_of_ble_eq_true rfl⟩) (preV_m (va_recv hK hP (ci := 2) (q0 := 0) rfl rfl) hP hD hA hK hZ hS [0, 1, 2, 3, 4, 5, 6, 7, 8, 9, 10, 11] rfl rfl (by decide)) rfl rfl hl.1 rfl (lv_room (Nat.le_of_ble_eq_true rfl)) dX2_free_29 ⟨Nat.le_of_ble_eq_true rfl, Nat.le_of_ble_eq_true rfl⟩) hP hD hA hS [0, 1, 2, 3, 4, 5, 6, 7, 8, 9, 10, 11] [] rfl rfl (by decide) (by decide) (fun r_17 u' H locs hw hP hD hS => ?_)
      obtain ⟨tr_16, rfl⟩ : ∃ z, z = u' := ⟨_, rfl⟩
      try dsimp only at hw
      have hP : va_P D vwCl (xS g k fd cd cr tr_16 ro_3 nw kp qu qd ql kd fm tk mr) H := hP
      have hD : va_D A (xS g k fd cd cr tr_16 ro_3 nw kp qu qd ql kd fm tk mr) := hD
      exact hret _ _ _ (tr_16, ro_3, nw, qu, qd, ql, kd, fm, tk) _ _ hP hD hS dX2_free_32 hw
  · have hw := hw.2 c_2
    refine lv_aload_n hx hb dX2_free_11 rfl (lv_at hl 0 rfl) ?_
    refine lv_iconst (v := 2) hx hb dX2_free_12 (by decide) ?_
    refine lv_iconst (v := (-1)) hx hb dX2_free_13 (by decide) ?_
    refine icall (wr := []) (va_runV (As := [.int 2, .int (-1)]) (rest := []) hC (c_X2_answer l D g k fd cd cr tr ro nw kp qu qd ql kd fm tk mr 2 (-1) _ hw H.size) (cwV 2 hts gX2_free_X2_answer rfl rfl rfl (by decide +kernel) ⟨Nat.le_of_ble_eq_true rfl, Nat.le_of_ble_eq_true rfl⟩) (preV_m (va_recv hK hP (ci := 2) (q0 := 0) rfl rfl) hP hD hA hK hZ hS [0, 1, 2, 3, 4, 5, 6, 7, 8, 9, 10, 11] rfl rfl (by decide)) rfl rfl hl.1 rfl (lv_room (Nat.le_of_ble_eq_true rfl)) dX2_free_14 ⟨Nat.le_of_ble_eq_true rfl, Nat.le_of_ble_eq_true rfl⟩) hP hD hA hS [0, 1, 2, 3, 4, 5, 6, 7, 8, 9, 10, 11] [] rfl rfl (by decide) (by decide) (fun r_19 u' H locs hw hP hD hS => ?_)
    obtain ⟨tr_18, rfl⟩ : ∃ z, z = u' := ⟨_, rfl⟩
    try dsimp only at hw
    have hP : va_P D vwCl (xS g k fd cd cr tr_18 ro nw kp qu qd ql kd fm tk mr) H := hP
    have hD : va_D A (xS g k fd cd cr tr_18 ro nw kp qu qd ql kd fm tk mr) := hD
    exact hret _ _ _ (tr_18, ro, nw, qu, qd, ql, kd, fm, tk) _ _ hP hD hS dX2_free_17 hw
-- X2_hasWord
abbrev rmX2_hasWord : Room := { frames := 3, cells := 0, slots := 0, locals := 64 }
set_option maxHeartbeats 4000000 in
set_option maxRecDepth 100000 in
theorem c_X2_hasWord (l : Launch) (D : va_G) (g : Nat → Nat) (k : xC) (fd : Int32) (cd : Int32) (cr : Int32) (tr : Int32) (ro : Nat → Int32) (nw : Nat → Int32) (kp : Nat → Int32) (qu : Nat → Int32) (qd : Nat → Int32) (ql : Int32) (kd : Nat → Int32) (fm : Nat → Int32) (tk : Nat → Int32) (mr : Nat → Int32) (x1 : Int32) (x2 : Int32) (post : Int32 → Prop) (hw : wX2_hasWord post nw kd fm tk x1 x2) : CPi l yX2_hasWord wsX2_hasWord rmX2_hasWord D k [.ref (g 0), .int x1, .int x2] (xS g k fd cd cr tr ro nw kp qu qd ql kd fm tk mr) post := by
  refine met_pz (cc := cX2_hasWord) (nL := 3) (by decide) rfl (Nat.le_of_ble_eq_true rfl) ?_
  intro p e s m args below meth c Q ls hC hP hK hZ hS hl hret
  obtain ⟨hx, hb, hml, hown, hts⟩ := id hC
  have hC : CallFix p m c cX2_hasWord 3 s args wsX2_hasWord RX2 := hC
  have hown : s.vm.findClass RX2 = some m.cls := hown
  have hl : lv_has ls 3 [(0, .ref (g 0)), (1, .int x1), (2, .int x2)] := hl
  have hinX2 : ∀ w ∈ wsX20, w ∈ wsX2_hasWord := fun _ h => List.mem_cons_of_mem _ (List.mem_append_left _ (List.mem_append_left _ (List.mem_append_right _ h)))
  unfold wX2_hasWord at hw
  refine lv_aload_n hx hb dX2_hasWord_0 rfl (lv_at hl 0 rfl) ?_
  refine va_get (D := D) (ci := 2) (v := .ref (g 7)) (C := RX2) (T := TX2) (N := 7) hx hb hts hinX2 hown hK hP 0 rfl rfl 1 (by decide) (hts (.fieldLink RX2 19 "SlabHeap" "pages" "LSlabHeap$Pages;") (by decide +kernel)) (fun _ h9 => h9) rfl dX2_hasWord_1 ?_
  refine lv_iload_n hx hb dX2_hasWord_4 rfl (lv_at hl 1 rfl) ?_
  refine pcall (va_runV (As := [.int x1]) (rest := []) hC (c_X0_isLive l D g k kd fm tk mr x1 _ hw s.heap) (cwV 1 hts gX2_hasWord_X0_isLive rfl rfl rfl (by decide +kernel) ⟨Nat.le_of_ble_eq_true rfl, Nat.le_of_ble_eq_true rfl⟩) (preV_p (va_recv hK hP (ci := 0) (q0 := 7) rfl rfl) (hP.sub [7, 8, 9, 10, 11] rfl) hK hZ hS) rfl rfl hl.1 rfl (lv_room (Nat.le_of_ble_eq_true rfl)) dX2_hasWord_5 ⟨Nat.le_of_ble_eq_true rfl, Nat.le_of_ble_eq_true rfl⟩) (fun r_1 hw => ?_)
  refine lv_if_eq (tgt := 28) hx hb dX2_hasWord_8 (by decide) (fun c_2 => ?_) (fun c_2 => ?_)
  · have hw := hw.1 c_2
    refine lv_iconst (v := 0) hx hb dX2_hasWord_28 (by decide) ?_
    exact hret _ _ _ dX2_hasWord_29 nb_0 hw
  · have hw := hw.2 c_2
    refine lv_iload_n hx hb dX2_hasWord_11 rfl (lv_at hl 2 rfl) ?_
    refine lv_if_lt (tgt := 28) hx hb dX2_hasWord_12 (by decide) (fun c_3 => ?_) (fun c_3 => ?_)
    · have hw := hw.1 c_3
      refine lv_iconst (v := 0) hx hb dX2_hasWord_28 (by decide) ?_
      exact hret _ _ _ dX2_hasWord_29 nb_0 hw
    · have hw := hw.2 c_3
      refine lv_iload_n hx hb dX2_hasWord_15 rfl (lv_at hl 2 rfl) ?_
      refine lv_aload_n hx hb dX2_hasWord_16 rfl (lv_at hl 0 rfl) ?_
      refine lv_iload_n hx hb dX2_hasWord_17 rfl (lv_at hl 1 rfl) ?_
      refine pcall (va_runV (As := [.int x1]) (rest := [.int x2]) hC (c_X2_sizeOf l D g k fd cd cr tr ro nw kp qu qd ql kd fm tk mr x1 _ hw s.heap) (cwV 1 hts gX2_hasWord_X2_sizeOf rfl rfl rfl (by decide +kernel) ⟨Nat.le_of_ble_eq_true rfl, Nat.le_of_ble_eq_true rfl⟩) (preV_p (va_recv hK hP (ci := 2) (q0 := 0) rfl rfl) hP hK hZ hS) rfl rfl hl.1 rfl (lv_room (Nat.le_of_ble_eq_true rfl)) dX2_hasWord_18 ⟨Nat.le_of_ble_eq_true rfl, Nat.le_of_ble_eq_true rfl⟩) (fun r_4 hw => ?_)
      refine lv_icmp_ge (tgt := 28) hx hb dX2_hasWord_21 (by decide) (fun c_5 => ?_) (fun c_5 => ?_)
      · have hw := hw.1 c_5
        refine lv_iconst (v := 0) hx hb dX2_hasWord_28 (by decide) ?_
        exact hret _ _ _ dX2_hasWord_29 nb_0 hw
      · have hw := hw.2 c_5
        refine lv_iconst (v := 1) hx hb dX2_hasWord_24 (by decide) ?_
        refine lv_goto (tgt := 29) hx hb dX2_hasWord_25 (by decide) ?_
        exact hret _ _ _ dX2_hasWord_29 nb_1 hw
-- X2_settle
abbrev rmX2_settle : Room := { frames := 0, cells := 0, slots := 0, locals := 0 }
set_option maxHeartbeats 4000000 in
set_option maxRecDepth 100000 in
theorem c_X2_settle (l : Launch) (D : va_G) (g : Nat → Nat) (k : xC) (fd : Int32) (cd : Int32) (cr : Int32) (tr : Int32) (ro : Nat → Int32) (nw : Nat → Int32) (kp : Nat → Int32) (qu : Nat → Int32) (qd : Nat → Int32) (ql : Int32) (kd : Nat → Int32) (fm : Nat → Int32) (tk : Nat → Int32) (mr : Nat → Int32) (x1 : Int32) (post : Int32 → Int32 → Prop) (hw : wX2_settle post tr x1) : CMi l yX2_settle wsX2_settle rmX2_settle D k [.ref (g 0), .int x1] (fun v : Int32 => (xS g k fd cd cr v ro nw kp qu qd ql kd fm tk mr)) tr (fun r v => post r v) := by
  refine met_mz (cc := cX2_settle) (nL := 2) (by decide) rfl (Nat.le_of_ble_eq_true rfl) ?_
  intro p e s m args below meth c Q A ls hC hP hD hA hK hZ hS hl hret
  obtain ⟨hx, hb, hml, hown, hts⟩ := id hC
  have hC : CallFix p m c cX2_settle 2 s args wsX2_settle RX2 := hC
  have hown : s.vm.findClass RX2 = some m.cls := hown
  have hl : lv_has ls 2 [(0, .ref (g 0)), (1, .int x1)] := hl
  have hP : va_P D vwCl (xS g k fd cd cr tr ro nw kp qu qd ql kd fm tk mr) s.heap := hP
  have hD : va_D A (xS g k fd cd cr tr ro nw kp qu qd ql kd fm tk mr) := hD
  have hinX2 : ∀ w ∈ wsX20, w ∈ wsX2_settle := fun _ h => List.mem_cons_of_mem _ (List.mem_append_right _ h)
  unfold wX2_settle at hw
  suffices main : ∀ (H : Heap) (locs : List Loc), va_P D vwCl (xS g k fd cd cr tr ro nw kp qu qd ql kd fm tk mr) H → va_D A (xS g k fd cd cr tr ro nw kp qu qd ql kd fm tk mr) → va_S A s.heap H locs → W p l e rmX2_settle s m args below meth c H locs 0 0 Q (F0 m 0 ls []) from main _ _ hP hD hS
  intro H locs hP hD hS
  refine lv_aload_n hx hb dX2_settle_0 rfl (lv_at hl 0 rfl) ?_
  refine lv_iload_n hx hb dX2_settle_1 rfl (lv_at hl 1 rfl) ?_
  refine va_put (D := D) (ci := 2) (v := .int x1) (ty := .int) (C := RX2) (T := TX2) (N := 7) hx hb hts hinX2 tyX2 tyX2_ok nmX2 hown hK hP hD hS 0 rfl rfl 6 (by decide) (hts (.fieldLink RX2 37 "SlabHeap" "latestTrouble" "I") (by decide +kernel)) (fun _ h9 => h9) rfl (by decide +kernel) rfl rfl (Nat.le_of_ble_eq_true rfl) dX2_settle_2 (fun H locs hP hD hS => ?_)
  have hP : va_P D vwCl (xS g k fd cd cr x1 ro nw kp qu qd ql kd fm tk mr) H := hP
  have hD : va_D A (xS g k fd cd cr x1 ro nw kp qu qd ql kd fm tk mr) := hD
  refine lv_iload_n hx hb dX2_settle_5 rfl (lv_at hl 1 rfl) ?_
  refine lv_if_ne (tgt := 13) hx hb dX2_settle_6 (by decide) (fun c_1 => ?_) (fun c_1 => ?_)
  · have hw := hw.1 c_1
    refine lv_iconst (v := 0) hx hb dX2_settle_13 (by decide) ?_
    exact hret _ _ _ x1 _ _ hP hD hS dX2_settle_14 nb_0 hw
  · have hw := hw.2 c_1
    refine lv_iconst (v := 1) hx hb dX2_settle_9 (by decide) ?_
    refine lv_goto (tgt := 14) hx hb dX2_settle_10 (by decide) ?_
    exact hret _ _ _ x1 _ _ hP hD hS dX2_settle_14 nb_1 hw
