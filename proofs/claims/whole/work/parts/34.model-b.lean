-- X3_slots
abbrev rmX3_slots : Room := { frames := 0, cells := 0, slots := 0, locals := 0 }
set_option maxHeartbeats 4000000 in
set_option maxRecDepth 100000 in
theorem c_X3_slots (l : Launch) (D : va_G) (g : Nat → Nat) (k : xC) (mw : Nat → Int32) (mk : Nat → Int32) (ml : Nat → Int32) (mq : Nat → Int32) (mwt : Nat → Int32) (mn : Int32) (mt : Int32) (mcl : Int32) (mcr : Int32) (mth : Int32) (mkind : Nat → Int32) (msort : Nat → Int32) (mfirst : Nat → Int32) (mblk : Nat → Int32) (mfree : Nat → Int32) (mfnd : Nat → Int32) (mfm : Int32) (msn : Nat → Int32) (x1 : Int32) (post : Int32 → Prop) (hw : wX3_slots post msort x1) : CPi l yX3_slots wsX3_slots rmX3_slots D k [.ref (g 0), .int x1] (xM g k mw mk ml mq mwt mn mt mcl mcr mth mkind msort mfirst mblk mfree mfnd mfm msn) post := by
  refine met_pi (cc := cX3_slots) (nL := 2) (by decide) rfl (Nat.le_of_ble_eq_true rfl) ?_
  intro p e s m args below meth c Q ls hC hP hK hZ hS hl hret
  obtain ⟨hx, hb, hml, hown, hts⟩ := id hC
  have hC : CallFix p m c cX3_slots 2 s args wsX3_slots RX3 := hC
  have hown : s.vm.findClass RX3 = some m.cls := hown
  have hl : lv_has ls 2 [(0, .ref (g 0)), (1, .int x1)] := hl
  have hinX3 : ∀ w ∈ wsX30, w ∈ wsX3_slots := fun _ h => List.mem_cons_of_mem _ (List.mem_append_right _ h)
  unfold wX3_slots at hw
  refine lv_bipush (v := 16) hx hb dX3_slots_0 (by decide) ?_
  refine lv_aload_n hx hb dX3_slots_2 rfl (lv_at hl 0 rfl) ?_
  refine va_get (D := D) (ci := 3) (v := .ref (g 7)) (C := RX3) (T := TX3) (N := 18) hx hb hts hinX3 hown hK hP 0 rfl rfl 11 (by decide) (hts (.fieldLink RX3 29 "SlabHeapModel" "sort" "[I") (by decide +kernel)) (fun _ h9 => h9) rfl dX3_slots_3 ?_
  refine lv_iload_n hx hb dX3_slots_6 rfl (lv_at hl 1 rfl) ?_
  obtain ⟨h_1, hw⟩ := hw
  refine va_iald hx hb hK hP 7 0 rfl rfl h_1 dX3_slots_7 ?_
  obtain ⟨h_2, hw⟩ := hw
  refine lv_idiv hx hb dX3_slots_8 h_2 ?_
  exact hret _ _ _ dX3_slots_9 hw
-- X3_placeFor
abbrev rmX3_placeFor : Room := { frames := 2, cells := 0, slots := 0, locals := 48 }
set_option maxHeartbeats 4000000 in
set_option maxRecDepth 100000 in
theorem c_X3_placeFor (l : Launch) (D : va_G) (g : Nat → Nat) (k : xC) (mw : Nat → Int32) (mk : Nat → Int32) (ml : Nat → Int32) (mq : Nat → Int32) (mwt : Nat → Int32) (mn : Int32) (mt : Int32) (mcl : Int32) (mcr : Int32) (mth : Int32) (mkind : Nat → Int32) (msort : Nat → Int32) (mfirst : Nat → Int32) (mblk : Nat → Int32) (mfree : Nat → Int32) (mfnd : Nat → Int32) (mfm : Int32) (msn : Nat → Int32) (x1 : Int32) (post : Int32 → (Nat → Int32) → (Nat → Int32) → (Nat → Int32) → (Nat → Int32) → (Nat → Int32) → Prop) (hw : wX3_placeFor post mw ml mkind msort mfirst mblk mfree x1) : CMi l yX3_placeFor wsX3_placeFor rmX3_placeFor D k [.ref (g 0), .int x1] (fun v : (Nat → Int32) × (Nat → Int32) × (Nat → Int32) × (Nat → Int32) × (Nat → Int32) => (xM g k mw mk ml mq mwt mn mt mcl mcr mth (v.1) (v.2.1) (v.2.2.1) (v.2.2.2.1) (v.2.2.2.2) mfnd mfm msn)) (mkind, msort, mfirst, mblk, mfree) (fun r v => post r (v.1) (v.2.1) (v.2.2.1) (v.2.2.2.1) (v.2.2.2.2)) := by
  refine met_mi (cc := cX3_placeFor) (nL := 5) (by decide) rfl (Nat.le_of_ble_eq_true rfl) ?_
  intro p e s m args below meth c Q A ls hC hP hD hA hK hZ hS hl hret
  obtain ⟨hx, hb, hml, hown, hts⟩ := id hC
  have hC : CallFix p m c cX3_placeFor 5 s args wsX3_placeFor RX3 := hC
  have hown : s.vm.findClass RX3 = some m.cls := hown
  have hl : lv_has ls 5 [(0, .ref (g 0)), (1, .int x1)] := hl
  have hP : va_P D vwCl (xM g k mw mk ml mq mwt mn mt mcl mcr mth mkind msort mfirst mblk mfree mfnd mfm msn) s.heap := hP
  have hD : va_D A (xM g k mw mk ml mq mwt mn mt mcl mcr mth mkind msort mfirst mblk mfree mfnd mfm msn) := hD
  have hinX3 : ∀ w ∈ wsX30, w ∈ wsX3_placeFor := fun _ h => List.mem_cons_of_mem _ (List.mem_append_right _ h)
  have B73 : ∀ (J40 : Int32 → Int32 → (Nat → Int32) → (Nat → Int32) → (Nat → Int32) → (Nat → Int32) → (Nat → Int32) → Prop) (hJ40 : ∀ (x2 : Int32), ∀ (x3 : Int32), ∀ (mkind : Nat → Int32), ∀ (msort : Nat → Int32), ∀ (mfirst : Nat → Int32), ∀ (mblk : Nat → Int32), ∀ (mfree : Nat → Int32), ∀ (H : Heap) (locs : List Loc), va_P D vwCl (xM g k mw mk ml mq mwt mn mt mcl mcr mth mkind msort mfirst mblk mfree mfnd mfm msn) H → va_D A (xM g k mw mk ml mq mwt mn mt mcl mcr mth mkind msort mfirst mblk mfree mfnd mfm msn) → va_S A s.heap H locs → ∀ (ls : Array Slot), lv_has ls 5 [(0, .ref (g 0)), (2, .int x2), (3, .int x3)] → J40 x2 x3 mkind msort mfirst mblk mfree → W p l e rmX3_placeFor s m args below meth c H locs 0 0 Q (F0 m 40 ls [])) (fu : Nat), ∀ (x2 : Int32), ∀ (x3 : Int32), ∀ (x4 : Int32), ∀ (mkind : Nat → Int32), ∀ (msort : Nat → Int32), ∀ (mfirst : Nat → Int32), ∀ (mblk : Nat → Int32), ∀ (mfree : Nat → Int32), ∀ (H : Heap) (locs : List Loc), va_P D vwCl (xM g k mw mk ml mq mwt mn mt mcl mcr mth mkind msort mfirst mblk mfree mfnd mfm msn) H → va_D A (xM g k mw mk ml mq mwt mn mt mcl mcr mth mkind msort mfirst mblk mfree mfnd mfm msn) → va_S A s.heap H locs → ∀ (ls : Array Slot), lv_has ls 5 [(0, .ref (g 0)), (2, .int x2), (3, .int x3), (4, .int x4)] → wX3_placeFor_73 post mw ml J40 fu x2 x3 x4 mkind msort mfirst mblk mfree → W p l e rmX3_placeFor s m args below meth c H locs 0 0 Q (F0 m 73 ls []) := by
    intro J40 hJ40 fu
    induction fu with
    | zero =>
      intro x2 x3 x4 mkind msort mfirst mblk mfree H locs hP hD hS ls hl hw
      exact absurd hw (by unfold wX3_placeFor_73; exact fun q => q)
    | succ n ih =>
      intro x2 x3 x4 mkind msort mfirst mblk mfree H locs hP hD hS ls hl hw
      unfold wX3_placeFor_73 at hw
      refine lv_iload hx hb dX3_placeFor_73 (lv_at hl 3 rfl) ?_
      refine lv_aload_n hx hb dX3_placeFor_75 rfl (lv_at hl 0 rfl) ?_
      refine lv_iload_n hx hb dX3_placeFor_76 rfl (lv_at hl 2 rfl) ?_
      refine pcall (va_runV (As := [.int x3]) (rest := [.int x4]) hC (c_X3_slots l D g k mw mk ml mq mwt mn mt mcl mcr mth mkind msort mfirst mblk mfree mfnd mfm msn x3 _ hw H) (cwV 1 hts gX3_placeFor_X3_slots rfl rfl rfl (by decide +kernel) ⟨Nat.le_of_ble_eq_true rfl, Nat.le_of_ble_eq_true rfl⟩) (preV_p (va_recv hK hP (ci := 3) (q0 := 0) rfl rfl) hP hK hZ hS) rfl rfl hl.1 rfl (lv_room (Nat.le_of_ble_eq_true rfl)) dX3_placeFor_77 ⟨Nat.le_of_ble_eq_true rfl, Nat.le_of_ble_eq_true rfl⟩) (fun r_16 hw => ?_)
      refine lv_icmp_ge (tgt := 116) hx hb dX3_placeFor_80 (by decide) (fun c_17 => ?_) (fun c_17 => ?_)
      · have hw := hw.1 c_17
        obtain ⟨x3_18, ex3_18⟩ : ∃ y : Int32, y = x3 + 1 := ⟨_, rfl⟩
        have hw := hw x3_18 ex3_18
        refine lv_iinc (v := x3_18) (lv' := [(3, .int x3_18), (0, .ref (g 0)), (2, .int x2), (4, .int x4)]) hx hb dX3_placeFor_116 hl (k := 2) rfl (by rw [ex3_18]; rfl) (by decide) rfl (fun ls hl => ?_)
        refine lv_goto (tgt := 40) hx hb dX3_placeFor_119 (by decide) ?_
        exact hJ40 x2 x3_18 mkind msort mfirst mblk mfree H locs hP hD hS ls (lv_sub hl [1, 2, 0] rfl) hw
      · have hw := hw.2 c_17
        refine lv_aload_n hx hb dX3_placeFor_83 rfl (lv_at hl 0 rfl) ?_
        refine va_get (D := D) (ci := 3) (v := .ref (g 3)) (C := RX3) (T := TX3) (N := 18) hx hb hts hinX3 hown hK hP 0 rfl rfl 2 (by decide) (hts (.fieldLink RX3 16 "SlabHeapModel" "isLive" "[Z") (by decide +kernel)) (fun _ h9 => h9) rfl dX3_placeFor_84 ?_
        refine lv_bipush (v := 16) hx hb dX3_placeFor_87 (by decide) ?_
        refine lv_iload_n hx hb dX3_placeFor_89 rfl (lv_at hl 2 rfl) ?_
        refine lv_imul hx hb dX3_placeFor_90 ?_
        refine lv_iload_n hx hb dX3_placeFor_91 rfl (lv_at hl 1 rfl) ?_
        refine lv_iload hx hb dX3_placeFor_92 (lv_at hl 3 rfl) ?_
        refine lv_imul hx hb dX3_placeFor_94 ?_
        refine lv_iadd hx hb dX3_placeFor_95 ?_
        obtain ⟨h_19, hw⟩ := hw
        refine va_zald hx hb hK hP 3 1 rfl rfl h_19 dX3_placeFor_96 ?_
        refine lv_if_ne (tgt := 110) hx hb dX3_placeFor_97 (by decide) (fun c_20 => ?_) (fun c_20 => ?_)
        · have hw := hw.1 c_20
          obtain ⟨x4_21, ex4_21⟩ : ∃ y : Int32, y = x4 + 1 := ⟨_, rfl⟩
          have hw := hw x4_21 ex4_21
          refine lv_iinc (v := x4_21) (lv' := [(4, .int x4_21), (0, .ref (g 0)), (2, .int x2), (3, .int x3)]) hx hb dX3_placeFor_110 hl (k := 3) rfl (by rw [ex4_21]; rfl) (by decide) rfl (fun ls hl => ?_)
          refine lv_goto (tgt := 73) hx hb dX3_placeFor_113 (by decide) ?_
          exact ih x2 x3 x4_21 mkind msort mfirst mblk mfree H locs hP hD hS ls (lv_sub hl [1, 2, 3, 0] rfl) hw
        · have hw := hw.2 c_20
          refine lv_bipush (v := 16) hx hb dX3_placeFor_100 (by decide) ?_
          refine lv_iload_n hx hb dX3_placeFor_102 rfl (lv_at hl 2 rfl) ?_
          refine lv_imul hx hb dX3_placeFor_103 ?_
          refine lv_iload_n hx hb dX3_placeFor_104 rfl (lv_at hl 1 rfl) ?_
          refine lv_iload hx hb dX3_placeFor_105 (lv_at hl 3 rfl) ?_
          refine lv_imul hx hb dX3_placeFor_107 ?_
          refine lv_iadd hx hb dX3_placeFor_108 ?_
          exact hret _ _ _ (mkind, msort, mfirst, mblk, mfree) _ _ hP hD hS dX3_placeFor_109 hw
  have B40 : ∀ (fu : Nat), ∀ (x2 : Int32), ∀ (x3 : Int32), ∀ (mkind : Nat → Int32), ∀ (msort : Nat → Int32), ∀ (mfirst : Nat → Int32), ∀ (mblk : Nat → Int32), ∀ (mfree : Nat → Int32), ∀ (H : Heap) (locs : List Loc), va_P D vwCl (xM g k mw mk ml mq mwt mn mt mcl mcr mth mkind msort mfirst mblk mfree mfnd mfm msn) H → va_D A (xM g k mw mk ml mq mwt mn mt mcl mcr mth mkind msort mfirst mblk mfree mfnd mfm msn) → va_S A s.heap H locs → ∀ (ls : Array Slot), lv_has ls 5 [(0, .ref (g 0)), (2, .int x2), (3, .int x3)] → wX3_placeFor_40 post mw ml fu x2 x3 mkind msort mfirst mblk mfree → W p l e rmX3_placeFor s m args below meth c H locs 0 0 Q (F0 m 40 ls []) := by
    intro  fu
    induction fu with
    | zero =>
      intro x2 x3 mkind msort mfirst mblk mfree H locs hP hD hS ls hl hw
      exact absurd hw (by unfold wX3_placeFor_40; exact fun q => q)
    | succ n ih =>
      intro x2 x3 mkind msort mfirst mblk mfree H locs hP hD hS ls hl hw
      unfold wX3_placeFor_40 at hw
      refine lv_iload_n hx hb dX3_placeFor_40 rfl (lv_at hl 2 rfl) ?_
      refine lv_sipush (v := 256) hx hb dX3_placeFor_41 (by decide) ?_
      refine lv_icmp_ge (tgt := 122) hx hb dX3_placeFor_44 (by decide) (fun c_8 => ?_) (fun c_8 => ?_)
      · have hw := hw.1 c_8
        refine lv_aload_n hx hb dX3_placeFor_122 rfl (lv_at hl 0 rfl) ?_
        refine lv_iconst (v := 0) hx hb dX3_placeFor_123 (by decide) ?_
        refine pcall (va_runV (As := [.int 0]) (rest := []) hC (c_X3_taken l D g k mw mk ml mq mwt mn mt mcl mcr mth mkind msort mfirst mblk mfree mfnd mfm msn 0 _ hw H) (cwV 1 hts gX3_placeFor_X3_taken rfl rfl rfl (by decide +kernel) ⟨Nat.le_of_ble_eq_true rfl, Nat.le_of_ble_eq_true rfl⟩) (preV_p (va_recv hK hP (ci := 3) (q0 := 0) rfl rfl) hP hK hZ hS) rfl rfl hl.1 rfl (lv_room (Nat.le_of_ble_eq_true rfl)) dX3_placeFor_124 ⟨Nat.le_of_ble_eq_true rfl, Nat.le_of_ble_eq_true rfl⟩) (fun r_9 hw => ?_)
        refine lv_istore_n (lv' := [(3, .int r_9), (0, .ref (g 0)), (2, .int x2)]) hx hb dX3_placeFor_127 rfl hl (by decide) rfl (fun ls hl => ?_)
        refine lv_iload_n hx hb dX3_placeFor_128 rfl (lv_at hl 0 rfl) ?_
        refine lv_iconst (v := (-1)) hx hb dX3_placeFor_129 (by decide) ?_
        refine lv_icmp_ne (tgt := 137) hx hb dX3_placeFor_130 (by decide) (fun c_10 => ?_) (fun c_10 => ?_)
        · have hw := hw.1 c_10
          refine lv_bipush (v := 16) hx hb dX3_placeFor_137 (by decide) ?_
          refine lv_iload_n hx hb dX3_placeFor_139 rfl (lv_at hl 0 rfl) ?_
          refine lv_imul hx hb dX3_placeFor_140 ?_
          exact hret _ _ _ (mkind, msort, mfirst, mblk, mfree) _ _ hP hD hS dX3_placeFor_141 hw
        · have hw := hw.2 c_10
          refine lv_iconst (v := (-1)) hx hb dX3_placeFor_133 (by decide) ?_
          refine lv_goto (tgt := 141) hx hb dX3_placeFor_134 (by decide) ?_
          exact hret _ _ _ (mkind, msort, mfirst, mblk, mfree) _ _ hP hD hS dX3_placeFor_141 hw
      · have hw := hw.2 c_8
        refine lv_aload_n hx hb dX3_placeFor_47 rfl (lv_at hl 0 rfl) ?_
        refine va_get (D := D) (ci := 3) (v := .ref (g 6)) (C := RX3) (T := TX3) (N := 18) hx hb hts hinX3 hown hK hP 0 rfl rfl 10 (by decide) (hts (.fieldLink RX3 26 "SlabHeapModel" "kind" "[I") (by decide +kernel)) (fun _ h9 => h9) rfl dX3_placeFor_48 ?_
        refine lv_iload_n hx hb dX3_placeFor_51 rfl (lv_at hl 2 rfl) ?_
        obtain ⟨h_11, hw⟩ := hw
        refine va_iald hx hb hK hP 6 0 rfl rfl h_11 dX3_placeFor_52 ?_
        refine lv_iconst (v := 1) hx hb dX3_placeFor_53 (by decide) ?_
        refine lv_icmp_ne (tgt := 116) hx hb dX3_placeFor_54 (by decide) (fun c_12 => ?_) (fun c_12 => ?_)
        · have hw := hw.1 c_12
          obtain ⟨x3_13, ex3_13⟩ : ∃ y : Int32, y = x3 + 1 := ⟨_, rfl⟩
          have hw := hw x3_13 ex3_13
          refine lv_iinc (v := x3_13) (lv' := [(3, .int x3_13), (0, .ref (g 0)), (2, .int x2)]) hx hb dX3_placeFor_116 hl (k := 2) rfl (by rw [ex3_13]; rfl) (by decide) rfl (fun ls hl => ?_)
          refine lv_goto (tgt := 40) hx hb dX3_placeFor_119 (by decide) ?_
          exact ih x2 x3_13 mkind msort mfirst mblk mfree H locs hP hD hS ls (lv_sub hl [1, 2, 0] rfl) hw
        · have hw := hw.2 c_12
          refine lv_aload_n hx hb dX3_placeFor_57 rfl (lv_at hl 0 rfl) ?_
          refine va_get (D := D) (ci := 3) (v := .ref (g 7)) (C := RX3) (T := TX3) (N := 18) hx hb hts hinX3 hown hK hP 0 rfl rfl 11 (by decide) (hts (.fieldLink RX3 29 "SlabHeapModel" "sort" "[I") (by decide +kernel)) (fun _ h9 => h9) rfl dX3_placeFor_58 ?_
          refine lv_iload_n hx hb dX3_placeFor_61 rfl (lv_at hl 2 rfl) ?_
          obtain ⟨h_14, hw⟩ := hw
          refine va_iald hx hb hK hP 7 0 rfl rfl h_14 dX3_placeFor_62 ?_
          refine lv_iload_n hx hb dX3_placeFor_63 rfl (lv_at hl 1 rfl) ?_
          refine lv_icmp_eq (tgt := 70) hx hb dX3_placeFor_64 (by decide) (fun c_15 => ?_) (fun c_15 => ?_)
          · have hw := hw.1 c_15
            refine lv_iconst (v := 0) hx hb dX3_placeFor_70 (by decide) ?_
            refine lv_istore (lv' := [(4, .int 0), (0, .ref (g 0)), (2, .int x2), (3, .int x3)]) hx hb dX3_placeFor_71 hl (by decide) rfl (fun ls hl => ?_)
            obtain ⟨fu_22, hw⟩ := hw
            exact B73 (wX3_placeFor_40 post mw ml n) ih fu_22 x2 x3 0 mkind msort mfirst mblk mfree H locs hP hD hS ls (lv_sub hl [1, 2, 3, 0] rfl) hw
          · have hw := hw.2 c_15
            refine lv_goto (tgt := 116) hx hb dX3_placeFor_67 (by decide) ?_
            obtain ⟨x3_23, ex3_23⟩ : ∃ y : Int32, y = x3 + 1 := ⟨_, rfl⟩
            have hw := hw x3_23 ex3_23
            refine lv_iinc (v := x3_23) (lv' := [(3, .int x3_23), (0, .ref (g 0)), (2, .int x2)]) hx hb dX3_placeFor_116 hl (k := 2) rfl (by rw [ex3_23]; rfl) (by decide) rfl (fun ls hl => ?_)
            refine lv_goto (tgt := 40) hx hb dX3_placeFor_119 (by decide) ?_
            exact ih x2 x3_23 mkind msort mfirst mblk mfree H locs hP hD hS ls (lv_sub hl [1, 2, 0] rfl) hw
  unfold wX3_placeFor at hw
  suffices main : ∀ (H : Heap) (locs : List Loc), va_P D vwCl (xM g k mw mk ml mq mwt mn mt mcl mcr mth mkind msort mfirst mblk mfree mfnd mfm msn) H → va_D A (xM g k mw mk ml mq mwt mn mt mcl mcr mth mkind msort mfirst mblk mfree mfnd mfm msn) → va_S A s.heap H locs → W p l e rmX3_placeFor s m args below meth c H locs 0 0 Q (F0 m 0 ls []) from main _ _ hP hD hS
  intro H locs hP hD hS
  refine lv_aload_n hx hb dX3_placeFor_0 rfl (lv_at hl 0 rfl) ?_
  refine vcall (wr := []) (va_runV (As := []) (rest := []) hC (c_X3_map l D g k mw mk ml mq mwt mn mt mcl mcr mth mkind msort mfirst mblk mfree mfnd mfm msn _ hw H.size) (cwV 0 hts gX3_placeFor_X3_map rfl rfl rfl (by decide +kernel) ⟨Nat.le_of_ble_eq_true rfl, Nat.le_of_ble_eq_true rfl⟩) (preV_m (va_recv hK hP (ci := 3) (q0 := 0) rfl rfl) hP hD hA hK hZ hS [0, 1, 2, 3, 4, 5, 6, 7, 8, 9, 10, 11, 12] rfl rfl (by decide)) rfl rfl hl.1 rfl (lv_room (Nat.le_of_ble_eq_true rfl)) dX3_placeFor_1 ⟨Nat.le_of_ble_eq_true rfl, Nat.le_of_ble_eq_true rfl⟩) hP hD hA hS [0, 1, 2, 3, 4, 5, 6, 7, 8, 9, 10, 11, 12] [] rfl rfl (by decide) (by decide) (fun u' H locs hw hP hD hS => ?_)
  obtain ⟨mkind_1, msort_2, mfirst_3, mblk_4, mfree_5⟩ := u'
  try dsimp only at hw
  have hP : va_P D vwCl (xM g k mw mk ml mq mwt mn mt mcl mcr mth mkind_1 msort_2 mfirst_3 mblk_4 mfree_5 mfnd mfm msn) H := hP
  have hD : va_D A (xM g k mw mk ml mq mwt mn mt mcl mcr mth mkind_1 msort_2 mfirst_3 mblk_4 mfree_5 mfnd mfm msn) := hD
  refine lv_aload_n hx hb dX3_placeFor_4 rfl (lv_at hl 0 rfl) ?_
  refine lv_iload_n hx hb dX3_placeFor_5 rfl (lv_at hl 1 rfl) ?_
  refine pcall (va_runV (As := [.int x1]) (rest := []) hC (c_X3_classOf l D g k mw mk ml mq mwt mn mt mcl mcr mth mkind_1 msort_2 mfirst_3 mblk_4 mfree_5 mfnd mfm msn x1 _ hw H) (cwV 1 hts gX3_placeFor_X3_classOf rfl rfl rfl (by decide +kernel) ⟨Nat.le_of_ble_eq_true rfl, Nat.le_of_ble_eq_true rfl⟩) (preV_p (va_recv hK hP (ci := 3) (q0 := 0) rfl rfl) hP hK hZ hS) rfl rfl hl.1 rfl (lv_room (Nat.le_of_ble_eq_true rfl)) dX3_placeFor_6 ⟨Nat.le_of_ble_eq_true rfl, Nat.le_of_ble_eq_true rfl⟩) (fun r_6 hw => ?_)
  refine lv_istore_n (lv' := [(2, .int r_6), (0, .ref (g 0)), (1, .int x1)]) hx hb dX3_placeFor_9 rfl hl (by decide) rfl (fun ls hl => ?_)
  refine lv_iload_n hx hb dX3_placeFor_10 rfl (lv_at hl 0 rfl) ?_
  refine lv_if_ne (tgt := 38) hx hb dX3_placeFor_11 (by decide) (fun c_7 => ?_) (fun c_7 => ?_)
  · have hw := hw.1 c_7
    refine lv_iconst (v := 1) hx hb dX3_placeFor_38 (by decide) ?_
    refine lv_istore_n (lv' := [(3, .int 1), (2, .int r_6), (0, .ref (g 0)), (1, .int x1)]) hx hb dX3_placeFor_39 rfl hl (by decide) rfl (fun ls hl => ?_)
    obtain ⟨fu_24, hw⟩ := hw
    exact B40  fu_24 r_6 1 mkind_1 msort_2 mfirst_3 mblk_4 mfree_5 H locs hP hD hS ls (lv_sub hl [2, 1, 0] rfl) hw
  · have hw := hw.2 c_7
    refine lv_aload_n hx hb dX3_placeFor_14 rfl (lv_at hl 1 rfl) ?_
    refine lv_aload_n hx hb dX3_placeFor_15 rfl (lv_at hl 1 rfl) ?_
    refine lv_iload_n hx hb dX3_placeFor_16 rfl (lv_at hl 2 rfl) ?_
    refine pcall (va_runV (As := [.int x1]) (rest := [.ref (g 0)]) hC (c_X3_orderOf l D g k mw mk ml mq mwt mn mt mcl mcr mth mkind_1 msort_2 mfirst_3 mblk_4 mfree_5 mfnd mfm msn x1 _ hw H) (cwV 1 hts gX3_placeFor_X3_orderOf rfl rfl rfl (by decide +kernel) ⟨Nat.le_of_ble_eq_true rfl, Nat.le_of_ble_eq_true rfl⟩) (preV_p (va_recv hK hP (ci := 3) (q0 := 0) rfl rfl) hP hK hZ hS) rfl rfl hl.1 rfl (lv_room (Nat.le_of_ble_eq_true rfl)) dX3_placeFor_17 ⟨Nat.le_of_ble_eq_true rfl, Nat.le_of_ble_eq_true rfl⟩) (fun r_25 hw => ?_)
    refine pcall (va_runV (As := [.int r_25]) (rest := []) hC (c_X3_taken l D g k mw mk ml mq mwt mn mt mcl mcr mth mkind_1 msort_2 mfirst_3 mblk_4 mfree_5 mfnd mfm msn r_25 _ hw H) (cwV 1 hts gX3_placeFor_X3_taken rfl rfl rfl (by decide +kernel) ⟨Nat.le_of_ble_eq_true rfl, Nat.le_of_ble_eq_true rfl⟩) (preV_p (va_recv hK hP (ci := 3) (q0 := 0) rfl rfl) hP hK hZ hS) rfl rfl hl.1 rfl (lv_room (Nat.le_of_ble_eq_true rfl)) dX3_placeFor_20 ⟨Nat.le_of_ble_eq_true rfl, Nat.le_of_ble_eq_true rfl⟩) (fun r_26 hw => ?_)
    refine lv_istore_n (lv' := [(3, .int r_26), (2, .int r_6), (0, .ref (g 0)), (1, .int x1)]) hx hb dX3_placeFor_23 rfl hl (by decide) rfl (fun ls hl => ?_)
    refine lv_iload_n hx hb dX3_placeFor_24 rfl (lv_at hl 0 rfl) ?_
    refine lv_iconst (v := (-1)) hx hb dX3_placeFor_25 (by decide) ?_
    refine lv_icmp_ne (tgt := 33) hx hb dX3_placeFor_26 (by decide) (fun c_27 => ?_) (fun c_27 => ?_)
    · have hw := hw.1 c_27
      refine lv_bipush (v := 16) hx hb dX3_placeFor_33 (by decide) ?_
      refine lv_iload_n hx hb dX3_placeFor_35 rfl (lv_at hl 0 rfl) ?_
      refine lv_imul hx hb dX3_placeFor_36 ?_
      exact hret _ _ _ (mkind_1, msort_2, mfirst_3, mblk_4, mfree_5) _ _ hP hD hS dX3_placeFor_37 hw
    · have hw := hw.2 c_27
      refine lv_iconst (v := (-1)) hx hb dX3_placeFor_29 (by decide) ?_
      refine lv_goto (tgt := 37) hx hb dX3_placeFor_30 (by decide) ?_
      exact hret _ _ _ (mkind_1, msort_2, mfirst_3, mblk_4, mfree_5) _ _ hP hD hS dX3_placeFor_37 hw
-- X3_alloc
abbrev rmX3_alloc : Room := { frames := 3, cells := 0, slots := 0, locals := 72 }
set_option maxHeartbeats 4000000 in
set_option maxRecDepth 100000 in
theorem c_X3_alloc (l : Launch) (D : va_G) (g : Nat → Nat) (k : xC) (mw : Nat → Int32) (mk : Nat → Int32) (ml : Nat → Int32) (mq : Nat → Int32) (mwt : Nat → Int32) (mn : Int32) (mt : Int32) (mcl : Int32) (mcr : Int32) (mth : Int32) (mkind : Nat → Int32) (msort : Nat → Int32) (mfirst : Nat → Int32) (mblk : Nat → Int32) (mfree : Nat → Int32) (mfnd : Nat → Int32) (mfm : Int32) (msn : Nat → Int32) (x1 : Int32) (x2 : Int32) (post : Int32 → (Nat → Int32) → (Nat → Int32) → (Nat → Int32) → (Nat → Int32) → Int32 → Int32 → Int32 → (Nat → Int32) → (Nat → Int32) → (Nat → Int32) → (Nat → Int32) → (Nat → Int32) → Prop) (hw : wX3_alloc post mw ml mq mwt mn mt mth mkind msort mfirst mblk mfree x1 x2) : CMi l yX3_alloc wsX3_alloc rmX3_alloc D k [.ref (g 0), .int x1, .int x2] (fun v : (Nat → Int32) × (Nat → Int32) × (Nat → Int32) × (Nat → Int32) × Int32 × Int32 × Int32 × (Nat → Int32) × (Nat → Int32) × (Nat → Int32) × (Nat → Int32) × (Nat → Int32) => (xM g k (v.1) mk (v.2.1) (v.2.2.1) (v.2.2.2.1) (v.2.2.2.2.1) (v.2.2.2.2.2.1) mcl mcr (v.2.2.2.2.2.2.1) (v.2.2.2.2.2.2.2.1) (v.2.2.2.2.2.2.2.2.1) (v.2.2.2.2.2.2.2.2.2.1) (v.2.2.2.2.2.2.2.2.2.2.1) (v.2.2.2.2.2.2.2.2.2.2.2) mfnd mfm msn)) (mw, ml, mq, mwt, mn, mt, mth, mkind, msort, mfirst, mblk, mfree) (fun r v => post r (v.1) (v.2.1) (v.2.2.1) (v.2.2.2.1) (v.2.2.2.2.1) (v.2.2.2.2.2.1) (v.2.2.2.2.2.2.1) (v.2.2.2.2.2.2.2.1) (v.2.2.2.2.2.2.2.2.1) (v.2.2.2.2.2.2.2.2.2.1) (v.2.2.2.2.2.2.2.2.2.2.1) (v.2.2.2.2.2.2.2.2.2.2.2)) := by
  refine met_mi (cc := cX3_alloc) (nL := 5) (by decide) rfl (Nat.le_of_ble_eq_true rfl) ?_
  intro p e s m args below meth c Q A ls hC hP hD hA hK hZ hS hl hret
  obtain ⟨hx, hb, hml, hown, hts⟩ := id hC
  have hC : CallFix p m c cX3_alloc 5 s args wsX3_alloc RX3 := hC
  have hown : s.vm.findClass RX3 = some m.cls := hown
  have hl : lv_has ls 5 [(0, .ref (g 0)), (1, .int x1), (2, .int x2)] := hl
  have hP : va_P D vwCl (xM g k mw mk ml mq mwt mn mt mcl mcr mth mkind msort mfirst mblk mfree mfnd mfm msn) s.heap := hP
  have hD : va_D A (xM g k mw mk ml mq mwt mn mt mcl mcr mth mkind msort mfirst mblk mfree mfnd mfm msn) := hD
  have hinX3 : ∀ w ∈ wsX30, w ∈ wsX3_alloc := fun _ h => List.mem_cons_of_mem _ (List.mem_append_right _ h)
  have B27 : ∀ (mw : Nat → Int32), ∀ (ml : Nat → Int32), ∀ (mq : Nat → Int32), ∀ (mwt : Nat → Int32), ∀ (mn : Int32), ∀ (mt : Int32), ∀ (mth : Int32), ∀ (mkind : Nat → Int32), ∀ (msort : Nat → Int32), ∀ (mfirst : Nat → Int32), ∀ (mblk : Nat → Int32), ∀ (mfree : Nat → Int32), ∀ (H : Heap) (locs : List Loc), va_P D vwCl (xM g k mw mk ml mq mwt mn mt mcl mcr mth mkind msort mfirst mblk mfree mfnd mfm msn) H → va_D A (xM g k mw mk ml mq mwt mn mt mcl mcr mth mkind msort mfirst mblk mfree mfnd mfm msn) → va_S A s.heap H locs → ∀ (ls : Array Slot), lv_has ls 5 [(0, .ref (g 0))] → wX3_alloc_27 post mw ml mq mwt mn mt mth mkind msort mfirst mblk mfree → W p l e rmX3_alloc s m args below meth c H locs 0 0 Q (F0 m 27 ls []) := by
    intro  mw ml mq mwt mn mt mth mkind msort mfirst mblk mfree H locs hP hD hS ls hl hw
    unfold wX3_alloc_27 at hw
    refine lv_aload_n hx hb dX3_alloc_27 rfl (lv_at hl 0 rfl) ?_
    refine lv_iconst (v := 3) hx hb dX3_alloc_28 (by decide) ?_
    refine icall (wr := []) (va_runV (As := [.int 3]) (rest := []) hC (c_X3_no l D g k mw mk ml mq mwt mn mt mcl mcr mth mkind msort mfirst mblk mfree mfnd mfm msn 3 _ hw H.size) (cwV 1 hts gX3_alloc_X3_no rfl rfl rfl (by decide +kernel) ⟨Nat.le_of_ble_eq_true rfl, Nat.le_of_ble_eq_true rfl⟩) (preV_m (va_recv hK hP (ci := 3) (q0 := 0) rfl rfl) hP hD hA hK hZ hS [0, 1, 2, 3, 4, 5, 6, 7, 8, 9, 10, 11, 12] rfl rfl (by decide)) rfl rfl hl.1 rfl (lv_room (Nat.le_of_ble_eq_true rfl)) dX3_alloc_29 ⟨Nat.le_of_ble_eq_true rfl, Nat.le_of_ble_eq_true rfl⟩) hP hD hA hS [0, 1, 2, 3, 4, 5, 6, 7, 8, 9, 10, 11, 12] [] rfl rfl (by decide) (by decide) (fun r_4 u' H locs hw hP hD hS => ?_)
    obtain ⟨mt_3, rfl⟩ : ∃ z, z = u' := ⟨_, rfl⟩
    try dsimp only at hw
    have hP : va_P D vwCl (xM g k mw mk ml mq mwt mn mt_3 mcl mcr mth mkind msort mfirst mblk mfree mfnd mfm msn) H := hP
    have hD : va_D A (xM g k mw mk ml mq mwt mn mt_3 mcl mcr mth mkind msort mfirst mblk mfree mfnd mfm msn) := hD
    exact hret _ _ _ (mw, ml, mq, mwt, mn, mt_3, mth, mkind, msort, mfirst, mblk, mfree) _ _ hP hD hS dX3_alloc_32 hw
  have B74 : ∀ (fu : Nat), ∀ (x1 : Int32), ∀ (x3 : Int32), ∀ (x4 : Int32), ∀ (mw : Nat → Int32), ∀ (ml : Nat → Int32), ∀ (mq : Nat → Int32), ∀ (mwt : Nat → Int32), ∀ (mn : Int32), ∀ (mt : Int32), ∀ (mth : Int32), ∀ (mkind : Nat → Int32), ∀ (msort : Nat → Int32), ∀ (mfirst : Nat → Int32), ∀ (mblk : Nat → Int32), ∀ (mfree : Nat → Int32), ∀ (H : Heap) (locs : List Loc), va_P D vwCl (xM g k mw mk ml mq mwt mn mt mcl mcr mth mkind msort mfirst mblk mfree mfnd mfm msn) H → va_D A (xM g k mw mk ml mq mwt mn mt mcl mcr mth mkind msort mfirst mblk mfree mfnd mfm msn) → va_S A s.heap H locs → ∀ (ls : Array Slot), lv_has ls 5 [(0, .ref (g 0)), (1, .int x1), (3, .int x3), (4, .int x4)] → wX3_alloc_74 post fu x1 x3 x4 mw ml mq mwt mn mt mth mkind msort mfirst mblk mfree → W p l e rmX3_alloc s m args below meth c H locs 0 0 Q (F0 m 74 ls []) := by
    intro  fu
    induction fu with
    | zero =>
      intro x1 x3 x4 mw ml mq mwt mn mt mth mkind msort mfirst mblk mfree H locs hP hD hS ls hl hw
      exact absurd hw (by unfold wX3_alloc_74; exact fun q => q)
    | succ n ih =>
      intro x1 x3 x4 mw ml mq mwt mn mt mth mkind msort mfirst mblk mfree H locs hP hD hS ls hl hw
      unfold wX3_alloc_74 at hw
      refine lv_iload hx hb dX3_alloc_74 (lv_at hl 3 rfl) ?_
      refine lv_iload_n hx hb dX3_alloc_76 rfl (lv_at hl 1 rfl) ?_
      refine lv_icmp_ge (tgt := 97) hx hb dX3_alloc_77 (by decide) (fun c_20 => ?_) (fun c_20 => ?_)
      · have hw := hw.1 c_20
        refine lv_aload_n hx hb dX3_alloc_97 rfl (lv_at hl 0 rfl) ?_
        refine lv_iconst (v := 0) hx hb dX3_alloc_98 (by decide) ?_
        refine va_put (D := D) (ci := 3) (v := .int 0) (ty := .int) (C := RX3) (T := TX3) (N := 18) hx hb hts hinX3 tyX3 tyX3_ok nmX3 hown hK hP hD hS 0 rfl rfl 6 (by decide) (hts (.fieldLink RX3 51 "SlabHeapModel" "trouble" "I") (by decide +kernel)) (fun _ h9 => h9) rfl (by decide +kernel) rfl rfl (Nat.le_of_ble_eq_true rfl) dX3_alloc_99 (fun H locs hP hD hS => ?_)
        have hP : va_P D vwCl (xM g k mw mk ml mq mwt mn 0 mcl mcr mth mkind msort mfirst mblk mfree mfnd mfm msn) H := hP
        have hD : va_D A (xM g k mw mk ml mq mwt mn 0 mcl mcr mth mkind msort mfirst mblk mfree mfnd mfm msn) := hD
        refine lv_iload_n hx hb dX3_alloc_102 rfl (lv_at hl 2 rfl) ?_
        exact hret _ _ _ (mw, ml, mq, mwt, mn, 0, mth, mkind, msort, mfirst, mblk, mfree) _ _ hP hD hS dX3_alloc_103 hw
      · have hw := hw.2 c_20
        refine lv_aload_n hx hb dX3_alloc_80 rfl (lv_at hl 0 rfl) ?_
        refine lv_iload_n hx hb dX3_alloc_81 rfl (lv_at hl 2 rfl) ?_
        refine lv_iconst (v := 1) hx hb dX3_alloc_82 (by decide) ?_
        refine lv_iadd hx hb dX3_alloc_83 ?_
        refine lv_iload hx hb dX3_alloc_84 (lv_at hl 3 rfl) ?_
        refine lv_iadd hx hb dX3_alloc_86 ?_
        refine lv_iconst (v := 0) hx hb dX3_alloc_87 (by decide) ?_
        refine vcall (wr := []) (va_runV (As := [.int ((x3 + 1) + x4), .int 0]) (rest := []) hC (c_X3_write l D g k mw mk ml mq mwt mn mt mcl mcr mth mkind msort mfirst mblk mfree mfnd mfm msn ((x3 + 1) + x4) 0 _ hw H.size) (cwV 2 hts gX3_alloc_X3_write rfl rfl rfl (by decide +kernel) ⟨Nat.le_of_ble_eq_true rfl, Nat.le_of_ble_eq_true rfl⟩) (preV_m (va_recv hK hP (ci := 3) (q0 := 0) rfl rfl) hP hD hA hK hZ hS [0, 1, 2, 3, 4, 5, 6, 7, 8, 9, 10, 11, 12] rfl rfl (by decide)) rfl rfl hl.1 rfl (lv_room (Nat.le_of_ble_eq_true rfl)) dX3_alloc_88 ⟨Nat.le_of_ble_eq_true rfl, Nat.le_of_ble_eq_true rfl⟩) hP hD hA hS [0, 1, 2, 3, 4, 5, 6, 7, 8, 9, 10, 11, 12] [] rfl rfl (by decide) (by decide) (fun u' H locs hw hP hD hS => ?_)
        obtain ⟨mw_21, mq_22, mwt_23, mn_24⟩ := u'
        try dsimp only at hw
        have hP : va_P D vwCl (xM g k mw_21 mk ml mq_22 mwt_23 mn_24 mt mcl mcr mth mkind msort mfirst mblk mfree mfnd mfm msn) H := hP
        have hD : va_D A (xM g k mw_21 mk ml mq_22 mwt_23 mn_24 mt mcl mcr mth mkind msort mfirst mblk mfree mfnd mfm msn) := hD
        obtain ⟨x4_25, ex4_25⟩ : ∃ y : Int32, y = x4 + 1 := ⟨_, rfl⟩
        have hw := hw x4_25 ex4_25
        refine lv_iinc (v := x4_25) (lv' := [(4, .int x4_25), (0, .ref (g 0)), (1, .int x1), (3, .int x3)]) hx hb dX3_alloc_91 hl (k := 3) rfl (by rw [ex4_25]; rfl) (by decide) rfl (fun ls hl => ?_)
        refine lv_goto (tgt := 74) hx hb dX3_alloc_94 (by decide) ?_
        exact ih x1 x3 x4_25 mw_21 ml mq_22 mwt_23 mn_24 mt mth mkind msort mfirst mblk mfree H locs hP hD hS ls (lv_sub hl [1, 2, 3, 0] rfl) hw
  unfold wX3_alloc at hw
  suffices main : ∀ (H : Heap) (locs : List Loc), va_P D vwCl (xM g k mw mk ml mq mwt mn mt mcl mcr mth mkind msort mfirst mblk mfree mfnd mfm msn) H → va_D A (xM g k mw mk ml mq mwt mn mt mcl mcr mth mkind msort mfirst mblk mfree mfnd mfm msn) → va_S A s.heap H locs → W p l e rmX3_alloc s m args below meth c H locs 0 0 Q (F0 m 0 ls []) from main _ _ hP hD hS
  intro H locs hP hD hS
  refine lv_aload_n hx hb dX3_alloc_0 rfl (lv_at hl 0 rfl) ?_
  refine lv_iconst (v := 0) hx hb dX3_alloc_1 (by decide) ?_
  refine va_put (D := D) (ci := 3) (v := .int 0) (ty := .int) (C := RX3) (T := TX3) (N := 18) hx hb hts hinX3 tyX3 tyX3_ok nmX3 hown hK hP hD hS 0 rfl rfl 9 (by decide) (hts (.fieldLink RX3 47 "SlabHeapModel" "thrown" "I") (by decide +kernel)) (fun _ h9 => h9) rfl (by decide +kernel) rfl rfl (Nat.le_of_ble_eq_true rfl) dX3_alloc_2 (fun H locs hP hD hS => ?_)
  have hP : va_P D vwCl (xM g k mw mk ml mq mwt mn mt mcl mcr 0 mkind msort mfirst mblk mfree mfnd mfm msn) H := hP
  have hD : va_D A (xM g k mw mk ml mq mwt mn mt mcl mcr 0 mkind msort mfirst mblk mfree mfnd mfm msn) := hD
  refine lv_aload_n hx hb dX3_alloc_5 rfl (lv_at hl 0 rfl) ?_
  refine lv_iload_n hx hb dX3_alloc_6 rfl (lv_at hl 1 rfl) ?_
  refine lv_iconst (v := 1) hx hb dX3_alloc_7 (by decide) ?_
  refine lv_sipush (v := 2047) hx hb dX3_alloc_8 (by decide) ?_
  refine pcall (va_runV (As := [.int x1, .int 1, .int 2047]) (rest := []) hC (c_X3_is l D g k mw mk ml mq mwt mn mt mcl mcr 0 mkind msort mfirst mblk mfree mfnd mfm msn x1 1 2047 _ hw H) (cwV 3 hts gX3_alloc_X3_is rfl rfl rfl (by decide +kernel) ⟨Nat.le_of_ble_eq_true rfl, Nat.le_of_ble_eq_true rfl⟩) (preV_p (va_recv hK hP (ci := 3) (q0 := 0) rfl rfl) hP hK hZ hS) rfl rfl hl.1 rfl (lv_room (Nat.le_of_ble_eq_true rfl)) dX3_alloc_11 ⟨Nat.le_of_ble_eq_true rfl, Nat.le_of_ble_eq_true rfl⟩) (fun r_1 hw => ?_)
  refine lv_if_eq (tgt := 27) hx hb dX3_alloc_14 (by decide) (fun c_2 => ?_) (fun c_2 => ?_)
  · have hw := hw.1 c_2
    exact B27  mw ml mq mwt mn mt 0 mkind msort mfirst mblk mfree H locs hP hD hS ls (lv_sub hl [0] rfl) hw
  · have hw := hw.2 c_2
    refine lv_aload_n hx hb dX3_alloc_17 rfl (lv_at hl 0 rfl) ?_
    refine lv_iload_n hx hb dX3_alloc_18 rfl (lv_at hl 2 rfl) ?_
    refine lv_iconst (v := 0) hx hb dX3_alloc_19 (by decide) ?_
    refine lv_iload_n hx hb dX3_alloc_20 rfl (lv_at hl 1 rfl) ?_
    refine pcall (va_runV (As := [.int x2, .int 0, .int x1]) (rest := []) hC (c_X3_is l D g k mw mk ml mq mwt mn mt mcl mcr 0 mkind msort mfirst mblk mfree mfnd mfm msn x2 0 x1 _ hw H) (cwV 3 hts gX3_alloc_X3_is rfl rfl rfl (by decide +kernel) ⟨Nat.le_of_ble_eq_true rfl, Nat.le_of_ble_eq_true rfl⟩) (preV_p (va_recv hK hP (ci := 3) (q0 := 0) rfl rfl) hP hK hZ hS) rfl rfl hl.1 rfl (lv_room (Nat.le_of_ble_eq_true rfl)) dX3_alloc_21 ⟨Nat.le_of_ble_eq_true rfl, Nat.le_of_ble_eq_true rfl⟩) (fun r_5 hw => ?_)
    refine lv_if_ne (tgt := 33) hx hb dX3_alloc_24 (by decide) (fun c_6 => ?_) (fun c_6 => ?_)
    · have hw := hw.1 c_6
      refine lv_aload_n hx hb dX3_alloc_33 rfl (lv_at hl 0 rfl) ?_
      refine lv_iload_n hx hb dX3_alloc_34 rfl (lv_at hl 1 rfl) ?_
      refine lv_iconst (v := 1) hx hb dX3_alloc_35 (by decide) ?_
      refine lv_iadd hx hb dX3_alloc_36 ?_
      refine icall (wr := []) (va_runV (As := [.int (x1 + 1)]) (rest := []) hC (c_X3_placeFor l D g k mw mk ml mq mwt mn mt mcl mcr 0 mkind msort mfirst mblk mfree mfnd mfm msn (x1 + 1) _ hw H.size) (cwV 1 hts gX3_alloc_X3_placeFor rfl rfl rfl (by decide +kernel) ⟨Nat.le_of_ble_eq_true rfl, Nat.le_of_ble_eq_true rfl⟩) (preV_m (va_recv hK hP (ci := 3) (q0 := 0) rfl rfl) hP hD hA hK hZ hS [0, 1, 2, 3, 4, 5, 6, 7, 8, 9, 10, 11, 12] rfl rfl (by decide)) rfl rfl hl.1 rfl (lv_room (Nat.le_of_ble_eq_true rfl)) dX3_alloc_37 ⟨Nat.le_of_ble_eq_true rfl, Nat.le_of_ble_eq_true rfl⟩) hP hD hA hS [0, 1, 2, 3, 4, 5, 6, 7, 8, 9, 10, 11, 12] [] rfl rfl (by decide) (by decide) (fun r_12 u' H locs hw hP hD hS => ?_)
      obtain ⟨mkind_7, msort_8, mfirst_9, mblk_10, mfree_11⟩ := u'
      try dsimp only at hw
      have hP : va_P D vwCl (xM g k mw mk ml mq mwt mn mt mcl mcr 0 mkind_7 msort_8 mfirst_9 mblk_10 mfree_11 mfnd mfm msn) H := hP
      have hD : va_D A (xM g k mw mk ml mq mwt mn mt mcl mcr 0 mkind_7 msort_8 mfirst_9 mblk_10 mfree_11 mfnd mfm msn) := hD
      refine lv_istore_n (lv' := [(3, .int r_12), (0, .ref (g 0)), (1, .int x1), (2, .int x2)]) hx hb dX3_alloc_40 rfl hl (by decide) rfl (fun ls hl => ?_)
      refine lv_iload_n hx hb dX3_alloc_41 rfl (lv_at hl 0 rfl) ?_
      refine lv_iconst (v := (-1)) hx hb dX3_alloc_42 (by decide) ?_
      refine lv_icmp_ne (tgt := 52) hx hb dX3_alloc_43 (by decide) (fun c_13 => ?_) (fun c_13 => ?_)
      · have hw := hw.1 c_13
        refine lv_aload_n hx hb dX3_alloc_52 rfl (lv_at hl 1 rfl) ?_
        refine va_get (D := D) (ci := 3) (v := .ref (g 3)) (C := RX3) (T := TX3) (N := 18) hx hb hts hinX3 hown hK hP 0 rfl rfl 2 (by decide) (hts (.fieldLink RX3 16 "SlabHeapModel" "isLive" "[Z") (by decide +kernel)) (fun _ h9 => h9) rfl dX3_alloc_53 ?_
        refine lv_iload_n hx hb dX3_alloc_56 rfl (lv_at hl 0 rfl) ?_
        refine lv_iconst (v := 1) hx hb dX3_alloc_57 (by decide) ?_
        obtain ⟨h_14, hw⟩ := hw
        refine va_zast hx hb hK hP hD hS 3 1 rfl rfl h_14 dX3_alloc_58 (fun H locs hP hD hS => ?_)
        have hP : va_P D vwCl (xM g k mw mk (upd ml r_12.toNatClampNeg (vp_nar .boolean 1)) mq mwt mn mt mcl mcr 0 mkind_7 msort_8 mfirst_9 mblk_10 mfree_11 mfnd mfm msn) H := hP
        have hD : va_D A (xM g k mw mk (upd ml r_12.toNatClampNeg (vp_nar .boolean 1)) mq mwt mn mt mcl mcr 0 mkind_7 msort_8 mfirst_9 mblk_10 mfree_11 mfnd mfm msn) := hD
        refine lv_aload_n hx hb dX3_alloc_59 rfl (lv_at hl 1 rfl) ?_
        refine lv_iload_n hx hb dX3_alloc_60 rfl (lv_at hl 0 rfl) ?_
        refine lv_aload_n hx hb dX3_alloc_61 rfl (lv_at hl 1 rfl) ?_
        refine lv_iload_n hx hb dX3_alloc_62 rfl (lv_at hl 0 rfl) ?_
        refine lv_iload_n hx hb dX3_alloc_63 rfl (lv_at hl 2 rfl) ?_
        refine lv_iload_n hx hb dX3_alloc_64 rfl (lv_at hl 3 rfl) ?_
        refine pcall (va_runV (As := [.int r_12, .int x1, .int x2]) (rest := [.int r_12, .ref (g 0)]) hC (c_X3_headOf l D g k mw mk (upd ml r_12.toNatClampNeg (vp_nar .boolean 1)) mq mwt mn mt mcl mcr 0 mkind_7 msort_8 mfirst_9 mblk_10 mfree_11 mfnd mfm msn r_12 x1 x2 _ hw H) (cwV 3 hts gX3_alloc_X3_headOf rfl rfl rfl (by decide +kernel) ⟨Nat.le_of_ble_eq_true rfl, Nat.le_of_ble_eq_true rfl⟩) (preV_p (va_recv hK hP (ci := 3) (q0 := 0) rfl rfl) hP hK hZ hS) rfl rfl hl.1 rfl (lv_room (Nat.le_of_ble_eq_true rfl)) dX3_alloc_65 ⟨Nat.le_of_ble_eq_true rfl, Nat.le_of_ble_eq_true rfl⟩) (fun r_15 hw => ?_)
        refine vcall (wr := []) (va_runV (As := [.int r_12, .int r_15]) (rest := []) hC (c_X3_write l D g k mw mk (upd ml r_12.toNatClampNeg (vp_nar .boolean 1)) mq mwt mn mt mcl mcr 0 mkind_7 msort_8 mfirst_9 mblk_10 mfree_11 mfnd mfm msn r_12 r_15 _ hw H.size) (cwV 2 hts gX3_alloc_X3_write rfl rfl rfl (by decide +kernel) ⟨Nat.le_of_ble_eq_true rfl, Nat.le_of_ble_eq_true rfl⟩) (preV_m (va_recv hK hP (ci := 3) (q0 := 0) rfl rfl) hP hD hA hK hZ hS [0, 1, 2, 3, 4, 5, 6, 7, 8, 9, 10, 11, 12] rfl rfl (by decide)) rfl rfl hl.1 rfl (lv_room (Nat.le_of_ble_eq_true rfl)) dX3_alloc_68 ⟨Nat.le_of_ble_eq_true rfl, Nat.le_of_ble_eq_true rfl⟩) hP hD hA hS [0, 1, 2, 3, 4, 5, 6, 7, 8, 9, 10, 11, 12] [] rfl rfl (by decide) (by decide) (fun u' H locs hw hP hD hS => ?_)
        obtain ⟨mw_16, mq_17, mwt_18, mn_19⟩ := u'
        try dsimp only at hw
        have hP : va_P D vwCl (xM g k mw_16 mk (upd ml r_12.toNatClampNeg (vp_nar .boolean 1)) mq_17 mwt_18 mn_19 mt mcl mcr 0 mkind_7 msort_8 mfirst_9 mblk_10 mfree_11 mfnd mfm msn) H := hP
        have hD : va_D A (xM g k mw_16 mk (upd ml r_12.toNatClampNeg (vp_nar .boolean 1)) mq_17 mwt_18 mn_19 mt mcl mcr 0 mkind_7 msort_8 mfirst_9 mblk_10 mfree_11 mfnd mfm msn) := hD
        refine lv_iconst (v := 0) hx hb dX3_alloc_71 (by decide) ?_
        refine lv_istore (lv' := [(4, .int 0), (3, .int r_12), (0, .ref (g 0)), (1, .int x1), (2, .int x2)]) hx hb dX3_alloc_72 hl (by decide) rfl (fun ls hl => ?_)
        obtain ⟨fu_26, hw⟩ := hw
        exact B74  fu_26 x1 r_12 0 mw_16 (upd ml r_12.toNatClampNeg (vp_nar .boolean 1)) mq_17 mwt_18 mn_19 mt 0 mkind_7 msort_8 mfirst_9 mblk_10 mfree_11 H locs hP hD hS ls (lv_sub hl [2, 3, 1, 0] rfl) hw
      · have hw := hw.2 c_13
        refine lv_aload_n hx hb dX3_alloc_46 rfl (lv_at hl 1 rfl) ?_
        refine lv_iconst (v := 1) hx hb dX3_alloc_47 (by decide) ?_
        refine icall (wr := []) (va_runV (As := [.int 1]) (rest := []) hC (c_X3_no l D g k mw mk ml mq mwt mn mt mcl mcr 0 mkind_7 msort_8 mfirst_9 mblk_10 mfree_11 mfnd mfm msn 1 _ hw H.size) (cwV 1 hts gX3_alloc_X3_no rfl rfl rfl (by decide +kernel) ⟨Nat.le_of_ble_eq_true rfl, Nat.le_of_ble_eq_true rfl⟩) (preV_m (va_recv hK hP (ci := 3) (q0 := 0) rfl rfl) hP hD hA hK hZ hS [0, 1, 2, 3, 4, 5, 6, 7, 8, 9, 10, 11, 12] rfl rfl (by decide)) rfl rfl hl.1 rfl (lv_room (Nat.le_of_ble_eq_true rfl)) dX3_alloc_48 ⟨Nat.le_of_ble_eq_true rfl, Nat.le_of_ble_eq_true rfl⟩) hP hD hA hS [0, 1, 2, 3, 4, 5, 6, 7, 8, 9, 10, 11, 12] [] rfl rfl (by decide) (by decide) (fun r_28 u' H locs hw hP hD hS => ?_)
        obtain ⟨mt_27, rfl⟩ : ∃ z, z = u' := ⟨_, rfl⟩
        try dsimp only at hw
        have hP : va_P D vwCl (xM g k mw mk ml mq mwt mn mt_27 mcl mcr 0 mkind_7 msort_8 mfirst_9 mblk_10 mfree_11 mfnd mfm msn) H := hP
        have hD : va_D A (xM g k mw mk ml mq mwt mn mt_27 mcl mcr 0 mkind_7 msort_8 mfirst_9 mblk_10 mfree_11 mfnd mfm msn) := hD
        exact hret _ _ _ (mw, ml, mq, mwt, mn, mt_27, 0, mkind_7, msort_8, mfirst_9, mblk_10, mfree_11) _ _ hP hD hS dX3_alloc_51 hw
    · have hw := hw.2 c_6
      exact B27  mw ml mq mwt mn mt 0 mkind msort mfirst mblk mfree H locs hP hD hS ls (lv_sub hl [0] rfl) hw
-- X3_leading
abbrev rmX3_leading : Room := { frames := 1, cells := 0, slots := 0, locals := 21 }
set_option maxHeartbeats 4000000 in
set_option maxRecDepth 100000 in
theorem c_X3_leading (l : Launch) (D : va_G) (g : Nat → Nat) (k : xC) (mw : Nat → Int32) (mk : Nat → Int32) (ml : Nat → Int32) (mq : Nat → Int32) (mwt : Nat → Int32) (mn : Int32) (mt : Int32) (mcl : Int32) (mcr : Int32) (mth : Int32) (mkind : Nat → Int32) (msort : Nat → Int32) (mfirst : Nat → Int32) (mblk : Nat → Int32) (mfree : Nat → Int32) (mfnd : Nat → Int32) (mfm : Int32) (msn : Nat → Int32) (x1 : Int32) (post : Int32 → Prop) (hw : wX3_leading post mw ml x1) : CPi l yX3_leading wsX3_leading rmX3_leading D k [.ref (g 0), .int x1] (xM g k mw mk ml mq mwt mn mt mcl mcr mth mkind msort mfirst mblk mfree mfnd mfm msn) post := by
  refine met_pi (cc := cX3_leading) (nL := 5) (by decide) rfl (Nat.le_of_ble_eq_true rfl) ?_
  intro p e s m args below meth c Q ls hC hP hK hZ hS hl hret
  obtain ⟨hx, hb, hml, hown, hts⟩ := id hC
  have hC : CallFix p m c cX3_leading 5 s args wsX3_leading RX3 := hC
  have hown : s.vm.findClass RX3 = some m.cls := hown
  have hl : lv_has ls 5 [(0, .ref (g 0)), (1, .int x1)] := hl
  have hinX3 : ∀ w ∈ wsX30, w ∈ wsX3_leading := fun _ h => List.mem_cons_of_mem _ (List.mem_append_right _ h)
  have B59 : ∀ (J37 : Int32 → Int32 → Int32 → Prop) (hJ37 : ∀ (x1 : Int32), ∀ (x2 : Int32), ∀ (x3 : Int32), ∀ (ls : Array Slot), lv_has ls 5 [(0, .ref (g 0)), (1, .int x1), (2, .int x2), (3, .int x3)] → J37 x1 x2 x3 → W p l e rmX3_leading s m args below meth c s.heap [] 0 0 Q (F0 m 37 ls [])) (fu : Nat), ∀ (x1 : Int32), ∀ (x2 : Int32), ∀ (x3 : Int32), ∀ (x4 : Int32), ∀ (ls : Array Slot), lv_has ls 5 [(0, .ref (g 0)), (1, .int x1), (2, .int x2), (3, .int x3), (4, .int x4)] → wX3_leading_59 post mw ml J37 fu x1 x2 x3 x4 → W p l e rmX3_leading s m args below meth c s.heap [] 0 0 Q (F0 m 59 ls []) := by
    intro J37 hJ37 fu
    induction fu with
    | zero =>
      intro x1 x2 x3 x4 ls hl hw
      exact absurd hw (by unfold wX3_leading_59; exact fun q => q)
    | succ n ih =>
      intro x1 x2 x3 x4 ls hl hw
      unfold wX3_leading_59 at hw
      refine lv_iload hx hb dX3_leading_59 (lv_at hl 4 rfl) ?_
      refine lv_aload_n hx hb dX3_leading_61 rfl (lv_at hl 0 rfl) ?_
      refine lv_iload_n hx hb dX3_leading_62 rfl (lv_at hl 3 rfl) ?_
      refine pcall (va_runV (As := [.int x3]) (rest := [.int x4]) hC (c_X3_refsAt l D g k mw mk ml mq mwt mn mt mcl mcr mth mkind msort mfirst mblk mfree mfnd mfm msn x3 _ hw s.heap) (cwV 1 hts gX3_leading_X3_refsAt rfl rfl rfl (by decide +kernel) ⟨Nat.le_of_ble_eq_true rfl, Nat.le_of_ble_eq_true rfl⟩) (preV_p (va_recv hK hP (ci := 3) (q0 := 0) rfl rfl) hP hK hZ hS) rfl rfl hl.1 rfl (lv_room (Nat.le_of_ble_eq_true rfl)) dX3_leading_63 ⟨Nat.le_of_ble_eq_true rfl, Nat.le_of_ble_eq_true rfl⟩) (fun r_5 hw => ?_)
      refine lv_icmp_ge (tgt := 98) hx hb dX3_leading_66 (by decide) (fun c_6 => ?_) (fun c_6 => ?_)
      · have hw := hw.1 c_6
        obtain ⟨x3_7, ex3_7⟩ : ∃ y : Int32, y = x3 + 1 := ⟨_, rfl⟩
        have hw := hw x3_7 ex3_7
        refine lv_iinc (v := x3_7) (lv' := [(3, .int x3_7), (0, .ref (g 0)), (1, .int x1), (2, .int x2), (4, .int x4)]) hx hb dX3_leading_98 hl (k := 3) rfl (by rw [ex3_7]; rfl) (by decide) rfl (fun ls hl => ?_)
        refine lv_goto (tgt := 37) hx hb dX3_leading_101 (by decide) ?_
        exact hJ37 x1 x2 x3_7 ls (lv_sub hl [1, 2, 3, 0] rfl) hw
      · have hw := hw.2 c_6
        refine lv_iload_n hx hb dX3_leading_69 rfl (lv_at hl 2 rfl) ?_
        refine lv_aload_n hx hb dX3_leading_70 rfl (lv_at hl 0 rfl) ?_
        refine va_get (D := D) (ci := 3) (v := .ref (g 1)) (C := RX3) (T := TX3) (N := 18) hx hb hts hinX3 hown hK hP 0 rfl rfl 0 (by decide) (hts (.fieldLink RX3 7 "SlabHeapModel" "words" "[I") (by decide +kernel)) (fun _ h9 => h9) rfl dX3_leading_71 ?_
        refine lv_iload_n hx hb dX3_leading_74 rfl (lv_at hl 3 rfl) ?_
        refine lv_iconst (v := 1) hx hb dX3_leading_75 (by decide) ?_
        refine lv_iadd hx hb dX3_leading_76 ?_
        refine lv_iload hx hb dX3_leading_77 (lv_at hl 4 rfl) ?_
        refine lv_iadd hx hb dX3_leading_79 ?_
        obtain ⟨h_8, hw⟩ := hw
        refine va_iald hx hb hK hP 1 0 rfl rfl h_8 dX3_leading_80 ?_
        refine lv_iload_n hx hb dX3_leading_81 rfl (lv_at hl 1 rfl) ?_
        refine lv_icmp_ne (tgt := 89) hx hb dX3_leading_82 (by decide) (fun c_9 => ?_) (fun c_9 => ?_)
        · have hw := hw.1 c_9
          refine lv_iconst (v := 0) hx hb dX3_leading_89 (by decide) ?_
          refine lv_iadd hx hb dX3_leading_90 ?_
          refine lv_topi (fun x2_10 ex2_10 => ?_)
          have hw := hw x2_10 ex2_10
          refine lv_istore_n (lv' := [(2, .int x2_10), (0, .ref (g 0)), (1, .int x1), (3, .int x3), (4, .int x4)]) hx hb dX3_leading_91 rfl hl (by decide) rfl (fun ls hl => ?_)
          obtain ⟨x4_11, ex4_11⟩ : ∃ y : Int32, y = x4 + 1 := ⟨_, rfl⟩
          have hw := hw x4_11 ex4_11
          refine lv_iinc (v := x4_11) (lv' := [(4, .int x4_11), (2, .int x2_10), (0, .ref (g 0)), (1, .int x1), (3, .int x3)]) hx hb dX3_leading_92 hl (k := 4) rfl (by rw [ex4_11]; rfl) (by decide) rfl (fun ls hl => ?_)
          refine lv_goto (tgt := 59) hx hb dX3_leading_95 (by decide) ?_
          exact ih x1 x2_10 x3 x4_11 ls (lv_sub hl [2, 3, 1, 4, 0] rfl) hw
        · have hw := hw.2 c_9
          refine lv_iconst (v := 1) hx hb dX3_leading_85 (by decide) ?_
          refine lv_goto (tgt := 90) hx hb dX3_leading_86 (by decide) ?_
          refine lv_iadd hx hb dX3_leading_90 ?_
          refine lv_topi (fun x2_12 ex2_12 => ?_)
          have hw := hw x2_12 ex2_12
          refine lv_istore_n (lv' := [(2, .int x2_12), (0, .ref (g 0)), (1, .int x1), (3, .int x3), (4, .int x4)]) hx hb dX3_leading_91 rfl hl (by decide) rfl (fun ls hl => ?_)
          obtain ⟨x4_13, ex4_13⟩ : ∃ y : Int32, y = x4 + 1 := ⟨_, rfl⟩
          have hw := hw x4_13 ex4_13
          refine lv_iinc (v := x4_13) (lv' := [(4, .int x4_13), (2, .int x2_12), (0, .ref (g 0)), (1, .int x1), (3, .int x3)]) hx hb dX3_leading_92 hl (k := 4) rfl (by rw [ex4_13]; rfl) (by decide) rfl (fun ls hl => ?_)
          refine lv_goto (tgt := 59) hx hb dX3_leading_95 (by decide) ?_
          exact ih x1 x2_12 x3 x4_13 ls (lv_sub hl [2, 3, 1, 4, 0] rfl) hw
  have B37 : ∀ (fu : Nat), ∀ (x1 : Int32), ∀ (x2 : Int32), ∀ (x3 : Int32), ∀ (ls : Array Slot), lv_has ls 5 [(0, .ref (g 0)), (1, .int x1), (2, .int x2), (3, .int x3)] → wX3_leading_37 post mw ml fu x1 x2 x3 → W p l e rmX3_leading s m args below meth c s.heap [] 0 0 Q (F0 m 37 ls []) := by
    intro  fu
    induction fu with
    | zero =>
      intro x1 x2 x3 ls hl hw
      exact absurd hw (by unfold wX3_leading_37; exact fun q => q)
    | succ n ih =>
      intro x1 x2 x3 ls hl hw
      unfold wX3_leading_37 at hw
      refine lv_iload_n hx hb dX3_leading_37 rfl (lv_at hl 3 rfl) ?_
      refine lv_sipush (v := 4096) hx hb dX3_leading_38 (by decide) ?_
      refine lv_icmp_ge (tgt := 104) hx hb dX3_leading_41 (by decide) (fun c_2 => ?_) (fun c_2 => ?_)
      · have hw := hw.1 c_2
        refine lv_iload_n hx hb dX3_leading_104 rfl (lv_at hl 2 rfl) ?_
        exact hret _ _ _ dX3_leading_105 hw
      · have hw := hw.2 c_2
        refine lv_aload_n hx hb dX3_leading_44 rfl (lv_at hl 0 rfl) ?_
        refine va_get (D := D) (ci := 3) (v := .ref (g 3)) (C := RX3) (T := TX3) (N := 18) hx hb hts hinX3 hown hK hP 0 rfl rfl 2 (by decide) (hts (.fieldLink RX3 16 "SlabHeapModel" "isLive" "[Z") (by decide +kernel)) (fun _ h9 => h9) rfl dX3_leading_45 ?_
        refine lv_iload_n hx hb dX3_leading_48 rfl (lv_at hl 3 rfl) ?_
        obtain ⟨h_3, hw⟩ := hw
        refine va_zald hx hb hK hP 3 1 rfl rfl h_3 dX3_leading_49 ?_
        refine lv_if_ne (tgt := 56) hx hb dX3_leading_50 (by decide) (fun c_4 => ?_) (fun c_4 => ?_)
        · have hw := hw.1 c_4
          refine lv_iconst (v := 0) hx hb dX3_leading_56 (by decide) ?_
          refine lv_istore (lv' := [(4, .int 0), (0, .ref (g 0)), (1, .int x1), (2, .int x2), (3, .int x3)]) hx hb dX3_leading_57 hl (by decide) rfl (fun ls hl => ?_)
          obtain ⟨fu_14, hw⟩ := hw
          exact B59 (wX3_leading_37 post mw ml n) ih fu_14 x1 x2 x3 0 ls (lv_sub hl [1, 2, 3, 4, 0] rfl) hw
        · have hw := hw.2 c_4
          refine lv_goto (tgt := 98) hx hb dX3_leading_53 (by decide) ?_
          obtain ⟨x3_15, ex3_15⟩ : ∃ y : Int32, y = x3 + 1 := ⟨_, rfl⟩
          have hw := hw x3_15 ex3_15
          refine lv_iinc (v := x3_15) (lv' := [(3, .int x3_15), (0, .ref (g 0)), (1, .int x1), (2, .int x2)]) hx hb dX3_leading_98 hl (k := 3) rfl (by rw [ex3_15]; rfl) (by decide) rfl (fun ls hl => ?_)
          refine lv_goto (tgt := 37) hx hb dX3_leading_101 (by decide) ?_
          exact ih x1 x2 x3_15 ls (lv_sub hl [1, 2, 3, 0] rfl) hw
  have B4 : ∀ (fu : Nat), ∀ (x1 : Int32), ∀ (x2 : Int32), ∀ (x3 : Int32), ∀ (ls : Array Slot), lv_has ls 5 [(0, .ref (g 0)), (1, .int x1), (2, .int x2), (3, .int x3)] → wX3_leading_4 post mw ml fu x1 x2 x3 → W p l e rmX3_leading s m args below meth c s.heap [] 0 0 Q (F0 m 4 ls []) := by
    intro  fu
    induction fu with
    | zero =>
      intro x1 x2 x3 ls hl hw
      exact absurd hw (by unfold wX3_leading_4; exact fun q => q)
    | succ n ih =>
      intro x1 x2 x3 ls hl hw
      unfold wX3_leading_4 at hw
      refine lv_iload_n hx hb dX3_leading_4 rfl (lv_at hl 3 rfl) ?_
      refine lv_bipush (v := 8) hx hb dX3_leading_5 (by decide) ?_
      refine lv_icmp_gt (tgt := 34) hx hb dX3_leading_7 (by decide) (fun c_1 => ?_) (fun c_1 => ?_)
      · have hw := hw.1 c_1
        refine lv_bipush (v := 16) hx hb dX3_leading_34 (by decide) ?_
        refine lv_istore_n (lv' := [(3, .int 16), (0, .ref (g 0)), (1, .int x1), (2, .int x2)]) hx hb dX3_leading_36 rfl hl (by decide) rfl (fun ls hl => ?_)
        obtain ⟨fu_16, hw⟩ := hw
        exact B37  fu_16 x1 x2 16 ls (lv_sub hl [1, 2, 3, 0] rfl) hw
      · have hw := hw.2 c_1
        refine lv_iload_n hx hb dX3_leading_10 rfl (lv_at hl 2 rfl) ?_
        refine lv_aload_n hx hb dX3_leading_11 rfl (lv_at hl 0 rfl) ?_
        refine va_get (D := D) (ci := 3) (v := .ref (g 1)) (C := RX3) (T := TX3) (N := 18) hx hb hts hinX3 hown hK hP 0 rfl rfl 0 (by decide) (hts (.fieldLink RX3 7 "SlabHeapModel" "words" "[I") (by decide +kernel)) (fun _ h9 => h9) rfl dX3_leading_12 ?_
        refine lv_iload_n hx hb dX3_leading_15 rfl (lv_at hl 3 rfl) ?_
        obtain ⟨h_17, hw⟩ := hw
        refine va_iald hx hb hK hP 1 0 rfl rfl h_17 dX3_leading_16 ?_
        refine lv_iload_n hx hb dX3_leading_17 rfl (lv_at hl 1 rfl) ?_
        refine lv_icmp_ne (tgt := 25) hx hb dX3_leading_18 (by decide) (fun c_18 => ?_) (fun c_18 => ?_)
        · have hw := hw.1 c_18
          refine lv_iconst (v := 0) hx hb dX3_leading_25 (by decide) ?_
          refine lv_iadd hx hb dX3_leading_26 ?_
          refine lv_topi (fun x2_19 ex2_19 => ?_)
          have hw := hw x2_19 ex2_19
          refine lv_istore_n (lv' := [(2, .int x2_19), (0, .ref (g 0)), (1, .int x1), (3, .int x3)]) hx hb dX3_leading_27 rfl hl (by decide) rfl (fun ls hl => ?_)
          obtain ⟨x3_20, ex3_20⟩ : ∃ y : Int32, y = x3 + 1 := ⟨_, rfl⟩
          have hw := hw x3_20 ex3_20
          refine lv_iinc (v := x3_20) (lv' := [(3, .int x3_20), (2, .int x2_19), (0, .ref (g 0)), (1, .int x1)]) hx hb dX3_leading_28 hl (k := 3) rfl (by rw [ex3_20]; rfl) (by decide) rfl (fun ls hl => ?_)
          refine lv_goto (tgt := 4) hx hb dX3_leading_31 (by decide) ?_
          exact ih x1 x2_19 x3_20 ls (lv_sub hl [2, 3, 1, 0] rfl) hw
        · have hw := hw.2 c_18
          refine lv_iconst (v := 1) hx hb dX3_leading_21 (by decide) ?_
          refine lv_goto (tgt := 26) hx hb dX3_leading_22 (by decide) ?_
          refine lv_iadd hx hb dX3_leading_26 ?_
          refine lv_topi (fun x2_21 ex2_21 => ?_)
          have hw := hw x2_21 ex2_21
          refine lv_istore_n (lv' := [(2, .int x2_21), (0, .ref (g 0)), (1, .int x1), (3, .int x3)]) hx hb dX3_leading_27 rfl hl (by decide) rfl (fun ls hl => ?_)
          obtain ⟨x3_22, ex3_22⟩ : ∃ y : Int32, y = x3 + 1 := ⟨_, rfl⟩
          have hw := hw x3_22 ex3_22
          refine lv_iinc (v := x3_22) (lv' := [(3, .int x3_22), (2, .int x2_21), (0, .ref (g 0)), (1, .int x1)]) hx hb dX3_leading_28 hl (k := 3) rfl (by rw [ex3_22]; rfl) (by decide) rfl (fun ls hl => ?_)
          refine lv_goto (tgt := 4) hx hb dX3_leading_31 (by decide) ?_
          exact ih x1 x2_21 x3_22 ls (lv_sub hl [2, 3, 1, 0] rfl) hw
  unfold wX3_leading at hw
  refine lv_iconst (v := 0) hx hb dX3_leading_0 (by decide) ?_
  refine lv_istore_n (lv' := [(2, .int 0), (0, .ref (g 0)), (1, .int x1)]) hx hb dX3_leading_1 rfl hl (by decide) rfl (fun ls hl => ?_)
  refine lv_iconst (v := 1) hx hb dX3_leading_2 (by decide) ?_
  refine lv_istore_n (lv' := [(3, .int 1), (2, .int 0), (0, .ref (g 0)), (1, .int x1)]) hx hb dX3_leading_3 rfl hl (by decide) rfl (fun ls hl => ?_)
  obtain ⟨fu_23, hw⟩ := hw
  exact B4  fu_23 x1 0 1 ls (lv_sub hl [2, 3, 1, 0] rfl) hw
-- X3_freed
abbrev rmX3_freed : Room := { frames := 1, cells := 0, slots := 0, locals := 23 }
set_option maxHeartbeats 4000000 in
set_option maxRecDepth 100000 in
theorem c_X3_freed (l : Launch) (D : va_G) (g : Nat → Nat) (k : xC) (mw : Nat → Int32) (mk : Nat → Int32) (ml : Nat → Int32) (mq : Nat → Int32) (mwt : Nat → Int32) (mn : Int32) (mt : Int32) (mcl : Int32) (mcr : Int32) (mth : Int32) (mkind : Nat → Int32) (msort : Nat → Int32) (mfirst : Nat → Int32) (mblk : Nat → Int32) (mfree : Nat → Int32) (mfnd : Nat → Int32) (mfm : Int32) (msn : Nat → Int32) (x1 : Int32) (post : Int32 → (Nat → Int32) → (Nat → Int32) → (Nat → Int32) → (Nat → Int32) → Int32 → Prop) (hw : wX3_freed post mw ml mq mwt mn x1) : CMi l yX3_freed wsX3_freed rmX3_freed D k [.ref (g 0), .int x1] (fun v : (Nat → Int32) × (Nat → Int32) × (Nat → Int32) × (Nat → Int32) × Int32 => (xM g k (v.1) mk (v.2.1) (v.2.2.1) (v.2.2.2.1) (v.2.2.2.2) mt mcl mcr mth mkind msort mfirst mblk mfree mfnd mfm msn)) (mw, ml, mq, mwt, mn) (fun r v => post r (v.1) (v.2.1) (v.2.2.1) (v.2.2.2.1) (v.2.2.2.2)) := by
  refine met_mi (cc := cX3_freed) (nL := 3) (by decide) rfl (Nat.le_of_ble_eq_true rfl) ?_
  intro p e s m args below meth c Q A ls hC hP hD hA hK hZ hS hl hret
  obtain ⟨hx, hb, hml, hown, hts⟩ := id hC
  have hC : CallFix p m c cX3_freed 3 s args wsX3_freed RX3 := hC
  have hown : s.vm.findClass RX3 = some m.cls := hown
  have hl : lv_has ls 3 [(0, .ref (g 0)), (1, .int x1)] := hl
  have hP : va_P D vwCl (xM g k mw mk ml mq mwt mn mt mcl mcr mth mkind msort mfirst mblk mfree mfnd mfm msn) s.heap := hP
  have hD : va_D A (xM g k mw mk ml mq mwt mn mt mcl mcr mth mkind msort mfirst mblk mfree mfnd mfm msn) := hD
  have hinX3 : ∀ w ∈ wsX30, w ∈ wsX3_freed := fun _ h => List.mem_cons_of_mem _ (List.mem_append_right _ h)
  unfold wX3_freed at hw
  suffices main : ∀ (H : Heap) (locs : List Loc), va_P D vwCl (xM g k mw mk ml mq mwt mn mt mcl mcr mth mkind msort mfirst mblk mfree mfnd mfm msn) H → va_D A (xM g k mw mk ml mq mwt mn mt mcl mcr mth mkind msort mfirst mblk mfree mfnd mfm msn) → va_S A s.heap H locs → W p l e rmX3_freed s m args below meth c H locs 0 0 Q (F0 m 0 ls []) from main _ _ hP hD hS
  intro H locs hP hD hS
  refine lv_aload_n hx hb dX3_freed_0 rfl (lv_at hl 0 rfl) ?_
  refine lv_iload_n hx hb dX3_freed_1 rfl (lv_at hl 1 rfl) ?_
  refine pcall (va_runV (As := [.int x1]) (rest := []) hC (c_X3_sizeAt l D g k mw mk ml mq mwt mn mt mcl mcr mth mkind msort mfirst mblk mfree mfnd mfm msn x1 _ hw H) (cwV 1 hts gX3_freed_X3_sizeAt rfl rfl rfl (by decide +kernel) ⟨Nat.le_of_ble_eq_true rfl, Nat.le_of_ble_eq_true rfl⟩) (preV_p (va_recv hK hP (ci := 3) (q0 := 0) rfl rfl) hP hK hZ hS) rfl rfl hl.1 rfl (lv_room (Nat.le_of_ble_eq_true rfl)) dX3_freed_2 ⟨Nat.le_of_ble_eq_true rfl, Nat.le_of_ble_eq_true rfl⟩) (fun r_1 hw => ?_)
  refine lv_iconst (v := 1) hx hb dX3_freed_5 (by decide) ?_
  refine lv_iadd hx hb dX3_freed_6 ?_
  refine lv_topi (fun x2_2 ex2_2 => ?_)
  have hw := hw x2_2 ex2_2
  refine lv_istore_n (lv' := [(2, .int x2_2), (0, .ref (g 0)), (1, .int x1)]) hx hb dX3_freed_7 rfl hl (by decide) rfl (fun ls hl => ?_)
  refine lv_aload_n hx hb dX3_freed_8 rfl (lv_at hl 1 rfl) ?_
  refine va_get (D := D) (ci := 3) (v := .ref (g 3)) (C := RX3) (T := TX3) (N := 18) hx hb hts hinX3 hown hK hP 0 rfl rfl 2 (by decide) (hts (.fieldLink RX3 16 "SlabHeapModel" "isLive" "[Z") (by decide +kernel)) (fun _ h9 => h9) rfl dX3_freed_9 ?_
  refine lv_iload_n hx hb dX3_freed_12 rfl (lv_at hl 2 rfl) ?_
  refine lv_iconst (v := 0) hx hb dX3_freed_13 (by decide) ?_
  obtain ⟨h_3, hw⟩ := hw
  refine va_zast hx hb hK hP hD hS 3 1 rfl rfl h_3 dX3_freed_14 (fun H locs hP hD hS => ?_)
  have hP : va_P D vwCl (xM g k mw mk (upd ml x1.toNatClampNeg (vp_nar .boolean 0)) mq mwt mn mt mcl mcr mth mkind msort mfirst mblk mfree mfnd mfm msn) H := hP
  have hD : va_D A (xM g k mw mk (upd ml x1.toNatClampNeg (vp_nar .boolean 0)) mq mwt mn mt mcl mcr mth mkind msort mfirst mblk mfree mfnd mfm msn) := hD
  refine lv_aload_n hx hb dX3_freed_15 rfl (lv_at hl 1 rfl) ?_
  refine lv_iload_n hx hb dX3_freed_16 rfl (lv_at hl 2 rfl) ?_
  refine lv_iconst (v := 0) hx hb dX3_freed_17 (by decide) ?_
  refine vcall (wr := []) (va_runV (As := [.int x1, .int 0]) (rest := []) hC (c_X3_write l D g k mw mk (upd ml x1.toNatClampNeg (vp_nar .boolean 0)) mq mwt mn mt mcl mcr mth mkind msort mfirst mblk mfree mfnd mfm msn x1 0 _ hw H.size) (cwV 2 hts gX3_freed_X3_write rfl rfl rfl (by decide +kernel) ⟨Nat.le_of_ble_eq_true rfl, Nat.le_of_ble_eq_true rfl⟩) (preV_m (va_recv hK hP (ci := 3) (q0 := 0) rfl rfl) hP hD hA hK hZ hS [0, 1, 2, 3, 4, 5, 6, 7, 8, 9, 10, 11, 12] rfl rfl (by decide)) rfl rfl hl.1 rfl (lv_room (Nat.le_of_ble_eq_true rfl)) dX3_freed_18 ⟨Nat.le_of_ble_eq_true rfl, Nat.le_of_ble_eq_true rfl⟩) hP hD hA hS [0, 1, 2, 3, 4, 5, 6, 7, 8, 9, 10, 11, 12] [] rfl rfl (by decide) (by decide) (fun u' H locs hw hP hD hS => ?_)
  obtain ⟨mw_4, mq_5, mwt_6, mn_7⟩ := u'
  try dsimp only at hw
  have hP : va_P D vwCl (xM g k mw_4 mk (upd ml x1.toNatClampNeg (vp_nar .boolean 0)) mq_5 mwt_6 mn_7 mt mcl mcr mth mkind msort mfirst mblk mfree mfnd mfm msn) H := hP
  have hD : va_D A (xM g k mw_4 mk (upd ml x1.toNatClampNeg (vp_nar .boolean 0)) mq_5 mwt_6 mn_7 mt mcl mcr mth mkind msort mfirst mblk mfree mfnd mfm msn) := hD
  refine lv_iload_n hx hb dX3_freed_21 rfl (lv_at hl 0 rfl) ?_
  exact hret _ _ _ (mw_4, (upd ml x1.toNatClampNeg (vp_nar .boolean 0)), mq_5, mwt_6, mn_7) _ _ hP hD hS dX3_freed_22 hw
-- X3_free
abbrev rmX3_free : Room := { frames := 2, cells := 0, slots := 0, locals := 45 }
set_option maxHeartbeats 4000000 in
set_option maxRecDepth 100000 in
theorem c_X3_free (l : Launch) (D : va_G) (g : Nat → Nat) (k : xC) (mw : Nat → Int32) (mk : Nat → Int32) (ml : Nat → Int32) (mq : Nat → Int32) (mwt : Nat → Int32) (mn : Int32) (mt : Int32) (mcl : Int32) (mcr : Int32) (mth : Int32) (mkind : Nat → Int32) (msort : Nat → Int32) (mfirst : Nat → Int32) (mblk : Nat → Int32) (mfree : Nat → Int32) (mfnd : Nat → Int32) (mfm : Int32) (msn : Nat → Int32) (x1 : Int32) (post : Int32 → (Nat → Int32) → (Nat → Int32) → (Nat → Int32) → (Nat → Int32) → Int32 → Int32 → Int32 → Prop) (hw : wX3_free post mw ml mq mwt mn mt mth x1) : CMi l yX3_free wsX3_free rmX3_free D k [.ref (g 0), .int x1] (fun v : (Nat → Int32) × (Nat → Int32) × (Nat → Int32) × (Nat → Int32) × Int32 × Int32 × Int32 => (xM g k (v.1) mk (v.2.1) (v.2.2.1) (v.2.2.2.1) (v.2.2.2.2.1) (v.2.2.2.2.2.1) mcl mcr (v.2.2.2.2.2.2) mkind msort mfirst mblk mfree mfnd mfm msn)) (mw, ml, mq, mwt, mn, mt, mth) (fun r v => post r (v.1) (v.2.1) (v.2.2.1) (v.2.2.2.1) (v.2.2.2.2.1) (v.2.2.2.2.2.1) (v.2.2.2.2.2.2)) := by
  refine met_mi (cc := cX3_free) (nL := 2) (by decide) rfl (Nat.le_of_ble_eq_true rfl) ?_
  intro p e s m args below meth c Q A ls hC hP hD hA hK hZ hS hl hret
  obtain ⟨hx, hb, hml, hown, hts⟩ := id hC
  have hC : CallFix p m c cX3_free 2 s args wsX3_free RX3 := hC
  have hown : s.vm.findClass RX3 = some m.cls := hown
  have hl : lv_has ls 2 [(0, .ref (g 0)), (1, .int x1)] := hl
  have hP : va_P D vwCl (xM g k mw mk ml mq mwt mn mt mcl mcr mth mkind msort mfirst mblk mfree mfnd mfm msn) s.heap := hP
  have hD : va_D A (xM g k mw mk ml mq mwt mn mt mcl mcr mth mkind msort mfirst mblk mfree mfnd mfm msn) := hD
  have hinX3 : ∀ w ∈ wsX30, w ∈ wsX3_free := fun _ h => List.mem_cons_of_mem _ (List.mem_append_right _ h)
  unfold wX3_free at hw
  suffices main : ∀ (H : Heap) (locs : List Loc), va_P D vwCl (xM g k mw mk ml mq mwt mn mt mcl mcr mth mkind msort mfirst mblk mfree mfnd mfm msn) H → va_D A (xM g k mw mk ml mq mwt mn mt mcl mcr mth mkind msort mfirst mblk mfree mfnd mfm msn) → va_S A s.heap H locs → W p l e rmX3_free s m args below meth c H locs 0 0 Q (F0 m 0 ls []) from main _ _ hP hD hS
  intro H locs hP hD hS
  refine lv_aload_n hx hb dX3_free_0 rfl (lv_at hl 0 rfl) ?_
  refine lv_iconst (v := 0) hx hb dX3_free_1 (by decide) ?_
  refine va_put (D := D) (ci := 3) (v := .int 0) (ty := .int) (C := RX3) (T := TX3) (N := 18) hx hb hts hinX3 tyX3 tyX3_ok nmX3 hown hK hP hD hS 0 rfl rfl 9 (by decide) (hts (.fieldLink RX3 47 "SlabHeapModel" "thrown" "I") (by decide +kernel)) (fun _ h9 => h9) rfl (by decide +kernel) rfl rfl (Nat.le_of_ble_eq_true rfl) dX3_free_2 (fun H locs hP hD hS => ?_)
  have hP : va_P D vwCl (xM g k mw mk ml mq mwt mn mt mcl mcr 0 mkind msort mfirst mblk mfree mfnd mfm msn) H := hP
  have hD : va_D A (xM g k mw mk ml mq mwt mn mt mcl mcr 0 mkind msort mfirst mblk mfree mfnd mfm msn) := hD
  refine lv_aload_n hx hb dX3_free_5 rfl (lv_at hl 0 rfl) ?_
  refine lv_iload_n hx hb dX3_free_6 rfl (lv_at hl 1 rfl) ?_
  refine pcall (va_runV (As := [.int x1]) (rest := []) hC (c_X3_isBlock l D g k mw mk ml mq mwt mn mt mcl mcr 0 mkind msort mfirst mblk mfree mfnd mfm msn x1 _ hw H) (cwV 1 hts gX3_free_X3_isBlock rfl rfl rfl (by decide +kernel) ⟨Nat.le_of_ble_eq_true rfl, Nat.le_of_ble_eq_true rfl⟩) (preV_p (va_recv hK hP (ci := 3) (q0 := 0) rfl rfl) hP hK hZ hS) rfl rfl hl.1 rfl (lv_room (Nat.le_of_ble_eq_true rfl)) dX3_free_7 ⟨Nat.le_of_ble_eq_true rfl, Nat.le_of_ble_eq_true rfl⟩) (fun r_1 hw => ?_)
  refine lv_if_ne (tgt := 19) hx hb dX3_free_10 (by decide) (fun c_2 => ?_) (fun c_2 => ?_)
  · have hw := hw.1 c_2
    refine lv_aload_n hx hb dX3_free_19 rfl (lv_at hl 0 rfl) ?_
    refine lv_iload_n hx hb dX3_free_20 rfl (lv_at hl 1 rfl) ?_
    refine pcall (va_runV (As := [.int x1]) (rest := []) hC (c_X3_leading l D g k mw mk ml mq mwt mn mt mcl mcr 0 mkind msort mfirst mblk mfree mfnd mfm msn x1 _ hw H) (cwV 1 hts gX3_free_X3_leading rfl rfl rfl (by decide +kernel) ⟨Nat.le_of_ble_eq_true rfl, Nat.le_of_ble_eq_true rfl⟩) (preV_p (va_recv hK hP (ci := 3) (q0 := 0) rfl rfl) hP hK hZ hS) rfl rfl hl.1 rfl (lv_room (Nat.le_of_ble_eq_true rfl)) dX3_free_21 ⟨Nat.le_of_ble_eq_true rfl, Nat.le_of_ble_eq_true rfl⟩) (fun r_3 hw => ?_)
    refine lv_if_le (tgt := 33) hx hb dX3_free_24 (by decide) (fun c_4 => ?_) (fun c_4 => ?_)
    · have hw := hw.1 c_4
      refine lv_aload_n hx hb dX3_free_33 rfl (lv_at hl 0 rfl) ?_
      refine lv_iconst (v := 0) hx hb dX3_free_34 (by decide) ?_
      refine va_put (D := D) (ci := 3) (v := .int 0) (ty := .int) (C := RX3) (T := TX3) (N := 18) hx hb hts hinX3 tyX3 tyX3_ok nmX3 hown hK hP hD hS 0 rfl rfl 6 (by decide) (hts (.fieldLink RX3 51 "SlabHeapModel" "trouble" "I") (by decide +kernel)) (fun _ h9 => h9) rfl (by decide +kernel) rfl rfl (Nat.le_of_ble_eq_true rfl) dX3_free_35 (fun H locs hP hD hS => ?_)
      have hP : va_P D vwCl (xM g k mw mk ml mq mwt mn 0 mcl mcr 0 mkind msort mfirst mblk mfree mfnd mfm msn) H := hP
      have hD : va_D A (xM g k mw mk ml mq mwt mn 0 mcl mcr 0 mkind msort mfirst mblk mfree mfnd mfm msn) := hD
      refine lv_aload_n hx hb dX3_free_38 rfl (lv_at hl 0 rfl) ?_
      refine lv_iload_n hx hb dX3_free_39 rfl (lv_at hl 1 rfl) ?_
      refine icall (wr := []) (va_runV (As := [.int x1]) (rest := []) hC (c_X3_freed l D g k mw mk ml mq mwt mn 0 mcl mcr 0 mkind msort mfirst mblk mfree mfnd mfm msn x1 _ hw H.size) (cwV 1 hts gX3_free_X3_freed rfl rfl rfl (by decide +kernel) ⟨Nat.le_of_ble_eq_true rfl, Nat.le_of_ble_eq_true rfl⟩) (preV_m (va_recv hK hP (ci := 3) (q0 := 0) rfl rfl) hP hD hA hK hZ hS [0, 1, 2, 3, 4, 5, 6, 7, 8, 9, 10, 11, 12] rfl rfl (by decide)) rfl rfl hl.1 rfl (lv_room (Nat.le_of_ble_eq_true rfl)) dX3_free_40 ⟨Nat.le_of_ble_eq_true rfl, Nat.le_of_ble_eq_true rfl⟩) hP hD hA hS [0, 1, 2, 3, 4, 5, 6, 7, 8, 9, 10, 11, 12] [] rfl rfl (by decide) (by decide) (fun r_10 u' H locs hw hP hD hS => ?_)
      obtain ⟨mw_5, ml_6, mq_7, mwt_8, mn_9⟩ := u'
      try dsimp only at hw
      have hP : va_P D vwCl (xM g k mw_5 mk ml_6 mq_7 mwt_8 mn_9 0 mcl mcr 0 mkind msort mfirst mblk mfree mfnd mfm msn) H := hP
      have hD : va_D A (xM g k mw_5 mk ml_6 mq_7 mwt_8 mn_9 0 mcl mcr 0 mkind msort mfirst mblk mfree mfnd mfm msn) := hD
      exact hret _ _ _ (mw_5, ml_6, mq_7, mwt_8, mn_9, 0, 0) _ _ hP hD hS dX3_free_43 hw
    · have hw := hw.2 c_4
      refine lv_aload_n hx hb dX3_free_27 rfl (lv_at hl 0 rfl) ?_
      refine lv_iconst (v := 4) hx hb dX3_free_28 (by decide) ?_
      refine icall (wr := []) (va_runV (As := [.int 4]) (rest := []) hC (c_X3_no l D g k mw mk ml mq mwt mn mt mcl mcr 0 mkind msort mfirst mblk mfree mfnd mfm msn 4 _ hw H.size) (cwV 1 hts gX3_free_X3_no rfl rfl rfl (by decide +kernel) ⟨Nat.le_of_ble_eq_true rfl, Nat.le_of_ble_eq_true rfl⟩) (preV_m (va_recv hK hP (ci := 3) (q0 := 0) rfl rfl) hP hD hA hK hZ hS [0, 1, 2, 3, 4, 5, 6, 7, 8, 9, 10, 11, 12] rfl rfl (by decide)) rfl rfl hl.1 rfl (lv_room (Nat.le_of_ble_eq_true rfl)) dX3_free_29 ⟨Nat.le_of_ble_eq_true rfl, Nat.le_of_ble_eq_true rfl⟩) hP hD hA hS [0, 1, 2, 3, 4, 5, 6, 7, 8, 9, 10, 11, 12] [] rfl rfl (by decide) (by decide) (fun r_12 u' H locs hw hP hD hS => ?_)
      obtain ⟨mt_11, rfl⟩ : ∃ z, z = u' := ⟨_, rfl⟩
      try dsimp only at hw
      have hP : va_P D vwCl (xM g k mw mk ml mq mwt mn mt_11 mcl mcr 0 mkind msort mfirst mblk mfree mfnd mfm msn) H := hP
      have hD : va_D A (xM g k mw mk ml mq mwt mn mt_11 mcl mcr 0 mkind msort mfirst mblk mfree mfnd mfm msn) := hD
      exact hret _ _ _ (mw, ml, mq, mwt, mn, mt_11, 0) _ _ hP hD hS dX3_free_32 hw
  · have hw := hw.2 c_2
    refine lv_aload_n hx hb dX3_free_13 rfl (lv_at hl 0 rfl) ?_
    refine lv_iconst (v := 2) hx hb dX3_free_14 (by decide) ?_
    refine icall (wr := []) (va_runV (As := [.int 2]) (rest := []) hC (c_X3_no l D g k mw mk ml mq mwt mn mt mcl mcr 0 mkind msort mfirst mblk mfree mfnd mfm msn 2 _ hw H.size) (cwV 1 hts gX3_free_X3_no rfl rfl rfl (by decide +kernel) ⟨Nat.le_of_ble_eq_true rfl, Nat.le_of_ble_eq_true rfl⟩) (preV_m (va_recv hK hP (ci := 3) (q0 := 0) rfl rfl) hP hD hA hK hZ hS [0, 1, 2, 3, 4, 5, 6, 7, 8, 9, 10, 11, 12] rfl rfl (by decide)) rfl rfl hl.1 rfl (lv_room (Nat.le_of_ble_eq_true rfl)) dX3_free_15 ⟨Nat.le_of_ble_eq_true rfl, Nat.le_of_ble_eq_true rfl⟩) hP hD hA hS [0, 1, 2, 3, 4, 5, 6, 7, 8, 9, 10, 11, 12] [] rfl rfl (by decide) (by decide) (fun r_14 u' H locs hw hP hD hS => ?_)
    obtain ⟨mt_13, rfl⟩ : ∃ z, z = u' := ⟨_, rfl⟩
    try dsimp only at hw
    have hP : va_P D vwCl (xM g k mw mk ml mq mwt mn mt_13 mcl mcr 0 mkind msort mfirst mblk mfree mfnd mfm msn) H := hP
    have hD : va_D A (xM g k mw mk ml mq mwt mn mt_13 mcl mcr 0 mkind msort mfirst mblk mfree mfnd mfm msn) := hD
    exact hret _ _ _ (mw, ml, mq, mwt, mn, mt_13, 0) _ _ hP hD hS dX3_free_18 hw
-- X3_put
abbrev rmX3_put : Room := { frames := 2, cells := 0, slots := 0, locals := 44 }
set_option maxHeartbeats 4000000 in
set_option maxRecDepth 100000 in
theorem c_X3_put (l : Launch) (D : va_G) (g : Nat → Nat) (k : xC) (mw : Nat → Int32) (mk : Nat → Int32) (ml : Nat → Int32) (mq : Nat → Int32) (mwt : Nat → Int32) (mn : Int32) (mt : Int32) (mcl : Int32) (mcr : Int32) (mth : Int32) (mkind : Nat → Int32) (msort : Nat → Int32) (mfirst : Nat → Int32) (mblk : Nat → Int32) (mfree : Nat → Int32) (mfnd : Nat → Int32) (mfm : Int32) (msn : Nat → Int32) (x1 : Int32) (x2 : Int32) (x3 : Int32) (post : Int32 → (Nat → Int32) → (Nat → Int32) → (Nat → Int32) → Int32 → Int32 → Int32 → Prop) (hw : wX3_put post mw ml mq mwt mn mt mth x1 x2 x3) : CMi l yX3_put wsX3_put rmX3_put D k [.ref (g 0), .int x1, .int x2, .int x3] (fun v : (Nat → Int32) × (Nat → Int32) × (Nat → Int32) × Int32 × Int32 × Int32 => (xM g k (v.1) mk ml (v.2.1) (v.2.2.1) (v.2.2.2.1) (v.2.2.2.2.1) mcl mcr (v.2.2.2.2.2) mkind msort mfirst mblk mfree mfnd mfm msn)) (mw, mq, mwt, mn, mt, mth) (fun r v => post r (v.1) (v.2.1) (v.2.2.1) (v.2.2.2.1) (v.2.2.2.2.1) (v.2.2.2.2.2)) := by
  refine met_mz (cc := cX3_put) (nL := 4) (by decide) rfl (Nat.le_of_ble_eq_true rfl) ?_
  intro p e s m args below meth c Q A ls hC hP hD hA hK hZ hS hl hret
  obtain ⟨hx, hb, hml, hown, hts⟩ := id hC
  have hC : CallFix p m c cX3_put 4 s args wsX3_put RX3 := hC
  have hown : s.vm.findClass RX3 = some m.cls := hown
  have hl : lv_has ls 4 [(0, .ref (g 0)), (1, .int x1), (2, .int x2), (3, .int x3)] := hl
  have hP : va_P D vwCl (xM g k mw mk ml mq mwt mn mt mcl mcr mth mkind msort mfirst mblk mfree mfnd mfm msn) s.heap := hP
  have hD : va_D A (xM g k mw mk ml mq mwt mn mt mcl mcr mth mkind msort mfirst mblk mfree mfnd mfm msn) := hD
  have hinX3 : ∀ w ∈ wsX30, w ∈ wsX3_put := fun _ h => List.mem_cons_of_mem _ (List.mem_append_right _ h)
  have B33 : ∀ (mw : Nat → Int32), ∀ (mq : Nat → Int32), ∀ (mwt : Nat → Int32), ∀ (mn : Int32), ∀ (mt : Int32), ∀ (mth : Int32), ∀ (H : Heap) (locs : List Loc), va_P D vwCl (xM g k mw mk ml mq mwt mn mt mcl mcr mth mkind msort mfirst mblk mfree mfnd mfm msn) H → va_D A (xM g k mw mk ml mq mwt mn mt mcl mcr mth mkind msort mfirst mblk mfree mfnd mfm msn) → va_S A s.heap H locs → ∀ (ls : Array Slot), lv_has ls 4 [(0, .ref (g 0))] → wX3_put_33 post ml mw mq mwt mn mt mth → W p l e rmX3_put s m args below meth c H locs 0 0 Q (F0 m 33 ls []) := by
    intro  mw mq mwt mn mt mth H locs hP hD hS ls hl hw
    unfold wX3_put_33 at hw
    refine lv_aload_n hx hb dX3_put_33 rfl (lv_at hl 0 rfl) ?_
    refine lv_iconst (v := 2) hx hb dX3_put_34 (by decide) ?_
    refine icall (wr := []) (va_runV (As := [.int 2]) (rest := []) hC (c_X3_not l D g k mw mk ml mq mwt mn mt mcl mcr mth mkind msort mfirst mblk mfree mfnd mfm msn 2 _ hw H.size) (cwV 1 hts gX3_put_X3_not rfl rfl rfl (by decide +kernel) ⟨Nat.le_of_ble_eq_true rfl, Nat.le_of_ble_eq_true rfl⟩) (preV_m (va_recv hK hP (ci := 3) (q0 := 0) rfl rfl) hP hD hA hK hZ hS [0, 1, 2, 3, 4, 5, 6, 7, 8, 9, 10, 11, 12] rfl rfl (by decide)) rfl rfl hl.1 rfl (lv_room (Nat.le_of_ble_eq_true rfl)) dX3_put_35 ⟨Nat.le_of_ble_eq_true rfl, Nat.le_of_ble_eq_true rfl⟩) hP hD hA hS [0, 1, 2, 3, 4, 5, 6, 7, 8, 9, 10, 11, 12] [] rfl rfl (by decide) (by decide) (fun r_4 u' H locs hw hP hD hS => ?_)
    obtain ⟨mt_3, rfl⟩ : ∃ z, z = u' := ⟨_, rfl⟩
    try dsimp only at hw
    have hP : va_P D vwCl (xM g k mw mk ml mq mwt mn mt_3 mcl mcr mth mkind msort mfirst mblk mfree mfnd mfm msn) H := hP
    have hD : va_D A (xM g k mw mk ml mq mwt mn mt_3 mcl mcr mth mkind msort mfirst mblk mfree mfnd mfm msn) := hD
    obtain ⟨h_5, hw⟩ := hw
    exact hret _ _ _ (mw, mq, mwt, mn, mt_3, mth) _ _ hP hD hS dX3_put_38 h_5 hw
  unfold wX3_put at hw
  suffices main : ∀ (H : Heap) (locs : List Loc), va_P D vwCl (xM g k mw mk ml mq mwt mn mt mcl mcr mth mkind msort mfirst mblk mfree mfnd mfm msn) H → va_D A (xM g k mw mk ml mq mwt mn mt mcl mcr mth mkind msort mfirst mblk mfree mfnd mfm msn) → va_S A s.heap H locs → W p l e rmX3_put s m args below meth c H locs 0 0 Q (F0 m 0 ls []) from main _ _ hP hD hS
  intro H locs hP hD hS
  refine lv_aload_n hx hb dX3_put_0 rfl (lv_at hl 0 rfl) ?_
  refine lv_iconst (v := 0) hx hb dX3_put_1 (by decide) ?_
  refine va_put (D := D) (ci := 3) (v := .int 0) (ty := .int) (C := RX3) (T := TX3) (N := 18) hx hb hts hinX3 tyX3 tyX3_ok nmX3 hown hK hP hD hS 0 rfl rfl 9 (by decide) (hts (.fieldLink RX3 47 "SlabHeapModel" "thrown" "I") (by decide +kernel)) (fun _ h9 => h9) rfl (by decide +kernel) rfl rfl (Nat.le_of_ble_eq_true rfl) dX3_put_2 (fun H locs hP hD hS => ?_)
  have hP : va_P D vwCl (xM g k mw mk ml mq mwt mn mt mcl mcr 0 mkind msort mfirst mblk mfree mfnd mfm msn) H := hP
  have hD : va_D A (xM g k mw mk ml mq mwt mn mt mcl mcr 0 mkind msort mfirst mblk mfree mfnd mfm msn) := hD
  refine lv_aload_n hx hb dX3_put_5 rfl (lv_at hl 0 rfl) ?_
  refine lv_iload_n hx hb dX3_put_6 rfl (lv_at hl 1 rfl) ?_
  refine pcall (va_runV (As := [.int x1]) (rest := []) hC (c_X3_isBlock l D g k mw mk ml mq mwt mn mt mcl mcr 0 mkind msort mfirst mblk mfree mfnd mfm msn x1 _ hw H) (cwV 1 hts gX3_put_X3_isBlock rfl rfl rfl (by decide +kernel) ⟨Nat.le_of_ble_eq_true rfl, Nat.le_of_ble_eq_true rfl⟩) (preV_p (va_recv hK hP (ci := 3) (q0 := 0) rfl rfl) hP hK hZ hS) rfl rfl hl.1 rfl (lv_room (Nat.le_of_ble_eq_true rfl)) dX3_put_7 ⟨Nat.le_of_ble_eq_true rfl, Nat.le_of_ble_eq_true rfl⟩) (fun r_1 hw => ?_)
  refine lv_if_eq (tgt := 33) hx hb dX3_put_10 (by decide) (fun c_2 => ?_) (fun c_2 => ?_)
  · have hw := hw.1 c_2
    exact B33  mw mq mwt mn mt 0 H locs hP hD hS ls (lv_sub hl [0] rfl) hw
  · have hw := hw.2 c_2
    refine lv_aload_n hx hb dX3_put_13 rfl (lv_at hl 0 rfl) ?_
    refine lv_iload_n hx hb dX3_put_14 rfl (lv_at hl 2 rfl) ?_
    refine lv_aload_n hx hb dX3_put_15 rfl (lv_at hl 0 rfl) ?_
    refine lv_iload_n hx hb dX3_put_16 rfl (lv_at hl 1 rfl) ?_
    refine pcall (va_runV (As := [.int x1]) (rest := [.int x2, .ref (g 0)]) hC (c_X3_refsAt l D g k mw mk ml mq mwt mn mt mcl mcr 0 mkind msort mfirst mblk mfree mfnd mfm msn x1 _ hw H) (cwV 1 hts gX3_put_X3_refsAt rfl rfl rfl (by decide +kernel) ⟨Nat.le_of_ble_eq_true rfl, Nat.le_of_ble_eq_true rfl⟩) (preV_p (va_recv hK hP (ci := 3) (q0 := 0) rfl rfl) hP hK hZ hS) rfl rfl hl.1 rfl (lv_room (Nat.le_of_ble_eq_true rfl)) dX3_put_17 ⟨Nat.le_of_ble_eq_true rfl, Nat.le_of_ble_eq_true rfl⟩) (fun r_6 hw => ?_)
    refine lv_aload_n hx hb dX3_put_20 rfl (lv_at hl 0 rfl) ?_
    refine lv_iload_n hx hb dX3_put_21 rfl (lv_at hl 1 rfl) ?_
    refine pcall (va_runV (As := [.int x1]) (rest := [.int r_6, .int x2, .ref (g 0)]) hC (c_X3_sizeAt l D g k mw mk ml mq mwt mn mt mcl mcr 0 mkind msort mfirst mblk mfree mfnd mfm msn x1 _ hw H) (cwV 1 hts gX3_put_X3_sizeAt rfl rfl rfl (by decide +kernel) ⟨Nat.le_of_ble_eq_true rfl, Nat.le_of_ble_eq_true rfl⟩) (preV_p (va_recv hK hP (ci := 3) (q0 := 0) rfl rfl) hP hK hZ hS) rfl rfl hl.1 rfl (lv_room (Nat.le_of_ble_eq_true rfl)) dX3_put_22 ⟨Nat.le_of_ble_eq_true rfl, Nat.le_of_ble_eq_true rfl⟩) (fun r_7 hw => ?_)
    refine lv_iconst (v := 1) hx hb dX3_put_25 (by decide) ?_
    refine lv_isub hx hb dX3_put_26 ?_
    refine pcall (va_runV (As := [.int x2, .int r_6, .int (r_7 - 1)]) (rest := []) hC (c_X3_is l D g k mw mk ml mq mwt mn mt mcl mcr 0 mkind msort mfirst mblk mfree mfnd mfm msn x2 r_6 (r_7 - 1) _ hw H) (cwV 3 hts gX3_put_X3_is rfl rfl rfl (by decide +kernel) ⟨Nat.le_of_ble_eq_true rfl, Nat.le_of_ble_eq_true rfl⟩) (preV_p (va_recv hK hP (ci := 3) (q0 := 0) rfl rfl) hP hK hZ hS) rfl rfl hl.1 rfl (lv_room (Nat.le_of_ble_eq_true rfl)) dX3_put_27 ⟨Nat.le_of_ble_eq_true rfl, Nat.le_of_ble_eq_true rfl⟩) (fun r_8 hw => ?_)
    refine lv_if_ne (tgt := 39) hx hb dX3_put_30 (by decide) (fun c_9 => ?_) (fun c_9 => ?_)
    · have hw := hw.1 c_9
      refine lv_aload_n hx hb dX3_put_39 rfl (lv_at hl 0 rfl) ?_
      refine lv_iload_n hx hb dX3_put_40 rfl (lv_at hl 1 rfl) ?_
      refine lv_iconst (v := 1) hx hb dX3_put_41 (by decide) ?_
      refine lv_iadd hx hb dX3_put_42 ?_
      refine lv_iload_n hx hb dX3_put_43 rfl (lv_at hl 2 rfl) ?_
      refine lv_iadd hx hb dX3_put_44 ?_
      refine lv_iload_n hx hb dX3_put_45 rfl (lv_at hl 3 rfl) ?_
      refine vcall (wr := []) (va_runV (As := [.int ((x1 + 1) + x2), .int x3]) (rest := []) hC (c_X3_write l D g k mw mk ml mq mwt mn mt mcl mcr 0 mkind msort mfirst mblk mfree mfnd mfm msn ((x1 + 1) + x2) x3 _ hw H.size) (cwV 2 hts gX3_put_X3_write rfl rfl rfl (by decide +kernel) ⟨Nat.le_of_ble_eq_true rfl, Nat.le_of_ble_eq_true rfl⟩) (preV_m (va_recv hK hP (ci := 3) (q0 := 0) rfl rfl) hP hD hA hK hZ hS [0, 1, 2, 3, 4, 5, 6, 7, 8, 9, 10, 11, 12] rfl rfl (by decide)) rfl rfl hl.1 rfl (lv_room (Nat.le_of_ble_eq_true rfl)) dX3_put_46 ⟨Nat.le_of_ble_eq_true rfl, Nat.le_of_ble_eq_true rfl⟩) hP hD hA hS [0, 1, 2, 3, 4, 5, 6, 7, 8, 9, 10, 11, 12] [] rfl rfl (by decide) (by decide) (fun u' H locs hw hP hD hS => ?_)
      obtain ⟨mw_10, mq_11, mwt_12, mn_13⟩ := u'
      try dsimp only at hw
      have hP : va_P D vwCl (xM g k mw_10 mk ml mq_11 mwt_12 mn_13 mt mcl mcr 0 mkind msort mfirst mblk mfree mfnd mfm msn) H := hP
      have hD : va_D A (xM g k mw_10 mk ml mq_11 mwt_12 mn_13 mt mcl mcr 0 mkind msort mfirst mblk mfree mfnd mfm msn) := hD
      refine lv_aload_n hx hb dX3_put_49 rfl (lv_at hl 0 rfl) ?_
      refine lv_iconst (v := 0) hx hb dX3_put_50 (by decide) ?_
      refine va_put (D := D) (ci := 3) (v := .int 0) (ty := .int) (C := RX3) (T := TX3) (N := 18) hx hb hts hinX3 tyX3 tyX3_ok nmX3 hown hK hP hD hS 0 rfl rfl 6 (by decide) (hts (.fieldLink RX3 51 "SlabHeapModel" "trouble" "I") (by decide +kernel)) (fun _ h9 => h9) rfl (by decide +kernel) rfl rfl (Nat.le_of_ble_eq_true rfl) dX3_put_51 (fun H locs hP hD hS => ?_)
      have hP : va_P D vwCl (xM g k mw_10 mk ml mq_11 mwt_12 mn_13 0 mcl mcr 0 mkind msort mfirst mblk mfree mfnd mfm msn) H := hP
      have hD : va_D A (xM g k mw_10 mk ml mq_11 mwt_12 mn_13 0 mcl mcr 0 mkind msort mfirst mblk mfree mfnd mfm msn) := hD
      refine lv_iconst (v := 1) hx hb dX3_put_54 (by decide) ?_
      exact hret _ _ _ (mw_10, mq_11, mwt_12, mn_13, 0, 0) _ _ hP hD hS dX3_put_55 nb_1 hw
    · have hw := hw.2 c_9
      exact B33  mw mq mwt mn mt 0 H locs hP hD hS ls (lv_sub hl [0] rfl) hw
-- X3_refer
abbrev rmX3_refer : Room := { frames := 2, cells := 0, slots := 0, locals := 44 }
set_option maxHeartbeats 4000000 in
set_option maxRecDepth 100000 in
theorem c_X3_refer (l : Launch) (D : va_G) (g : Nat → Nat) (k : xC) (mw : Nat → Int32) (mk : Nat → Int32) (ml : Nat → Int32) (mq : Nat → Int32) (mwt : Nat → Int32) (mn : Int32) (mt : Int32) (mcl : Int32) (mcr : Int32) (mth : Int32) (mkind : Nat → Int32) (msort : Nat → Int32) (mfirst : Nat → Int32) (mblk : Nat → Int32) (mfree : Nat → Int32) (mfnd : Nat → Int32) (mfm : Int32) (msn : Nat → Int32) (x1 : Int32) (x2 : Int32) (x3 : Int32) (post : Int32 → (Nat → Int32) → (Nat → Int32) → (Nat → Int32) → Int32 → Int32 → Int32 → Prop) (hw : wX3_refer post mw ml mq mwt mn mt mth x1 x2 x3) : CMi l yX3_refer wsX3_refer rmX3_refer D k [.ref (g 0), .int x1, .int x2, .int x3] (fun v : (Nat → Int32) × (Nat → Int32) × (Nat → Int32) × Int32 × Int32 × Int32 => (xM g k (v.1) mk ml (v.2.1) (v.2.2.1) (v.2.2.2.1) (v.2.2.2.2.1) mcl mcr (v.2.2.2.2.2) mkind msort mfirst mblk mfree mfnd mfm msn)) (mw, mq, mwt, mn, mt, mth) (fun r v => post r (v.1) (v.2.1) (v.2.2.1) (v.2.2.2.1) (v.2.2.2.2.1) (v.2.2.2.2.2)) := by
  refine met_mz (cc := cX3_refer) (nL := 4) (by decide) rfl (Nat.le_of_ble_eq_true rfl) ?_
  intro p e s m args below meth c Q A ls hC hP hD hA hK hZ hS hl hret
  obtain ⟨hx, hb, hml, hown, hts⟩ := id hC
  have hC : CallFix p m c cX3_refer 4 s args wsX3_refer RX3 := hC
  have hown : s.vm.findClass RX3 = some m.cls := hown
  have hl : lv_has ls 4 [(0, .ref (g 0)), (1, .int x1), (2, .int x2), (3, .int x3)] := hl
  have hP : va_P D vwCl (xM g k mw mk ml mq mwt mn mt mcl mcr mth mkind msort mfirst mblk mfree mfnd mfm msn) s.heap := hP
  have hD : va_D A (xM g k mw mk ml mq mwt mn mt mcl mcr mth mkind msort mfirst mblk mfree mfnd mfm msn) := hD
  have hinX3 : ∀ w ∈ wsX30, w ∈ wsX3_refer := fun _ h => List.mem_cons_of_mem _ (List.mem_append_right _ h)
  have B41 : ∀ (mw : Nat → Int32), ∀ (mq : Nat → Int32), ∀ (mwt : Nat → Int32), ∀ (mn : Int32), ∀ (mt : Int32), ∀ (mth : Int32), ∀ (H : Heap) (locs : List Loc), va_P D vwCl (xM g k mw mk ml mq mwt mn mt mcl mcr mth mkind msort mfirst mblk mfree mfnd mfm msn) H → va_D A (xM g k mw mk ml mq mwt mn mt mcl mcr mth mkind msort mfirst mblk mfree mfnd mfm msn) → va_S A s.heap H locs → ∀ (ls : Array Slot), lv_has ls 4 [(0, .ref (g 0))] → wX3_refer_41 post ml mw mq mwt mn mt mth → W p l e rmX3_refer s m args below meth c H locs 0 0 Q (F0 m 41 ls []) := by
    intro  mw mq mwt mn mt mth H locs hP hD hS ls hl hw
    unfold wX3_refer_41 at hw
    refine lv_aload_n hx hb dX3_refer_41 rfl (lv_at hl 0 rfl) ?_
    refine lv_iconst (v := 2) hx hb dX3_refer_42 (by decide) ?_
    refine icall (wr := []) (va_runV (As := [.int 2]) (rest := []) hC (c_X3_not l D g k mw mk ml mq mwt mn mt mcl mcr mth mkind msort mfirst mblk mfree mfnd mfm msn 2 _ hw H.size) (cwV 1 hts gX3_refer_X3_not rfl rfl rfl (by decide +kernel) ⟨Nat.le_of_ble_eq_true rfl, Nat.le_of_ble_eq_true rfl⟩) (preV_m (va_recv hK hP (ci := 3) (q0 := 0) rfl rfl) hP hD hA hK hZ hS [0, 1, 2, 3, 4, 5, 6, 7, 8, 9, 10, 11, 12] rfl rfl (by decide)) rfl rfl hl.1 rfl (lv_room (Nat.le_of_ble_eq_true rfl)) dX3_refer_43 ⟨Nat.le_of_ble_eq_true rfl, Nat.le_of_ble_eq_true rfl⟩) hP hD hA hS [0, 1, 2, 3, 4, 5, 6, 7, 8, 9, 10, 11, 12] [] rfl rfl (by decide) (by decide) (fun r_4 u' H locs hw hP hD hS => ?_)
    obtain ⟨mt_3, rfl⟩ : ∃ z, z = u' := ⟨_, rfl⟩
    try dsimp only at hw
    have hP : va_P D vwCl (xM g k mw mk ml mq mwt mn mt_3 mcl mcr mth mkind msort mfirst mblk mfree mfnd mfm msn) H := hP
    have hD : va_D A (xM g k mw mk ml mq mwt mn mt_3 mcl mcr mth mkind msort mfirst mblk mfree mfnd mfm msn) := hD
    obtain ⟨h_5, hw⟩ := hw
    exact hret _ _ _ (mw, mq, mwt, mn, mt_3, mth) _ _ hP hD hS dX3_refer_46 h_5 hw
  have B47 : ∀ (x1 : Int32), ∀ (x2 : Int32), ∀ (x3 : Int32), ∀ (mw : Nat → Int32), ∀ (mq : Nat → Int32), ∀ (mwt : Nat → Int32), ∀ (mn : Int32), ∀ (mt : Int32), ∀ (mth : Int32), ∀ (H : Heap) (locs : List Loc), va_P D vwCl (xM g k mw mk ml mq mwt mn mt mcl mcr mth mkind msort mfirst mblk mfree mfnd mfm msn) H → va_D A (xM g k mw mk ml mq mwt mn mt mcl mcr mth mkind msort mfirst mblk mfree mfnd mfm msn) → va_S A s.heap H locs → ∀ (ls : Array Slot), lv_has ls 4 [(0, .ref (g 0)), (1, .int x1), (2, .int x2), (3, .int x3)] → wX3_refer_47 post ml x1 x2 x3 mw mq mwt mn mt mth → W p l e rmX3_refer s m args below meth c H locs 0 0 Q (F0 m 47 ls []) := by
    intro  x1 x2 x3 mw mq mwt mn mt mth H locs hP hD hS ls hl hw
    unfold wX3_refer_47 at hw
    refine lv_aload_n hx hb dX3_refer_47 rfl (lv_at hl 0 rfl) ?_
    refine lv_iload_n hx hb dX3_refer_48 rfl (lv_at hl 1 rfl) ?_
    refine lv_iconst (v := 1) hx hb dX3_refer_49 (by decide) ?_
    refine lv_iadd hx hb dX3_refer_50 ?_
    refine lv_iload_n hx hb dX3_refer_51 rfl (lv_at hl 2 rfl) ?_
    refine lv_iadd hx hb dX3_refer_52 ?_
    refine lv_iload_n hx hb dX3_refer_53 rfl (lv_at hl 3 rfl) ?_
    refine vcall (wr := []) (va_runV (As := [.int ((x1 + 1) + x2), .int x3]) (rest := []) hC (c_X3_write l D g k mw mk ml mq mwt mn mt mcl mcr mth mkind msort mfirst mblk mfree mfnd mfm msn ((x1 + 1) + x2) x3 _ hw H.size) (cwV 2 hts gX3_refer_X3_write rfl rfl rfl (by decide +kernel) ⟨Nat.le_of_ble_eq_true rfl, Nat.le_of_ble_eq_true rfl⟩) (preV_m (va_recv hK hP (ci := 3) (q0 := 0) rfl rfl) hP hD hA hK hZ hS [0, 1, 2, 3, 4, 5, 6, 7, 8, 9, 10, 11, 12] rfl rfl (by decide)) rfl rfl hl.1 rfl (lv_room (Nat.le_of_ble_eq_true rfl)) dX3_refer_54 ⟨Nat.le_of_ble_eq_true rfl, Nat.le_of_ble_eq_true rfl⟩) hP hD hA hS [0, 1, 2, 3, 4, 5, 6, 7, 8, 9, 10, 11, 12] [] rfl rfl (by decide) (by decide) (fun u' H locs hw hP hD hS => ?_)
    obtain ⟨mw_10, mq_11, mwt_12, mn_13⟩ := u'
    try dsimp only at hw
    have hP : va_P D vwCl (xM g k mw_10 mk ml mq_11 mwt_12 mn_13 mt mcl mcr mth mkind msort mfirst mblk mfree mfnd mfm msn) H := hP
    have hD : va_D A (xM g k mw_10 mk ml mq_11 mwt_12 mn_13 mt mcl mcr mth mkind msort mfirst mblk mfree mfnd mfm msn) := hD
    refine lv_aload_n hx hb dX3_refer_57 rfl (lv_at hl 0 rfl) ?_
    refine lv_iconst (v := 0) hx hb dX3_refer_58 (by decide) ?_
    refine va_put (D := D) (ci := 3) (v := .int 0) (ty := .int) (C := RX3) (T := TX3) (N := 18) hx hb hts hinX3 tyX3 tyX3_ok nmX3 hown hK hP hD hS 0 rfl rfl 6 (by decide) (hts (.fieldLink RX3 51 "SlabHeapModel" "trouble" "I") (by decide +kernel)) (fun _ h9 => h9) rfl (by decide +kernel) rfl rfl (Nat.le_of_ble_eq_true rfl) dX3_refer_59 (fun H locs hP hD hS => ?_)
    have hP : va_P D vwCl (xM g k mw_10 mk ml mq_11 mwt_12 mn_13 0 mcl mcr mth mkind msort mfirst mblk mfree mfnd mfm msn) H := hP
    have hD : va_D A (xM g k mw_10 mk ml mq_11 mwt_12 mn_13 0 mcl mcr mth mkind msort mfirst mblk mfree mfnd mfm msn) := hD
    refine lv_iconst (v := 1) hx hb dX3_refer_62 (by decide) ?_
    exact hret _ _ _ (mw_10, mq_11, mwt_12, mn_13, 0, mth) _ _ hP hD hS dX3_refer_63 nb_1 hw
  unfold wX3_refer at hw
  suffices main : ∀ (H : Heap) (locs : List Loc), va_P D vwCl (xM g k mw mk ml mq mwt mn mt mcl mcr mth mkind msort mfirst mblk mfree mfnd mfm msn) H → va_D A (xM g k mw mk ml mq mwt mn mt mcl mcr mth mkind msort mfirst mblk mfree mfnd mfm msn) → va_S A s.heap H locs → W p l e rmX3_refer s m args below meth c H locs 0 0 Q (F0 m 0 ls []) from main _ _ hP hD hS
  intro H locs hP hD hS
  refine lv_aload_n hx hb dX3_refer_0 rfl (lv_at hl 0 rfl) ?_
  refine lv_iconst (v := 0) hx hb dX3_refer_1 (by decide) ?_
  refine va_put (D := D) (ci := 3) (v := .int 0) (ty := .int) (C := RX3) (T := TX3) (N := 18) hx hb hts hinX3 tyX3 tyX3_ok nmX3 hown hK hP hD hS 0 rfl rfl 9 (by decide) (hts (.fieldLink RX3 47 "SlabHeapModel" "thrown" "I") (by decide +kernel)) (fun _ h9 => h9) rfl (by decide +kernel) rfl rfl (Nat.le_of_ble_eq_true rfl) dX3_refer_2 (fun H locs hP hD hS => ?_)
  have hP : va_P D vwCl (xM g k mw mk ml mq mwt mn mt mcl mcr 0 mkind msort mfirst mblk mfree mfnd mfm msn) H := hP
  have hD : va_D A (xM g k mw mk ml mq mwt mn mt mcl mcr 0 mkind msort mfirst mblk mfree mfnd mfm msn) := hD
  refine lv_aload_n hx hb dX3_refer_5 rfl (lv_at hl 0 rfl) ?_
  refine lv_iload_n hx hb dX3_refer_6 rfl (lv_at hl 1 rfl) ?_
  refine pcall (va_runV (As := [.int x1]) (rest := []) hC (c_X3_isBlock l D g k mw mk ml mq mwt mn mt mcl mcr 0 mkind msort mfirst mblk mfree mfnd mfm msn x1 _ hw H) (cwV 1 hts gX3_refer_X3_isBlock rfl rfl rfl (by decide +kernel) ⟨Nat.le_of_ble_eq_true rfl, Nat.le_of_ble_eq_true rfl⟩) (preV_p (va_recv hK hP (ci := 3) (q0 := 0) rfl rfl) hP hK hZ hS) rfl rfl hl.1 rfl (lv_room (Nat.le_of_ble_eq_true rfl)) dX3_refer_7 ⟨Nat.le_of_ble_eq_true rfl, Nat.le_of_ble_eq_true rfl⟩) (fun r_1 hw => ?_)
  refine lv_if_eq (tgt := 41) hx hb dX3_refer_10 (by decide) (fun c_2 => ?_) (fun c_2 => ?_)
  · have hw := hw.1 c_2
    exact B41  mw mq mwt mn mt 0 H locs hP hD hS ls (lv_sub hl [0] rfl) hw
  · have hw := hw.2 c_2
    refine lv_aload_n hx hb dX3_refer_13 rfl (lv_at hl 0 rfl) ?_
    refine lv_iload_n hx hb dX3_refer_14 rfl (lv_at hl 2 rfl) ?_
    refine lv_iconst (v := 0) hx hb dX3_refer_15 (by decide) ?_
    refine lv_aload_n hx hb dX3_refer_16 rfl (lv_at hl 0 rfl) ?_
    refine lv_iload_n hx hb dX3_refer_17 rfl (lv_at hl 1 rfl) ?_
    refine pcall (va_runV (As := [.int x1]) (rest := [.int 0, .int x2, .ref (g 0)]) hC (c_X3_refsAt l D g k mw mk ml mq mwt mn mt mcl mcr 0 mkind msort mfirst mblk mfree mfnd mfm msn x1 _ hw H) (cwV 1 hts gX3_refer_X3_refsAt rfl rfl rfl (by decide +kernel) ⟨Nat.le_of_ble_eq_true rfl, Nat.le_of_ble_eq_true rfl⟩) (preV_p (va_recv hK hP (ci := 3) (q0 := 0) rfl rfl) hP hK hZ hS) rfl rfl hl.1 rfl (lv_room (Nat.le_of_ble_eq_true rfl)) dX3_refer_18 ⟨Nat.le_of_ble_eq_true rfl, Nat.le_of_ble_eq_true rfl⟩) (fun r_6 hw => ?_)
    refine lv_iconst (v := 1) hx hb dX3_refer_21 (by decide) ?_
    refine lv_isub hx hb dX3_refer_22 ?_
    refine pcall (va_runV (As := [.int x2, .int 0, .int (r_6 - 1)]) (rest := []) hC (c_X3_is l D g k mw mk ml mq mwt mn mt mcl mcr 0 mkind msort mfirst mblk mfree mfnd mfm msn x2 0 (r_6 - 1) _ hw H) (cwV 3 hts gX3_refer_X3_is rfl rfl rfl (by decide +kernel) ⟨Nat.le_of_ble_eq_true rfl, Nat.le_of_ble_eq_true rfl⟩) (preV_p (va_recv hK hP (ci := 3) (q0 := 0) rfl rfl) hP hK hZ hS) rfl rfl hl.1 rfl (lv_room (Nat.le_of_ble_eq_true rfl)) dX3_refer_23 ⟨Nat.le_of_ble_eq_true rfl, Nat.le_of_ble_eq_true rfl⟩) (fun r_7 hw => ?_)
    refine lv_if_eq (tgt := 41) hx hb dX3_refer_26 (by decide) (fun c_8 => ?_) (fun c_8 => ?_)
    · have hw := hw.1 c_8
      exact B41  mw mq mwt mn mt 0 H locs hP hD hS ls (lv_sub hl [0] rfl) hw
    · have hw := hw.2 c_8
      refine lv_iload_n hx hb dX3_refer_29 rfl (lv_at hl 3 rfl) ?_
      refine lv_if_eq (tgt := 47) hx hb dX3_refer_30 (by decide) (fun c_9 => ?_) (fun c_9 => ?_)
      · have hw := hw.1 c_9
        exact B47  x1 x2 x3 mw mq mwt mn mt 0 H locs hP hD hS ls (lv_sub hl [0, 1, 2, 3] rfl) hw
      · have hw := hw.2 c_9
        refine lv_aload_n hx hb dX3_refer_33 rfl (lv_at hl 0 rfl) ?_
        refine lv_iload_n hx hb dX3_refer_34 rfl (lv_at hl 3 rfl) ?_
        refine pcall (va_runV (As := [.int x3]) (rest := []) hC (c_X3_isBlock l D g k mw mk ml mq mwt mn mt mcl mcr 0 mkind msort mfirst mblk mfree mfnd mfm msn x3 _ hw H) (cwV 1 hts gX3_refer_X3_isBlock rfl rfl rfl (by decide +kernel) ⟨Nat.le_of_ble_eq_true rfl, Nat.le_of_ble_eq_true rfl⟩) (preV_p (va_recv hK hP (ci := 3) (q0 := 0) rfl rfl) hP hK hZ hS) rfl rfl hl.1 rfl (lv_room (Nat.le_of_ble_eq_true rfl)) dX3_refer_35 ⟨Nat.le_of_ble_eq_true rfl, Nat.le_of_ble_eq_true rfl⟩) (fun r_14 hw => ?_)
        refine lv_if_ne (tgt := 47) hx hb dX3_refer_38 (by decide) (fun c_15 => ?_) (fun c_15 => ?_)
        · have hw := hw.1 c_15
          exact B47  x1 x2 x3 mw mq mwt mn mt 0 H locs hP hD hS ls (lv_sub hl [0, 1, 2, 3] rfl) hw
        · have hw := hw.2 c_15
          exact B41  mw mq mwt mn mt 0 H locs hP hD hS ls (lv_sub hl [0] rfl) hw
-- X3_get
abbrev rmX3_get : Room := { frames := 2, cells := 0, slots := 0, locals := 44 }
set_option maxHeartbeats 4000000 in
set_option maxRecDepth 100000 in
theorem c_X3_get (l : Launch) (D : va_G) (g : Nat → Nat) (k : xC) (mw : Nat → Int32) (mk : Nat → Int32) (ml : Nat → Int32) (mq : Nat → Int32) (mwt : Nat → Int32) (mn : Int32) (mt : Int32) (mcl : Int32) (mcr : Int32) (mth : Int32) (mkind : Nat → Int32) (msort : Nat → Int32) (mfirst : Nat → Int32) (mblk : Nat → Int32) (mfree : Nat → Int32) (mfnd : Nat → Int32) (mfm : Int32) (msn : Nat → Int32) (x1 : Int32) (x2 : Int32) (post : Int32 → Int32 → Prop) (hw : wX3_get post mw ml mth x1 x2) : CMi l yX3_get wsX3_get rmX3_get D k [.ref (g 0), .int x1, .int x2] (fun v : Int32 => (xM g k mw mk ml mq mwt mn mt mcl mcr v mkind msort mfirst mblk mfree mfnd mfm msn)) mth (fun r v => post r v) := by
  refine met_mi (cc := cX3_get) (nL := 3) (by decide) rfl (Nat.le_of_ble_eq_true rfl) ?_
  intro p e s m args below meth c Q A ls hC hP hD hA hK hZ hS hl hret
  obtain ⟨hx, hb, hml, hown, hts⟩ := id hC
  have hC : CallFix p m c cX3_get 3 s args wsX3_get RX3 := hC
  have hown : s.vm.findClass RX3 = some m.cls := hown
  have hl : lv_has ls 3 [(0, .ref (g 0)), (1, .int x1), (2, .int x2)] := hl
  have hP : va_P D vwCl (xM g k mw mk ml mq mwt mn mt mcl mcr mth mkind msort mfirst mblk mfree mfnd mfm msn) s.heap := hP
  have hD : va_D A (xM g k mw mk ml mq mwt mn mt mcl mcr mth mkind msort mfirst mblk mfree mfnd mfm msn) := hD
  have hinX3 : ∀ w ∈ wsX30, w ∈ wsX3_get := fun _ h => List.mem_cons_of_mem _ (List.mem_append_right _ h)
  unfold wX3_get at hw
  suffices main : ∀ (H : Heap) (locs : List Loc), va_P D vwCl (xM g k mw mk ml mq mwt mn mt mcl mcr mth mkind msort mfirst mblk mfree mfnd mfm msn) H → va_D A (xM g k mw mk ml mq mwt mn mt mcl mcr mth mkind msort mfirst mblk mfree mfnd mfm msn) → va_S A s.heap H locs → W p l e rmX3_get s m args below meth c H locs 0 0 Q (F0 m 0 ls []) from main _ _ hP hD hS
  intro H locs hP hD hS
  refine lv_aload_n hx hb dX3_get_0 rfl (lv_at hl 0 rfl) ?_
  refine lv_iconst (v := 0) hx hb dX3_get_1 (by decide) ?_
  refine va_put (D := D) (ci := 3) (v := .int 0) (ty := .int) (C := RX3) (T := TX3) (N := 18) hx hb hts hinX3 tyX3 tyX3_ok nmX3 hown hK hP hD hS 0 rfl rfl 9 (by decide) (hts (.fieldLink RX3 47 "SlabHeapModel" "thrown" "I") (by decide +kernel)) (fun _ h9 => h9) rfl (by decide +kernel) rfl rfl (Nat.le_of_ble_eq_true rfl) dX3_get_2 (fun H locs hP hD hS => ?_)
  have hP : va_P D vwCl (xM g k mw mk ml mq mwt mn mt mcl mcr 0 mkind msort mfirst mblk mfree mfnd mfm msn) H := hP
  have hD : va_D A (xM g k mw mk ml mq mwt mn mt mcl mcr 0 mkind msort mfirst mblk mfree mfnd mfm msn) := hD
  refine lv_aload_n hx hb dX3_get_5 rfl (lv_at hl 0 rfl) ?_
  refine lv_iload_n hx hb dX3_get_6 rfl (lv_at hl 1 rfl) ?_
  refine pcall (va_runV (As := [.int x1]) (rest := []) hC (c_X3_isBlock l D g k mw mk ml mq mwt mn mt mcl mcr 0 mkind msort mfirst mblk mfree mfnd mfm msn x1 _ hw H) (cwV 1 hts gX3_get_X3_isBlock rfl rfl rfl (by decide +kernel) ⟨Nat.le_of_ble_eq_true rfl, Nat.le_of_ble_eq_true rfl⟩) (preV_p (va_recv hK hP (ci := 3) (q0 := 0) rfl rfl) hP hK hZ hS) rfl rfl hl.1 rfl (lv_room (Nat.le_of_ble_eq_true rfl)) dX3_get_7 ⟨Nat.le_of_ble_eq_true rfl, Nat.le_of_ble_eq_true rfl⟩) (fun r_1 hw => ?_)
  refine lv_if_eq (tgt := 42) hx hb dX3_get_10 (by decide) (fun c_2 => ?_) (fun c_2 => ?_)
  · have hw := hw.1 c_2
    refine lv_iconst (v := 0) hx hb dX3_get_42 (by decide) ?_
    exact hret _ _ _ 0 _ _ hP hD hS dX3_get_43 hw
  · have hw := hw.2 c_2
    refine lv_aload_n hx hb dX3_get_13 rfl (lv_at hl 0 rfl) ?_
    refine lv_iload_n hx hb dX3_get_14 rfl (lv_at hl 2 rfl) ?_
    refine lv_iconst (v := 0) hx hb dX3_get_15 (by decide) ?_
    refine lv_aload_n hx hb dX3_get_16 rfl (lv_at hl 0 rfl) ?_
    refine lv_iload_n hx hb dX3_get_17 rfl (lv_at hl 1 rfl) ?_
    refine pcall (va_runV (As := [.int x1]) (rest := [.int 0, .int x2, .ref (g 0)]) hC (c_X3_sizeAt l D g k mw mk ml mq mwt mn mt mcl mcr 0 mkind msort mfirst mblk mfree mfnd mfm msn x1 _ hw H) (cwV 1 hts gX3_get_X3_sizeAt rfl rfl rfl (by decide +kernel) ⟨Nat.le_of_ble_eq_true rfl, Nat.le_of_ble_eq_true rfl⟩) (preV_p (va_recv hK hP (ci := 3) (q0 := 0) rfl rfl) hP hK hZ hS) rfl rfl hl.1 rfl (lv_room (Nat.le_of_ble_eq_true rfl)) dX3_get_18 ⟨Nat.le_of_ble_eq_true rfl, Nat.le_of_ble_eq_true rfl⟩) (fun r_3 hw => ?_)
    refine lv_iconst (v := 1) hx hb dX3_get_21 (by decide) ?_
    refine lv_isub hx hb dX3_get_22 ?_
    refine pcall (va_runV (As := [.int x2, .int 0, .int (r_3 - 1)]) (rest := []) hC (c_X3_is l D g k mw mk ml mq mwt mn mt mcl mcr 0 mkind msort mfirst mblk mfree mfnd mfm msn x2 0 (r_3 - 1) _ hw H) (cwV 3 hts gX3_get_X3_is rfl rfl rfl (by decide +kernel) ⟨Nat.le_of_ble_eq_true rfl, Nat.le_of_ble_eq_true rfl⟩) (preV_p (va_recv hK hP (ci := 3) (q0 := 0) rfl rfl) hP hK hZ hS) rfl rfl hl.1 rfl (lv_room (Nat.le_of_ble_eq_true rfl)) dX3_get_23 ⟨Nat.le_of_ble_eq_true rfl, Nat.le_of_ble_eq_true rfl⟩) (fun r_4 hw => ?_)
    refine lv_if_eq (tgt := 42) hx hb dX3_get_26 (by decide) (fun c_5 => ?_) (fun c_5 => ?_)
    · have hw := hw.1 c_5
      refine lv_iconst (v := 0) hx hb dX3_get_42 (by decide) ?_
      exact hret _ _ _ 0 _ _ hP hD hS dX3_get_43 hw
    · have hw := hw.2 c_5
      refine lv_aload_n hx hb dX3_get_29 rfl (lv_at hl 0 rfl) ?_
      refine va_get (D := D) (ci := 3) (v := .ref (g 1)) (C := RX3) (T := TX3) (N := 18) hx hb hts hinX3 hown hK hP 0 rfl rfl 0 (by decide) (hts (.fieldLink RX3 7 "SlabHeapModel" "words" "[I") (by decide +kernel)) (fun _ h9 => h9) rfl dX3_get_30 ?_
      refine lv_iload_n hx hb dX3_get_33 rfl (lv_at hl 1 rfl) ?_
      refine lv_iconst (v := 1) hx hb dX3_get_34 (by decide) ?_
      refine lv_iadd hx hb dX3_get_35 ?_
      refine lv_iload_n hx hb dX3_get_36 rfl (lv_at hl 2 rfl) ?_
      refine lv_iadd hx hb dX3_get_37 ?_
      obtain ⟨h_6, hw⟩ := hw
      refine va_iald hx hb hK hP 1 0 rfl rfl h_6 dX3_get_38 ?_
      refine lv_goto (tgt := 43) hx hb dX3_get_39 (by decide) ?_
      exact hret _ _ _ 0 _ _ hP hD hS dX3_get_43 hw
-- X3_root
abbrev rmX3_root : Room := { frames := 2, cells := 0, slots := 0, locals := 44 }
set_option maxHeartbeats 4000000 in
set_option maxRecDepth 100000 in
theorem c_X3_root (l : Launch) (D : va_G) (g : Nat → Nat) (k : xC) (mw : Nat → Int32) (mk : Nat → Int32) (ml : Nat → Int32) (mq : Nat → Int32) (mwt : Nat → Int32) (mn : Int32) (mt : Int32) (mcl : Int32) (mcr : Int32) (mth : Int32) (mkind : Nat → Int32) (msort : Nat → Int32) (mfirst : Nat → Int32) (mblk : Nat → Int32) (mfree : Nat → Int32) (mfnd : Nat → Int32) (mfm : Int32) (msn : Nat → Int32) (x1 : Int32) (x2 : Int32) (post : Int32 → (Nat → Int32) → (Nat → Int32) → (Nat → Int32) → Int32 → Int32 → Int32 → Prop) (hw : wX3_root post mw ml mq mwt mn mt mth x1 x2) : CMi l yX3_root wsX3_root rmX3_root D k [.ref (g 0), .int x1, .int x2] (fun v : (Nat → Int32) × (Nat → Int32) × (Nat → Int32) × Int32 × Int32 × Int32 => (xM g k (v.1) mk ml (v.2.1) (v.2.2.1) (v.2.2.2.1) (v.2.2.2.2.1) mcl mcr (v.2.2.2.2.2) mkind msort mfirst mblk mfree mfnd mfm msn)) (mw, mq, mwt, mn, mt, mth) (fun r v => post r (v.1) (v.2.1) (v.2.2.1) (v.2.2.2.1) (v.2.2.2.2.1) (v.2.2.2.2.2)) := by
  refine met_mz (cc := cX3_root) (nL := 3) (by decide) rfl (Nat.le_of_ble_eq_true rfl) ?_
  intro p e s m args below meth c Q A ls hC hP hD hA hK hZ hS hl hret
  obtain ⟨hx, hb, hml, hown, hts⟩ := id hC
  have hC : CallFix p m c cX3_root 3 s args wsX3_root RX3 := hC
  have hown : s.vm.findClass RX3 = some m.cls := hown
  have hl : lv_has ls 3 [(0, .ref (g 0)), (1, .int x1), (2, .int x2)] := hl
  have hP : va_P D vwCl (xM g k mw mk ml mq mwt mn mt mcl mcr mth mkind msort mfirst mblk mfree mfnd mfm msn) s.heap := hP
  have hD : va_D A (xM g k mw mk ml mq mwt mn mt mcl mcr mth mkind msort mfirst mblk mfree mfnd mfm msn) := hD
  have hinX3 : ∀ w ∈ wsX30, w ∈ wsX3_root := fun _ h => List.mem_cons_of_mem _ (List.mem_append_right _ h)
  have B28 : ∀ (mw : Nat → Int32), ∀ (mq : Nat → Int32), ∀ (mwt : Nat → Int32), ∀ (mn : Int32), ∀ (mt : Int32), ∀ (mth : Int32), ∀ (H : Heap) (locs : List Loc), va_P D vwCl (xM g k mw mk ml mq mwt mn mt mcl mcr mth mkind msort mfirst mblk mfree mfnd mfm msn) H → va_D A (xM g k mw mk ml mq mwt mn mt mcl mcr mth mkind msort mfirst mblk mfree mfnd mfm msn) → va_S A s.heap H locs → ∀ (ls : Array Slot), lv_has ls 3 [(0, .ref (g 0))] → wX3_root_28 post ml mw mq mwt mn mt mth → W p l e rmX3_root s m args below meth c H locs 0 0 Q (F0 m 28 ls []) := by
    intro  mw mq mwt mn mt mth H locs hP hD hS ls hl hw
    unfold wX3_root_28 at hw
    refine lv_aload_n hx hb dX3_root_28 rfl (lv_at hl 0 rfl) ?_
    refine lv_iconst (v := 2) hx hb dX3_root_29 (by decide) ?_
    refine icall (wr := []) (va_runV (As := [.int 2]) (rest := []) hC (c_X3_not l D g k mw mk ml mq mwt mn mt mcl mcr mth mkind msort mfirst mblk mfree mfnd mfm msn 2 _ hw H.size) (cwV 1 hts gX3_root_X3_not rfl rfl rfl (by decide +kernel) ⟨Nat.le_of_ble_eq_true rfl, Nat.le_of_ble_eq_true rfl⟩) (preV_m (va_recv hK hP (ci := 3) (q0 := 0) rfl rfl) hP hD hA hK hZ hS [0, 1, 2, 3, 4, 5, 6, 7, 8, 9, 10, 11, 12] rfl rfl (by decide)) rfl rfl hl.1 rfl (lv_room (Nat.le_of_ble_eq_true rfl)) dX3_root_30 ⟨Nat.le_of_ble_eq_true rfl, Nat.le_of_ble_eq_true rfl⟩) hP hD hA hS [0, 1, 2, 3, 4, 5, 6, 7, 8, 9, 10, 11, 12] [] rfl rfl (by decide) (by decide) (fun r_4 u' H locs hw hP hD hS => ?_)
    obtain ⟨mt_3, rfl⟩ : ∃ z, z = u' := ⟨_, rfl⟩
    try dsimp only at hw
    have hP : va_P D vwCl (xM g k mw mk ml mq mwt mn mt_3 mcl mcr mth mkind msort mfirst mblk mfree mfnd mfm msn) H := hP
    have hD : va_D A (xM g k mw mk ml mq mwt mn mt_3 mcl mcr mth mkind msort mfirst mblk mfree mfnd mfm msn) := hD
    obtain ⟨h_5, hw⟩ := hw
    exact hret _ _ _ (mw, mq, mwt, mn, mt_3, mth) _ _ hP hD hS dX3_root_33 h_5 hw
  have B34 : ∀ (x1 : Int32), ∀ (x2 : Int32), ∀ (mw : Nat → Int32), ∀ (mq : Nat → Int32), ∀ (mwt : Nat → Int32), ∀ (mn : Int32), ∀ (mt : Int32), ∀ (mth : Int32), ∀ (H : Heap) (locs : List Loc), va_P D vwCl (xM g k mw mk ml mq mwt mn mt mcl mcr mth mkind msort mfirst mblk mfree mfnd mfm msn) H → va_D A (xM g k mw mk ml mq mwt mn mt mcl mcr mth mkind msort mfirst mblk mfree mfnd mfm msn) → va_S A s.heap H locs → ∀ (ls : Array Slot), lv_has ls 3 [(0, .ref (g 0)), (1, .int x1), (2, .int x2)] → wX3_root_34 post ml x1 x2 mw mq mwt mn mt mth → W p l e rmX3_root s m args below meth c H locs 0 0 Q (F0 m 34 ls []) := by
    intro  x1 x2 mw mq mwt mn mt mth H locs hP hD hS ls hl hw
    unfold wX3_root_34 at hw
    refine lv_aload_n hx hb dX3_root_34 rfl (lv_at hl 0 rfl) ?_
    refine lv_iconst (v := 1) hx hb dX3_root_35 (by decide) ?_
    refine lv_iload_n hx hb dX3_root_36 rfl (lv_at hl 1 rfl) ?_
    refine lv_iadd hx hb dX3_root_37 ?_
    refine lv_iload_n hx hb dX3_root_38 rfl (lv_at hl 2 rfl) ?_
    refine vcall (wr := []) (va_runV (As := [.int (1 + x1), .int x2]) (rest := []) hC (c_X3_write l D g k mw mk ml mq mwt mn mt mcl mcr mth mkind msort mfirst mblk mfree mfnd mfm msn (1 + x1) x2 _ hw H.size) (cwV 2 hts gX3_root_X3_write rfl rfl rfl (by decide +kernel) ⟨Nat.le_of_ble_eq_true rfl, Nat.le_of_ble_eq_true rfl⟩) (preV_m (va_recv hK hP (ci := 3) (q0 := 0) rfl rfl) hP hD hA hK hZ hS [0, 1, 2, 3, 4, 5, 6, 7, 8, 9, 10, 11, 12] rfl rfl (by decide)) rfl rfl hl.1 rfl (lv_room (Nat.le_of_ble_eq_true rfl)) dX3_root_39 ⟨Nat.le_of_ble_eq_true rfl, Nat.le_of_ble_eq_true rfl⟩) hP hD hA hS [0, 1, 2, 3, 4, 5, 6, 7, 8, 9, 10, 11, 12] [] rfl rfl (by decide) (by decide) (fun u' H locs hw hP hD hS => ?_)
    obtain ⟨mw_7, mq_8, mwt_9, mn_10⟩ := u'
    try dsimp only at hw
    have hP : va_P D vwCl (xM g k mw_7 mk ml mq_8 mwt_9 mn_10 mt mcl mcr mth mkind msort mfirst mblk mfree mfnd mfm msn) H := hP
    have hD : va_D A (xM g k mw_7 mk ml mq_8 mwt_9 mn_10 mt mcl mcr mth mkind msort mfirst mblk mfree mfnd mfm msn) := hD
    refine lv_aload_n hx hb dX3_root_42 rfl (lv_at hl 0 rfl) ?_
    refine lv_iconst (v := 0) hx hb dX3_root_43 (by decide) ?_
    refine va_put (D := D) (ci := 3) (v := .int 0) (ty := .int) (C := RX3) (T := TX3) (N := 18) hx hb hts hinX3 tyX3 tyX3_ok nmX3 hown hK hP hD hS 0 rfl rfl 6 (by decide) (hts (.fieldLink RX3 51 "SlabHeapModel" "trouble" "I") (by decide +kernel)) (fun _ h9 => h9) rfl (by decide +kernel) rfl rfl (Nat.le_of_ble_eq_true rfl) dX3_root_44 (fun H locs hP hD hS => ?_)
    have hP : va_P D vwCl (xM g k mw_7 mk ml mq_8 mwt_9 mn_10 0 mcl mcr mth mkind msort mfirst mblk mfree mfnd mfm msn) H := hP
    have hD : va_D A (xM g k mw_7 mk ml mq_8 mwt_9 mn_10 0 mcl mcr mth mkind msort mfirst mblk mfree mfnd mfm msn) := hD
    refine lv_iconst (v := 1) hx hb dX3_root_47 (by decide) ?_
    exact hret _ _ _ (mw_7, mq_8, mwt_9, mn_10, 0, mth) _ _ hP hD hS dX3_root_48 nb_1 hw
  unfold wX3_root at hw
  suffices main : ∀ (H : Heap) (locs : List Loc), va_P D vwCl (xM g k mw mk ml mq mwt mn mt mcl mcr mth mkind msort mfirst mblk mfree mfnd mfm msn) H → va_D A (xM g k mw mk ml mq mwt mn mt mcl mcr mth mkind msort mfirst mblk mfree mfnd mfm msn) → va_S A s.heap H locs → W p l e rmX3_root s m args below meth c H locs 0 0 Q (F0 m 0 ls []) from main _ _ hP hD hS
  intro H locs hP hD hS
  refine lv_aload_n hx hb dX3_root_0 rfl (lv_at hl 0 rfl) ?_
  refine lv_iconst (v := 0) hx hb dX3_root_1 (by decide) ?_
  refine va_put (D := D) (ci := 3) (v := .int 0) (ty := .int) (C := RX3) (T := TX3) (N := 18) hx hb hts hinX3 tyX3 tyX3_ok nmX3 hown hK hP hD hS 0 rfl rfl 9 (by decide) (hts (.fieldLink RX3 47 "SlabHeapModel" "thrown" "I") (by decide +kernel)) (fun _ h9 => h9) rfl (by decide +kernel) rfl rfl (Nat.le_of_ble_eq_true rfl) dX3_root_2 (fun H locs hP hD hS => ?_)
  have hP : va_P D vwCl (xM g k mw mk ml mq mwt mn mt mcl mcr 0 mkind msort mfirst mblk mfree mfnd mfm msn) H := hP
  have hD : va_D A (xM g k mw mk ml mq mwt mn mt mcl mcr 0 mkind msort mfirst mblk mfree mfnd mfm msn) := hD
  refine lv_aload_n hx hb dX3_root_5 rfl (lv_at hl 0 rfl) ?_
  refine lv_iload_n hx hb dX3_root_6 rfl (lv_at hl 1 rfl) ?_
  refine lv_iconst (v := 0) hx hb dX3_root_7 (by decide) ?_
  refine lv_bipush (v := 7) hx hb dX3_root_8 (by decide) ?_
  refine pcall (va_runV (As := [.int x1, .int 0, .int 7]) (rest := []) hC (c_X3_is l D g k mw mk ml mq mwt mn mt mcl mcr 0 mkind msort mfirst mblk mfree mfnd mfm msn x1 0 7 _ hw H) (cwV 3 hts gX3_root_X3_is rfl rfl rfl (by decide +kernel) ⟨Nat.le_of_ble_eq_true rfl, Nat.le_of_ble_eq_true rfl⟩) (preV_p (va_recv hK hP (ci := 3) (q0 := 0) rfl rfl) hP hK hZ hS) rfl rfl hl.1 rfl (lv_room (Nat.le_of_ble_eq_true rfl)) dX3_root_10 ⟨Nat.le_of_ble_eq_true rfl, Nat.le_of_ble_eq_true rfl⟩) (fun r_1 hw => ?_)
  refine lv_if_eq (tgt := 28) hx hb dX3_root_13 (by decide) (fun c_2 => ?_) (fun c_2 => ?_)
  · have hw := hw.1 c_2
    exact B28  mw mq mwt mn mt 0 H locs hP hD hS ls (lv_sub hl [0] rfl) hw
  · have hw := hw.2 c_2
    refine lv_iload_n hx hb dX3_root_16 rfl (lv_at hl 2 rfl) ?_
    refine lv_if_eq (tgt := 34) hx hb dX3_root_17 (by decide) (fun c_6 => ?_) (fun c_6 => ?_)
    · have hw := hw.1 c_6
      exact B34  x1 x2 mw mq mwt mn mt 0 H locs hP hD hS ls (lv_sub hl [0, 1, 2] rfl) hw
    · have hw := hw.2 c_6
      refine lv_aload_n hx hb dX3_root_20 rfl (lv_at hl 0 rfl) ?_
      refine lv_iload_n hx hb dX3_root_21 rfl (lv_at hl 2 rfl) ?_
      refine pcall (va_runV (As := [.int x2]) (rest := []) hC (c_X3_isBlock l D g k mw mk ml mq mwt mn mt mcl mcr 0 mkind msort mfirst mblk mfree mfnd mfm msn x2 _ hw H) (cwV 1 hts gX3_root_X3_isBlock rfl rfl rfl (by decide +kernel) ⟨Nat.le_of_ble_eq_true rfl, Nat.le_of_ble_eq_true rfl⟩) (preV_p (va_recv hK hP (ci := 3) (q0 := 0) rfl rfl) hP hK hZ hS) rfl rfl hl.1 rfl (lv_room (Nat.le_of_ble_eq_true rfl)) dX3_root_22 ⟨Nat.le_of_ble_eq_true rfl, Nat.le_of_ble_eq_true rfl⟩) (fun r_11 hw => ?_)
      refine lv_if_ne (tgt := 34) hx hb dX3_root_25 (by decide) (fun c_12 => ?_) (fun c_12 => ?_)
      · have hw := hw.1 c_12
        exact B34  x1 x2 mw mq mwt mn mt 0 H locs hP hD hS ls (lv_sub hl [0, 1, 2] rfl) hw
      · have hw := hw.2 c_12
        exact B28  mw mq mwt mn mt 0 H locs hP hD hS ls (lv_sub hl [0] rfl) hw
-- X3_rootOf
abbrev rmX3_rootOf : Room := { frames := 1, cells := 0, slots := 0, locals := 23 }
set_option maxHeartbeats 4000000 in
set_option maxRecDepth 100000 in
theorem c_X3_rootOf (l : Launch) (D : va_G) (g : Nat → Nat) (k : xC) (mw : Nat → Int32) (mk : Nat → Int32) (ml : Nat → Int32) (mq : Nat → Int32) (mwt : Nat → Int32) (mn : Int32) (mt : Int32) (mcl : Int32) (mcr : Int32) (mth : Int32) (mkind : Nat → Int32) (msort : Nat → Int32) (mfirst : Nat → Int32) (mblk : Nat → Int32) (mfree : Nat → Int32) (mfnd : Nat → Int32) (mfm : Int32) (msn : Nat → Int32) (x1 : Int32) (post : Int32 → Int32 → Prop) (hw : wX3_rootOf post mw mth x1) : CMi l yX3_rootOf wsX3_rootOf rmX3_rootOf D k [.ref (g 0), .int x1] (fun v : Int32 => (xM g k mw mk ml mq mwt mn mt mcl mcr v mkind msort mfirst mblk mfree mfnd mfm msn)) mth (fun r v => post r v) := by
  refine met_mi (cc := cX3_rootOf) (nL := 2) (by decide) rfl (Nat.le_of_ble_eq_true rfl) ?_
  intro p e s m args below meth c Q A ls hC hP hD hA hK hZ hS hl hret
  obtain ⟨hx, hb, hml, hown, hts⟩ := id hC
  have hC : CallFix p m c cX3_rootOf 2 s args wsX3_rootOf RX3 := hC
  have hown : s.vm.findClass RX3 = some m.cls := hown
  have hl : lv_has ls 2 [(0, .ref (g 0)), (1, .int x1)] := hl
  have hP : va_P D vwCl (xM g k mw mk ml mq mwt mn mt mcl mcr mth mkind msort mfirst mblk mfree mfnd mfm msn) s.heap := hP
  have hD : va_D A (xM g k mw mk ml mq mwt mn mt mcl mcr mth mkind msort mfirst mblk mfree mfnd mfm msn) := hD
  have hinX3 : ∀ w ∈ wsX30, w ∈ wsX3_rootOf := fun _ h => List.mem_cons_of_mem _ (List.mem_append_right _ h)
  unfold wX3_rootOf at hw
  suffices main : ∀ (H : Heap) (locs : List Loc), va_P D vwCl (xM g k mw mk ml mq mwt mn mt mcl mcr mth mkind msort mfirst mblk mfree mfnd mfm msn) H → va_D A (xM g k mw mk ml mq mwt mn mt mcl mcr mth mkind msort mfirst mblk mfree mfnd mfm msn) → va_S A s.heap H locs → W p l e rmX3_rootOf s m args below meth c H locs 0 0 Q (F0 m 0 ls []) from main _ _ hP hD hS
  intro H locs hP hD hS
  refine lv_aload_n hx hb dX3_rootOf_0 rfl (lv_at hl 0 rfl) ?_
  refine lv_iconst (v := 0) hx hb dX3_rootOf_1 (by decide) ?_
  refine va_put (D := D) (ci := 3) (v := .int 0) (ty := .int) (C := RX3) (T := TX3) (N := 18) hx hb hts hinX3 tyX3 tyX3_ok nmX3 hown hK hP hD hS 0 rfl rfl 9 (by decide) (hts (.fieldLink RX3 47 "SlabHeapModel" "thrown" "I") (by decide +kernel)) (fun _ h9 => h9) rfl (by decide +kernel) rfl rfl (Nat.le_of_ble_eq_true rfl) dX3_rootOf_2 (fun H locs hP hD hS => ?_)
  have hP : va_P D vwCl (xM g k mw mk ml mq mwt mn mt mcl mcr 0 mkind msort mfirst mblk mfree mfnd mfm msn) H := hP
  have hD : va_D A (xM g k mw mk ml mq mwt mn mt mcl mcr 0 mkind msort mfirst mblk mfree mfnd mfm msn) := hD
  refine lv_aload_n hx hb dX3_rootOf_5 rfl (lv_at hl 0 rfl) ?_
  refine lv_iload_n hx hb dX3_rootOf_6 rfl (lv_at hl 1 rfl) ?_
  refine lv_iconst (v := 0) hx hb dX3_rootOf_7 (by decide) ?_
  refine lv_bipush (v := 7) hx hb dX3_rootOf_8 (by decide) ?_
  refine pcall (va_runV (As := [.int x1, .int 0, .int 7]) (rest := []) hC (c_X3_is l D g k mw mk ml mq mwt mn mt mcl mcr 0 mkind msort mfirst mblk mfree mfnd mfm msn x1 0 7 _ hw H) (cwV 3 hts gX3_rootOf_X3_is rfl rfl rfl (by decide +kernel) ⟨Nat.le_of_ble_eq_true rfl, Nat.le_of_ble_eq_true rfl⟩) (preV_p (va_recv hK hP (ci := 3) (q0 := 0) rfl rfl) hP hK hZ hS) rfl rfl hl.1 rfl (lv_room (Nat.le_of_ble_eq_true rfl)) dX3_rootOf_10 ⟨Nat.le_of_ble_eq_true rfl, Nat.le_of_ble_eq_true rfl⟩) (fun r_1 hw => ?_)
  refine lv_if_eq (tgt := 27) hx hb dX3_rootOf_13 (by decide) (fun c_2 => ?_) (fun c_2 => ?_)
  · have hw := hw.1 c_2
    refine lv_iconst (v := (-1)) hx hb dX3_rootOf_27 (by decide) ?_
    exact hret _ _ _ 0 _ _ hP hD hS dX3_rootOf_28 hw
  · have hw := hw.2 c_2
    refine lv_aload_n hx hb dX3_rootOf_16 rfl (lv_at hl 0 rfl) ?_
    refine va_get (D := D) (ci := 3) (v := .ref (g 1)) (C := RX3) (T := TX3) (N := 18) hx hb hts hinX3 hown hK hP 0 rfl rfl 0 (by decide) (hts (.fieldLink RX3 7 "SlabHeapModel" "words" "[I") (by decide +kernel)) (fun _ h9 => h9) rfl dX3_rootOf_17 ?_
    refine lv_iconst (v := 1) hx hb dX3_rootOf_20 (by decide) ?_
    refine lv_iload_n hx hb dX3_rootOf_21 rfl (lv_at hl 1 rfl) ?_
    refine lv_iadd hx hb dX3_rootOf_22 ?_
    obtain ⟨h_3, hw⟩ := hw
    refine va_iald hx hb hK hP 1 0 rfl rfl h_3 dX3_rootOf_23 ?_
    refine lv_goto (tgt := 28) hx hb dX3_rootOf_24 (by decide) ?_
    exact hret _ _ _ 0 _ _ hP hD hS dX3_rootOf_28 hw
-- X3_keepLine
abbrev rmX3_keepLine : Room := { frames := 0, cells := 0, slots := 0, locals := 0 }
set_option maxHeartbeats 4000000 in
set_option maxRecDepth 100000 in
theorem c_X3_keepLine (l : Launch) (D : va_G) (g : Nat → Nat) (k : xC) (mw : Nat → Int32) (mk : Nat → Int32) (ml : Nat → Int32) (mq : Nat → Int32) (mwt : Nat → Int32) (mn : Int32) (mt : Int32) (mcl : Int32) (mcr : Int32) (mth : Int32) (mkind : Nat → Int32) (msort : Nat → Int32) (mfirst : Nat → Int32) (mblk : Nat → Int32) (mfree : Nat → Int32) (mfnd : Nat → Int32) (mfm : Int32) (msn : Nat → Int32) (x1 : Int32) (post : (Nat → Int32) → Prop) (hw : wX3_keepLine post mw mk x1) : CMv l yX3_keepLine wsX3_keepLine rmX3_keepLine D k [.ref (g 0), .int x1] (fun v : (Nat → Int32) => (xM g k mw v ml mq mwt mn mt mcl mcr mth mkind msort mfirst mblk mfree mfnd mfm msn)) mk (fun v => post v) := by
  refine met_mv (cc := cX3_keepLine) (nL := 3) (by decide) rfl (Nat.le_of_ble_eq_true rfl) ?_
  intro p e s m args below meth c Q A ls hC hP hD hA hK hZ hS hl hret
  obtain ⟨hx, hb, hml, hown, hts⟩ := id hC
  have hC : CallFix p m c cX3_keepLine 3 s args wsX3_keepLine RX3 := hC
  have hown : s.vm.findClass RX3 = some m.cls := hown
  have hl : lv_has ls 3 [(0, .ref (g 0)), (1, .int x1)] := hl
  have hP : va_P D vwCl (xM g k mw mk ml mq mwt mn mt mcl mcr mth mkind msort mfirst mblk mfree mfnd mfm msn) s.heap := hP
  have hD : va_D A (xM g k mw mk ml mq mwt mn mt mcl mcr mth mkind msort mfirst mblk mfree mfnd mfm msn) := hD
  have hinX3 : ∀ w ∈ wsX30, w ∈ wsX3_keepLine := fun _ h => List.mem_cons_of_mem _ (List.mem_append_right _ h)
  have B5 : ∀ (fu : Nat), ∀ (x1 : Int32), ∀ (x2 : Int32), ∀ (mk : Nat → Int32), ∀ (H : Heap) (locs : List Loc), va_P D vwCl (xM g k mw mk ml mq mwt mn mt mcl mcr mth mkind msort mfirst mblk mfree mfnd mfm msn) H → va_D A (xM g k mw mk ml mq mwt mn mt mcl mcr mth mkind msort mfirst mblk mfree mfnd mfm msn) → va_S A s.heap H locs → ∀ (ls : Array Slot), lv_has ls 3 [(0, .ref (g 0)), (1, .int x1), (2, .int x2)] → wX3_keepLine_5 post mw fu x1 x2 mk → W p l e rmX3_keepLine s m args below meth c H locs 0 0 Q (F0 m 5 ls []) := by
    intro  fu
    induction fu with
    | zero =>
      intro x1 x2 mk H locs hP hD hS ls hl hw
      exact absurd hw (by unfold wX3_keepLine_5; exact fun q => q)
    | succ n ih =>
      intro x1 x2 mk H locs hP hD hS ls hl hw
      unfold wX3_keepLine_5 at hw
      refine lv_iload_n hx hb dX3_keepLine_5 rfl (lv_at hl 2 rfl) ?_
      refine lv_bipush (v := 8) hx hb dX3_keepLine_6 (by decide) ?_
      refine lv_iload_n hx hb dX3_keepLine_8 rfl (lv_at hl 1 rfl) ?_
      refine lv_imul hx hb dX3_keepLine_9 ?_
      refine lv_bipush (v := 8) hx hb dX3_keepLine_10 (by decide) ?_
      refine lv_iadd hx hb dX3_keepLine_12 ?_
      refine lv_icmp_ge (tgt := 34) hx hb dX3_keepLine_13 (by decide) (fun c_2 => ?_) (fun c_2 => ?_)
      · have hw := hw.1 c_2
        exact hret _ _ mk _ _ hP hD hS dX3_keepLine_34 hw
      · have hw := hw.2 c_2
        refine lv_aload_n hx hb dX3_keepLine_16 rfl (lv_at hl 0 rfl) ?_
        refine va_get (D := D) (ci := 3) (v := .ref (g 2)) (C := RX3) (T := TX3) (N := 18) hx hb hts hinX3 hown hK hP 0 rfl rfl 1 (by decide) (hts (.fieldLink RX3 13 "SlabHeapModel" "kept" "[I") (by decide +kernel)) (fun _ h9 => h9) rfl dX3_keepLine_17 ?_
        refine lv_iload_n hx hb dX3_keepLine_20 rfl (lv_at hl 2 rfl) ?_
        refine lv_aload_n hx hb dX3_keepLine_21 rfl (lv_at hl 0 rfl) ?_
        refine va_get (D := D) (ci := 3) (v := .ref (g 1)) (C := RX3) (T := TX3) (N := 18) hx hb hts hinX3 hown hK hP 0 rfl rfl 0 (by decide) (hts (.fieldLink RX3 7 "SlabHeapModel" "words" "[I") (by decide +kernel)) (fun _ h9 => h9) rfl dX3_keepLine_22 ?_
        refine lv_iload_n hx hb dX3_keepLine_25 rfl (lv_at hl 2 rfl) ?_
        obtain ⟨h_3, hw⟩ := hw
        refine va_iald hx hb hK hP 1 0 rfl rfl h_3 dX3_keepLine_26 ?_
        obtain ⟨h_4, hw⟩ := hw
        refine va_iast hx hb hK hP hD hS 2 0 rfl rfl h_4 dX3_keepLine_27 (fun H locs hP hD hS => ?_)
        have hP : va_P D vwCl (xM g k mw (upd mk x2.toNatClampNeg (mw x2.toNatClampNeg)) ml mq mwt mn mt mcl mcr mth mkind msort mfirst mblk mfree mfnd mfm msn) H := hP
        have hD : va_D A (xM g k mw (upd mk x2.toNatClampNeg (mw x2.toNatClampNeg)) ml mq mwt mn mt mcl mcr mth mkind msort mfirst mblk mfree mfnd mfm msn) := hD
        obtain ⟨x2_5, ex2_5⟩ : ∃ y : Int32, y = x2 + 1 := ⟨_, rfl⟩
        have hw := hw x2_5 ex2_5
        refine lv_iinc (v := x2_5) (lv' := [(2, .int x2_5), (0, .ref (g 0)), (1, .int x1)]) hx hb dX3_keepLine_28 hl (k := 2) rfl (by rw [ex2_5]; rfl) (by decide) rfl (fun ls hl => ?_)
        refine lv_goto (tgt := 5) hx hb dX3_keepLine_31 (by decide) ?_
        exact ih x1 x2_5 (upd mk x2.toNatClampNeg (mw x2.toNatClampNeg)) H locs hP hD hS ls (lv_sub hl [1, 2, 0] rfl) hw
  unfold wX3_keepLine at hw
  suffices main : ∀ (H : Heap) (locs : List Loc), va_P D vwCl (xM g k mw mk ml mq mwt mn mt mcl mcr mth mkind msort mfirst mblk mfree mfnd mfm msn) H → va_D A (xM g k mw mk ml mq mwt mn mt mcl mcr mth mkind msort mfirst mblk mfree mfnd mfm msn) → va_S A s.heap H locs → W p l e rmX3_keepLine s m args below meth c H locs 0 0 Q (F0 m 0 ls []) from main _ _ hP hD hS
  intro H locs hP hD hS
  refine lv_bipush (v := 8) hx hb dX3_keepLine_0 (by decide) ?_
  refine lv_iload_n hx hb dX3_keepLine_2 rfl (lv_at hl 1 rfl) ?_
  refine lv_imul hx hb dX3_keepLine_3 ?_
  refine lv_topi (fun x2_1 ex2_1 => ?_)
  have hw := hw x2_1 ex2_1
  refine lv_istore_n (lv' := [(2, .int x2_1), (0, .ref (g 0)), (1, .int x1)]) hx hb dX3_keepLine_4 rfl hl (by decide) rfl (fun ls hl => ?_)
  obtain ⟨fu_6, hw⟩ := hw
  exact B5  fu_6 x1 x2_1 mk H locs hP hD hS ls (lv_sub hl [1, 2, 0] rfl) hw
-- X3_nothingWaits
abbrev rmX3_nothingWaits : Room := { frames := 0, cells := 0, slots := 0, locals := 0 }
set_option maxHeartbeats 4000000 in
set_option maxRecDepth 100000 in
theorem c_X3_nothingWaits (l : Launch) (D : va_G) (g : Nat → Nat) (k : xC) (mw : Nat → Int32) (mk : Nat → Int32) (ml : Nat → Int32) (mq : Nat → Int32) (mwt : Nat → Int32) (mn : Int32) (mt : Int32) (mcl : Int32) (mcr : Int32) (mth : Int32) (mkind : Nat → Int32) (msort : Nat → Int32) (mfirst : Nat → Int32) (mblk : Nat → Int32) (mfree : Nat → Int32) (mfnd : Nat → Int32) (mfm : Int32) (msn : Nat → Int32)  (post : (Nat → Int32) → Int32 → Prop) (hw : wX3_nothingWaits post mq mn) : CMv l yX3_nothingWaits wsX3_nothingWaits rmX3_nothingWaits D k [.ref (g 0)] (fun v : (Nat → Int32) × Int32 => (xM g k mw mk ml (v.1) mwt (v.2) mt mcl mcr mth mkind msort mfirst mblk mfree mfnd mfm msn)) (mq, mn) (fun v => post (v.1) (v.2)) := by
  refine met_mv (cc := cX3_nothingWaits) (nL := 2) (by decide) rfl (Nat.le_of_ble_eq_true rfl) ?_
  intro p e s m args below meth c Q A ls hC hP hD hA hK hZ hS hl hret
  obtain ⟨hx, hb, hml, hown, hts⟩ := id hC
  have hC : CallFix p m c cX3_nothingWaits 2 s args wsX3_nothingWaits RX3 := hC
  have hown : s.vm.findClass RX3 = some m.cls := hown
  have hl : lv_has ls 2 [(0, .ref (g 0))] := hl
  have hP : va_P D vwCl (xM g k mw mk ml mq mwt mn mt mcl mcr mth mkind msort mfirst mblk mfree mfnd mfm msn) s.heap := hP
  have hD : va_D A (xM g k mw mk ml mq mwt mn mt mcl mcr mth mkind msort mfirst mblk mfree mfnd mfm msn) := hD
  have hinX3 : ∀ w ∈ wsX30, w ∈ wsX3_nothingWaits := fun _ h => List.mem_cons_of_mem _ (List.mem_append_right _ h)
  have B2 : ∀ (fu : Nat), ∀ (x1 : Int32), ∀ (mq : Nat → Int32), ∀ (mn : Int32), ∀ (H : Heap) (locs : List Loc), va_P D vwCl (xM g k mw mk ml mq mwt mn mt mcl mcr mth mkind msort mfirst mblk mfree mfnd mfm msn) H → va_D A (xM g k mw mk ml mq mwt mn mt mcl mcr mth mkind msort mfirst mblk mfree mfnd mfm msn) → va_S A s.heap H locs → ∀ (ls : Array Slot), lv_has ls 2 [(0, .ref (g 0)), (1, .int x1)] → wX3_nothingWaits_2 post fu x1 mq mn → W p l e rmX3_nothingWaits s m args below meth c H locs 0 0 Q (F0 m 2 ls []) := by
    intro  fu
    induction fu with
    | zero =>
      intro x1 mq mn H locs hP hD hS ls hl hw
      exact absurd hw (by unfold wX3_nothingWaits_2; exact fun q => q)
    | succ n ih =>
      intro x1 mq mn H locs hP hD hS ls hl hw
      unfold wX3_nothingWaits_2 at hw
      refine lv_iload_n hx hb dX3_nothingWaits_2 rfl (lv_at hl 1 rfl) ?_
      refine lv_sipush (v := 512) hx hb dX3_nothingWaits_3 (by decide) ?_
      refine lv_icmp_ge (tgt := 22) hx hb dX3_nothingWaits_6 (by decide) (fun c_1 => ?_) (fun c_1 => ?_)
      · have hw := hw.1 c_1
        refine lv_aload_n hx hb dX3_nothingWaits_22 rfl (lv_at hl 0 rfl) ?_
        refine lv_iconst (v := 0) hx hb dX3_nothingWaits_23 (by decide) ?_
        refine va_put (D := D) (ci := 3) (v := .int 0) (ty := .int) (C := RX3) (T := TX3) (N := 18) hx hb hts hinX3 tyX3 tyX3_ok nmX3 hown hK hP hD hS 0 rfl rfl 5 (by decide) (hts (.fieldLink RX3 54 "SlabHeapModel" "waits" "I") (by decide +kernel)) (fun _ h9 => h9) rfl (by decide +kernel) rfl rfl (Nat.le_of_ble_eq_true rfl) dX3_nothingWaits_24 (fun H locs hP hD hS => ?_)
        have hP : va_P D vwCl (xM g k mw mk ml mq mwt 0 mt mcl mcr mth mkind msort mfirst mblk mfree mfnd mfm msn) H := hP
        have hD : va_D A (xM g k mw mk ml mq mwt 0 mt mcl mcr mth mkind msort mfirst mblk mfree mfnd mfm msn) := hD
        exact hret _ _ (mq, 0) _ _ hP hD hS dX3_nothingWaits_27 hw
      · have hw := hw.2 c_1
        refine lv_aload_n hx hb dX3_nothingWaits_9 rfl (lv_at hl 0 rfl) ?_
        refine va_get (D := D) (ci := 3) (v := .ref (g 4)) (C := RX3) (T := TX3) (N := 18) hx hb hts hinX3 hown hK hP 0 rfl rfl 3 (by decide) (hts (.fieldLink RX3 20 "SlabHeapModel" "isWaiting" "[Z") (by decide +kernel)) (fun _ h9 => h9) rfl dX3_nothingWaits_10 ?_
        refine lv_iload_n hx hb dX3_nothingWaits_13 rfl (lv_at hl 1 rfl) ?_
        refine lv_iconst (v := 0) hx hb dX3_nothingWaits_14 (by decide) ?_
        obtain ⟨h_2, hw⟩ := hw
        refine va_zast hx hb hK hP hD hS 4 1 rfl rfl h_2 dX3_nothingWaits_15 (fun H locs hP hD hS => ?_)
        have hP : va_P D vwCl (xM g k mw mk ml (upd mq x1.toNatClampNeg (vp_nar .boolean 0)) mwt mn mt mcl mcr mth mkind msort mfirst mblk mfree mfnd mfm msn) H := hP
        have hD : va_D A (xM g k mw mk ml (upd mq x1.toNatClampNeg (vp_nar .boolean 0)) mwt mn mt mcl mcr mth mkind msort mfirst mblk mfree mfnd mfm msn) := hD
        obtain ⟨x1_3, ex1_3⟩ : ∃ y : Int32, y = x1 + 1 := ⟨_, rfl⟩
        have hw := hw x1_3 ex1_3
        refine lv_iinc (v := x1_3) (lv' := [(1, .int x1_3), (0, .ref (g 0))]) hx hb dX3_nothingWaits_16 hl (k := 1) rfl (by rw [ex1_3]; rfl) (by decide) rfl (fun ls hl => ?_)
        refine lv_goto (tgt := 2) hx hb dX3_nothingWaits_19 (by decide) ?_
        exact ih x1_3 (upd mq x1.toNatClampNeg (vp_nar .boolean 0)) mn H locs hP hD hS ls (lv_sub hl [1, 0] rfl) hw
  unfold wX3_nothingWaits at hw
  suffices main : ∀ (H : Heap) (locs : List Loc), va_P D vwCl (xM g k mw mk ml mq mwt mn mt mcl mcr mth mkind msort mfirst mblk mfree mfnd mfm msn) H → va_D A (xM g k mw mk ml mq mwt mn mt mcl mcr mth mkind msort mfirst mblk mfree mfnd mfm msn) → va_S A s.heap H locs → W p l e rmX3_nothingWaits s m args below meth c H locs 0 0 Q (F0 m 0 ls []) from main _ _ hP hD hS
  intro H locs hP hD hS
  refine lv_iconst (v := 0) hx hb dX3_nothingWaits_0 (by decide) ?_
  refine lv_istore_n (lv' := [(1, .int 0), (0, .ref (g 0))]) hx hb dX3_nothingWaits_1 rfl hl (by decide) rfl (fun ls hl => ?_)
  obtain ⟨fu_4, hw⟩ := hw
  exact B2  fu_4 0 mq mn H locs hP hD hS ls (lv_sub hl [1, 0] rfl) hw
-- X3_fence
abbrev rmX3_fence : Room := { frames := 1, cells := 0, slots := 0, locals := 22 }
set_option maxHeartbeats 4000000 in
set_option maxRecDepth 100000 in
theorem c_X3_fence (l : Launch) (D : va_G) (g : Nat → Nat) (k : xC) (mw : Nat → Int32) (mk : Nat → Int32) (ml : Nat → Int32) (mq : Nat → Int32) (mwt : Nat → Int32) (mn : Int32) (mt : Int32) (mcl : Int32) (mcr : Int32) (mth : Int32) (mkind : Nat → Int32) (msort : Nat → Int32) (mfirst : Nat → Int32) (mblk : Nat → Int32) (mfree : Nat → Int32) (mfnd : Nat → Int32) (mfm : Int32) (msn : Nat → Int32)  (post : Int32 → (Nat → Int32) → (Nat → Int32) → Int32 → Int32 → Prop) (hw : wX3_fence post mw mk mq mwt mn mth) : CMi l yX3_fence wsX3_fence rmX3_fence D k [.ref (g 0)] (fun v : (Nat → Int32) × (Nat → Int32) × Int32 × Int32 => (xM g k mw (v.1) ml (v.2.1) mwt (v.2.2.1) mt mcl mcr (v.2.2.2) mkind msort mfirst mblk mfree mfnd mfm msn)) (mk, mq, mn, mth) (fun r v => post r (v.1) (v.2.1) (v.2.2.1) (v.2.2.2)) := by
  refine met_mi (cc := cX3_fence) (nL := 3) (by decide) rfl (Nat.le_of_ble_eq_true rfl) ?_
  intro p e s m args below meth c Q A ls hC hP hD hA hK hZ hS hl hret
  obtain ⟨hx, hb, hml, hown, hts⟩ := id hC
  have hC : CallFix p m c cX3_fence 3 s args wsX3_fence RX3 := hC
  have hown : s.vm.findClass RX3 = some m.cls := hown
  have hl : lv_has ls 3 [(0, .ref (g 0))] := hl
  have hP : va_P D vwCl (xM g k mw mk ml mq mwt mn mt mcl mcr mth mkind msort mfirst mblk mfree mfnd mfm msn) s.heap := hP
  have hD : va_D A (xM g k mw mk ml mq mwt mn mt mcl mcr mth mkind msort mfirst mblk mfree mfnd mfm msn) := hD
  have hinX3 : ∀ w ∈ wsX30, w ∈ wsX3_fence := fun _ h => List.mem_cons_of_mem _ (List.mem_append_right _ h)
  have B12 : ∀ (fu : Nat), ∀ (x1 : Int32), ∀ (x2 : Int32), ∀ (mk : Nat → Int32), ∀ (mq : Nat → Int32), ∀ (mn : Int32), ∀ (mth : Int32), ∀ (H : Heap) (locs : List Loc), va_P D vwCl (xM g k mw mk ml mq mwt mn mt mcl mcr mth mkind msort mfirst mblk mfree mfnd mfm msn) H → va_D A (xM g k mw mk ml mq mwt mn mt mcl mcr mth mkind msort mfirst mblk mfree mfnd mfm msn) → va_S A s.heap H locs → ∀ (ls : Array Slot), lv_has ls 3 [(0, .ref (g 0)), (1, .int x1), (2, .int x2)] → wX3_fence_12 post mw mwt fu x1 x2 mk mq mn mth → W p l e rmX3_fence s m args below meth c H locs 0 0 Q (F0 m 12 ls []) := by
    intro  fu
    induction fu with
    | zero =>
      intro x1 x2 mk mq mn mth H locs hP hD hS ls hl hw
      exact absurd hw (by unfold wX3_fence_12; exact fun q => q)
    | succ n ih =>
      intro x1 x2 mk mq mn mth H locs hP hD hS ls hl hw
      unfold wX3_fence_12 at hw
      refine lv_iload_n hx hb dX3_fence_12 rfl (lv_at hl 2 rfl) ?_
      refine lv_aload_n hx hb dX3_fence_13 rfl (lv_at hl 0 rfl) ?_
      refine va_get (D := D) (ci := 3) (v := .int mn) (C := RX3) (T := TX3) (N := 18) hx hb hts hinX3 hown hK hP 0 rfl rfl 5 (by decide) (hts (.fieldLink RX3 54 "SlabHeapModel" "waits" "I") (by decide +kernel)) (fun _ h9 => h9) rfl dX3_fence_14 ?_
      refine lv_icmp_ge (tgt := 36) hx hb dX3_fence_17 (by decide) (fun c_1 => ?_) (fun c_1 => ?_)
      · have hw := hw.1 c_1
        refine lv_aload_n hx hb dX3_fence_36 rfl (lv_at hl 0 rfl) ?_
        refine vcall (wr := []) (va_runV (As := []) (rest := []) hC (c_X3_nothingWaits l D g k mw mk ml mq mwt mn mt mcl mcr mth mkind msort mfirst mblk mfree mfnd mfm msn _ hw H.size) (cwV 0 hts gX3_fence_X3_nothingWaits rfl rfl rfl (by decide +kernel) ⟨Nat.le_of_ble_eq_true rfl, Nat.le_of_ble_eq_true rfl⟩) (preV_m (va_recv hK hP (ci := 3) (q0 := 0) rfl rfl) hP hD hA hK hZ hS [0, 1, 2, 3, 4, 5, 6, 7, 8, 9, 10, 11, 12] rfl rfl (by decide)) rfl rfl hl.1 rfl (lv_room (Nat.le_of_ble_eq_true rfl)) dX3_fence_37 ⟨Nat.le_of_ble_eq_true rfl, Nat.le_of_ble_eq_true rfl⟩) hP hD hA hS [0, 1, 2, 3, 4, 5, 6, 7, 8, 9, 10, 11, 12] [] rfl rfl (by decide) (by decide) (fun u' H locs hw hP hD hS => ?_)
        obtain ⟨mq_2, mn_3⟩ := u'
        try dsimp only at hw
        have hP : va_P D vwCl (xM g k mw mk ml mq_2 mwt mn_3 mt mcl mcr mth mkind msort mfirst mblk mfree mfnd mfm msn) H := hP
        have hD : va_D A (xM g k mw mk ml mq_2 mwt mn_3 mt mcl mcr mth mkind msort mfirst mblk mfree mfnd mfm msn) := hD
        refine lv_iload_n hx hb dX3_fence_40 rfl (lv_at hl 1 rfl) ?_
        exact hret _ _ _ (mk, mq_2, mn_3, mth) _ _ hP hD hS dX3_fence_41 hw
      · have hw := hw.2 c_1
        refine lv_aload_n hx hb dX3_fence_20 rfl (lv_at hl 0 rfl) ?_
        refine lv_aload_n hx hb dX3_fence_21 rfl (lv_at hl 0 rfl) ?_
        refine va_get (D := D) (ci := 3) (v := .ref (g 5)) (C := RX3) (T := TX3) (N := 18) hx hb hts hinX3 hown hK hP 0 rfl rfl 4 (by decide) (hts (.fieldLink RX3 23 "SlabHeapModel" "waiting" "[I") (by decide +kernel)) (fun _ h9 => h9) rfl dX3_fence_22 ?_
        refine lv_iload_n hx hb dX3_fence_25 rfl (lv_at hl 2 rfl) ?_
        obtain ⟨h_4, hw⟩ := hw
        refine va_iald hx hb hK hP 5 0 rfl rfl h_4 dX3_fence_26 ?_
        refine vcall (wr := []) (va_runV (As := [.int (mwt x2.toNatClampNeg)]) (rest := []) hC (c_X3_keepLine l D g k mw mk ml mq mwt mn mt mcl mcr mth mkind msort mfirst mblk mfree mfnd mfm msn (mwt x2.toNatClampNeg) _ hw H.size) (cwV 1 hts gX3_fence_X3_keepLine rfl rfl rfl (by decide +kernel) ⟨Nat.le_of_ble_eq_true rfl, Nat.le_of_ble_eq_true rfl⟩) (preV_m (va_recv hK hP (ci := 3) (q0 := 0) rfl rfl) hP hD hA hK hZ hS [0, 1, 2, 3, 4, 5, 6, 7, 8, 9, 10, 11, 12] rfl rfl (by decide)) rfl rfl hl.1 rfl (lv_room (Nat.le_of_ble_eq_true rfl)) dX3_fence_27 ⟨Nat.le_of_ble_eq_true rfl, Nat.le_of_ble_eq_true rfl⟩) hP hD hA hS [0, 1, 2, 3, 4, 5, 6, 7, 8, 9, 10, 11, 12] [] rfl rfl (by decide) (by decide) (fun u' H locs hw hP hD hS => ?_)
        obtain ⟨mk_5, rfl⟩ : ∃ z, z = u' := ⟨_, rfl⟩
        try dsimp only at hw
        have hP : va_P D vwCl (xM g k mw mk_5 ml mq mwt mn mt mcl mcr mth mkind msort mfirst mblk mfree mfnd mfm msn) H := hP
        have hD : va_D A (xM g k mw mk_5 ml mq mwt mn mt mcl mcr mth mkind msort mfirst mblk mfree mfnd mfm msn) := hD
        obtain ⟨x2_6, ex2_6⟩ : ∃ y : Int32, y = x2 + 1 := ⟨_, rfl⟩
        have hw := hw x2_6 ex2_6
        refine lv_iinc (v := x2_6) (lv' := [(2, .int x2_6), (0, .ref (g 0)), (1, .int x1)]) hx hb dX3_fence_30 hl (k := 2) rfl (by rw [ex2_6]; rfl) (by decide) rfl (fun ls hl => ?_)
        refine lv_goto (tgt := 12) hx hb dX3_fence_33 (by decide) ?_
        exact ih x1 x2_6 mk_5 mq mn mth H locs hP hD hS ls (lv_sub hl [1, 2, 0] rfl) hw
  unfold wX3_fence at hw
  suffices main : ∀ (H : Heap) (locs : List Loc), va_P D vwCl (xM g k mw mk ml mq mwt mn mt mcl mcr mth mkind msort mfirst mblk mfree mfnd mfm msn) H → va_D A (xM g k mw mk ml mq mwt mn mt mcl mcr mth mkind msort mfirst mblk mfree mfnd mfm msn) → va_S A s.heap H locs → W p l e rmX3_fence s m args below meth c H locs 0 0 Q (F0 m 0 ls []) from main _ _ hP hD hS
  intro H locs hP hD hS
  refine lv_aload_n hx hb dX3_fence_0 rfl (lv_at hl 0 rfl) ?_
  refine lv_iconst (v := 0) hx hb dX3_fence_1 (by decide) ?_
  refine va_put (D := D) (ci := 3) (v := .int 0) (ty := .int) (C := RX3) (T := TX3) (N := 18) hx hb hts hinX3 tyX3 tyX3_ok nmX3 hown hK hP hD hS 0 rfl rfl 9 (by decide) (hts (.fieldLink RX3 47 "SlabHeapModel" "thrown" "I") (by decide +kernel)) (fun _ h9 => h9) rfl (by decide +kernel) rfl rfl (Nat.le_of_ble_eq_true rfl) dX3_fence_2 (fun H locs hP hD hS => ?_)
  have hP : va_P D vwCl (xM g k mw mk ml mq mwt mn mt mcl mcr 0 mkind msort mfirst mblk mfree mfnd mfm msn) H := hP
  have hD : va_D A (xM g k mw mk ml mq mwt mn mt mcl mcr 0 mkind msort mfirst mblk mfree mfnd mfm msn) := hD
  refine lv_aload_n hx hb dX3_fence_5 rfl (lv_at hl 0 rfl) ?_
  refine va_get (D := D) (ci := 3) (v := .int mn) (C := RX3) (T := TX3) (N := 18) hx hb hts hinX3 hown hK hP 0 rfl rfl 5 (by decide) (hts (.fieldLink RX3 54 "SlabHeapModel" "waits" "I") (by decide +kernel)) (fun _ h9 => h9) rfl dX3_fence_6 ?_
  refine lv_istore_n (lv' := [(1, .int mn), (0, .ref (g 0))]) hx hb dX3_fence_9 rfl hl (by decide) rfl (fun ls hl => ?_)
  refine lv_iconst (v := 0) hx hb dX3_fence_10 (by decide) ?_
  refine lv_istore_n (lv' := [(2, .int 0), (1, .int mn), (0, .ref (g 0))]) hx hb dX3_fence_11 rfl hl (by decide) rfl (fun ls hl => ?_)
  obtain ⟨fu_7, hw⟩ := hw
  exact B12  fu_7 mn 0 mk mq mn 0 H locs hP hD hS ls (lv_sub hl [2, 1, 0] rfl) hw
-- X3_fits
abbrev rmX3_fits : Room := { frames := 2, cells := 0, slots := 0, locals := 48 }
set_option maxHeartbeats 4000000 in
set_option maxRecDepth 100000 in
theorem c_X3_fits (l : Launch) (D : va_G) (g : Nat → Nat) (k : xC) (mw : Nat → Int32) (mk : Nat → Int32) (ml : Nat → Int32) (mq : Nat → Int32) (mwt : Nat → Int32) (mn : Int32) (mt : Int32) (mcl : Int32) (mcr : Int32) (mth : Int32) (mkind : Nat → Int32) (msort : Nat → Int32) (mfirst : Nat → Int32) (mblk : Nat → Int32) (mfree : Nat → Int32) (mfnd : Nat → Int32) (mfm : Int32) (msn : Nat → Int32) (x1 : Int32) (post : Int32 → (Nat → Int32) → (Nat → Int32) → (Nat → Int32) → (Nat → Int32) → (Nat → Int32) → Prop) (hw : wX3_fits post mw ml mkind msort mfirst mblk mfree x1) : CMi l yX3_fits wsX3_fits rmX3_fits D k [.ref (g 0), .int x1] (fun v : (Nat → Int32) × (Nat → Int32) × (Nat → Int32) × (Nat → Int32) × (Nat → Int32) => (xM g k mw mk ml mq mwt mn mt mcl mcr mth (v.1) (v.2.1) (v.2.2.1) (v.2.2.2.1) (v.2.2.2.2) mfnd mfm msn)) (mkind, msort, mfirst, mblk, mfree) (fun r v => post r (v.1) (v.2.1) (v.2.2.1) (v.2.2.2.1) (v.2.2.2.2)) := by
  refine met_mz (cc := cX3_fits) (nL := 6) (by decide) rfl (Nat.le_of_ble_eq_true rfl) ?_
  intro p e s m args below meth c Q A ls hC hP hD hA hK hZ hS hl hret
  obtain ⟨hx, hb, hml, hown, hts⟩ := id hC
  have hC : CallFix p m c cX3_fits 6 s args wsX3_fits RX3 := hC
  have hown : s.vm.findClass RX3 = some m.cls := hown
  have hl : lv_has ls 6 [(0, .ref (g 0)), (1, .int x1)] := hl
  have hP : va_P D vwCl (xM g k mw mk ml mq mwt mn mt mcl mcr mth mkind msort mfirst mblk mfree mfnd mfm msn) s.heap := hP
  have hD : va_D A (xM g k mw mk ml mq mwt mn mt mcl mcr mth mkind msort mfirst mblk mfree mfnd mfm msn) := hD
  have hinX3 : ∀ w ∈ wsX30, w ∈ wsX3_fits := fun _ h => List.mem_cons_of_mem _ (List.mem_append_right _ h)
  unfold wX3_fits at hw
  suffices main : ∀ (H : Heap) (locs : List Loc), va_P D vwCl (xM g k mw mk ml mq mwt mn mt mcl mcr mth mkind msort mfirst mblk mfree mfnd mfm msn) H → va_D A (xM g k mw mk ml mq mwt mn mt mcl mcr mth mkind msort mfirst mblk mfree mfnd mfm msn) → va_S A s.heap H locs → W p l e rmX3_fits s m args below meth c H locs 0 0 Q (F0 m 0 ls []) from main _ _ hP hD hS
  intro H locs hP hD hS
  refine lv_aload_n hx hb dX3_fits_0 rfl (lv_at hl 0 rfl) ?_
  refine lv_iload_n hx hb dX3_fits_1 rfl (lv_at hl 1 rfl) ?_
  refine lv_bipush (v := 16) hx hb dX3_fits_2 (by decide) ?_
  refine lv_sipush (v := 4095) hx hb dX3_fits_4 (by decide) ?_
  refine pcall (va_runV (As := [.int x1, .int 16, .int 4095]) (rest := []) hC (c_X3_is l D g k mw mk ml mq mwt mn mt mcl mcr mth mkind msort mfirst mblk mfree mfnd mfm msn x1 16 4095 _ hw H) (cwV 3 hts gX3_fits_X3_is rfl rfl rfl (by decide +kernel) ⟨Nat.le_of_ble_eq_true rfl, Nat.le_of_ble_eq_true rfl⟩) (preV_p (va_recv hK hP (ci := 3) (q0 := 0) rfl rfl) hP hK hZ hS) rfl rfl hl.1 rfl (lv_room (Nat.le_of_ble_eq_true rfl)) dX3_fits_7 ⟨Nat.le_of_ble_eq_true rfl, Nat.le_of_ble_eq_true rfl⟩) (fun r_1 hw => ?_)
  refine lv_if_eq (tgt := 21) hx hb dX3_fits_10 (by decide) (fun c_2 => ?_) (fun c_2 => ?_)
  · have hw := hw.1 c_2
    refine lv_iconst (v := 0) hx hb dX3_fits_21 (by decide) ?_
    exact hret _ _ _ (mkind, msort, mfirst, mblk, mfree) _ _ hP hD hS dX3_fits_22 nb_0 hw
  · have hw := hw.2 c_2
    refine lv_aload_n hx hb dX3_fits_13 rfl (lv_at hl 0 rfl) ?_
    refine lv_iload_n hx hb dX3_fits_14 rfl (lv_at hl 1 rfl) ?_
    refine pcall (va_runV (As := [.int x1]) (rest := []) hC (c_X3_isHead l D g k mw mk ml mq mwt mn mt mcl mcr mth mkind msort mfirst mblk mfree mfnd mfm msn x1 _ hw H) (cwV 1 hts gX3_fits_X3_isHead rfl rfl rfl (by decide +kernel) ⟨Nat.le_of_ble_eq_true rfl, Nat.le_of_ble_eq_true rfl⟩) (preV_p (va_recv hK hP (ci := 3) (q0 := 0) rfl rfl) hP hK hZ hS) rfl rfl hl.1 rfl (lv_room (Nat.le_of_ble_eq_true rfl)) dX3_fits_15 ⟨Nat.le_of_ble_eq_true rfl, Nat.le_of_ble_eq_true rfl⟩) (fun r_3 hw => ?_)
    refine lv_if_ne (tgt := 23) hx hb dX3_fits_18 (by decide) (fun c_4 => ?_) (fun c_4 => ?_)
    · have hw := hw.1 c_4
      refine lv_aload_n hx hb dX3_fits_23 rfl (lv_at hl 0 rfl) ?_
      refine vcall (wr := []) (va_runV (As := []) (rest := []) hC (c_X3_map l D g k mw mk ml mq mwt mn mt mcl mcr mth mkind msort mfirst mblk mfree mfnd mfm msn _ hw H.size) (cwV 0 hts gX3_fits_X3_map rfl rfl rfl (by decide +kernel) ⟨Nat.le_of_ble_eq_true rfl, Nat.le_of_ble_eq_true rfl⟩) (preV_m (va_recv hK hP (ci := 3) (q0 := 0) rfl rfl) hP hD hA hK hZ hS [0, 1, 2, 3, 4, 5, 6, 7, 8, 9, 10, 11, 12] rfl rfl (by decide)) rfl rfl hl.1 rfl (lv_room (Nat.le_of_ble_eq_true rfl)) dX3_fits_24 ⟨Nat.le_of_ble_eq_true rfl, Nat.le_of_ble_eq_true rfl⟩) hP hD hA hS [0, 1, 2, 3, 4, 5, 6, 7, 8, 9, 10, 11, 12] [] rfl rfl (by decide) (by decide) (fun u' H locs hw hP hD hS => ?_)
      obtain ⟨mkind_5, msort_6, mfirst_7, mblk_8, mfree_9⟩ := u'
      try dsimp only at hw
      have hP : va_P D vwCl (xM g k mw mk ml mq mwt mn mt mcl mcr mth mkind_5 msort_6 mfirst_7 mblk_8 mfree_9 mfnd mfm msn) H := hP
      have hD : va_D A (xM g k mw mk ml mq mwt mn mt mcl mcr mth mkind_5 msort_6 mfirst_7 mblk_8 mfree_9 mfnd mfm msn) := hD
      refine lv_aload_n hx hb dX3_fits_27 rfl (lv_at hl 0 rfl) ?_
      refine lv_iload_n hx hb dX3_fits_28 rfl (lv_at hl 1 rfl) ?_
      refine pcall (va_runV (As := [.int x1]) (rest := []) hC (c_X3_sizeAt l D g k mw mk ml mq mwt mn mt mcl mcr mth mkind_5 msort_6 mfirst_7 mblk_8 mfree_9 mfnd mfm msn x1 _ hw H) (cwV 1 hts gX3_fits_X3_sizeAt rfl rfl rfl (by decide +kernel) ⟨Nat.le_of_ble_eq_true rfl, Nat.le_of_ble_eq_true rfl⟩) (preV_p (va_recv hK hP (ci := 3) (q0 := 0) rfl rfl) hP hK hZ hS) rfl rfl hl.1 rfl (lv_room (Nat.le_of_ble_eq_true rfl)) dX3_fits_29 ⟨Nat.le_of_ble_eq_true rfl, Nat.le_of_ble_eq_true rfl⟩) (fun r_10 hw => ?_)
      refine lv_iconst (v := 1) hx hb dX3_fits_32 (by decide) ?_
      refine lv_iadd hx hb dX3_fits_33 ?_
      refine lv_topi (fun x2_11 ex2_11 => ?_)
      have hw := hw x2_11 ex2_11
      refine lv_istore_n (lv' := [(2, .int x2_11), (0, .ref (g 0)), (1, .int x1)]) hx hb dX3_fits_34 rfl hl (by decide) rfl (fun ls hl => ?_)
      refine lv_iload_n hx hb dX3_fits_35 rfl (lv_at hl 2 rfl) ?_
      refine lv_bipush (v := 16) hx hb dX3_fits_36 (by decide) ?_
      refine lv_idiv hx hb dX3_fits_38 (by decide) ?_
      refine lv_topi (fun x3_12 ex3_12 => ?_)
      have hw := hw x3_12 ex3_12
      refine lv_istore_n (lv' := [(3, .int x3_12), (2, .int x2_11), (0, .ref (g 0)), (1, .int x1)]) hx hb dX3_fits_39 rfl hl (by decide) rfl (fun ls hl => ?_)
      refine lv_aload_n hx hb dX3_fits_40 rfl (lv_at hl 2 rfl) ?_
      refine lv_iload_n hx hb dX3_fits_41 rfl (lv_at hl 1 rfl) ?_
      refine pcall (va_runV (As := [.int x2_11]) (rest := []) hC (c_X3_classOf l D g k mw mk ml mq mwt mn mt mcl mcr mth mkind_5 msort_6 mfirst_7 mblk_8 mfree_9 mfnd mfm msn x2_11 _ hw H) (cwV 1 hts gX3_fits_X3_classOf rfl rfl rfl (by decide +kernel) ⟨Nat.le_of_ble_eq_true rfl, Nat.le_of_ble_eq_true rfl⟩) (preV_p (va_recv hK hP (ci := 3) (q0 := 0) rfl rfl) hP hK hZ hS) rfl rfl hl.1 rfl (lv_room (Nat.le_of_ble_eq_true rfl)) dX3_fits_42 ⟨Nat.le_of_ble_eq_true rfl, Nat.le_of_ble_eq_true rfl⟩) (fun r_13 hw => ?_)
      refine lv_istore (lv' := [(4, .int r_13), (3, .int x3_12), (2, .int x2_11), (0, .ref (g 0)), (1, .int x1)]) hx hb dX3_fits_45 hl (by decide) rfl (fun ls hl => ?_)
      refine lv_iload hx hb dX3_fits_47 (lv_at hl 0 rfl) ?_
      refine lv_if_le (tgt := 113) hx hb dX3_fits_49 (by decide) (fun c_14 => ?_) (fun c_14 => ?_)
      · have hw := hw.1 c_14
        refine lv_aload_n hx hb dX3_fits_113 rfl (lv_at hl 3 rfl) ?_
        refine lv_iload_n hx hb dX3_fits_114 rfl (lv_at hl 2 rfl) ?_
        refine pcall (va_runV (As := [.int x2_11]) (rest := []) hC (c_X3_orderOf l D g k mw mk ml mq mwt mn mt mcl mcr mth mkind_5 msort_6 mfirst_7 mblk_8 mfree_9 mfnd mfm msn x2_11 _ hw H) (cwV 1 hts gX3_fits_X3_orderOf rfl rfl rfl (by decide +kernel) ⟨Nat.le_of_ble_eq_true rfl, Nat.le_of_ble_eq_true rfl⟩) (preV_p (va_recv hK hP (ci := 3) (q0 := 0) rfl rfl) hP hK hZ hS) rfl rfl hl.1 rfl (lv_room (Nat.le_of_ble_eq_true rfl)) dX3_fits_115 ⟨Nat.le_of_ble_eq_true rfl, Nat.le_of_ble_eq_true rfl⟩) (fun r_15 hw => ?_)
        refine lv_istore (lv' := [(5, .int r_15), (4, .int r_13), (3, .int x3_12), (2, .int x2_11), (0, .ref (g 0)), (1, .int x1)]) hx hb dX3_fits_118 hl (by decide) rfl (fun ls hl => ?_)
        refine lv_iload_n hx hb dX3_fits_120 rfl (lv_at hl 5 rfl) ?_
        refine lv_bipush (v := 16) hx hb dX3_fits_121 (by decide) ?_
        refine lv_irem hx hb dX3_fits_123 (by decide) ?_
        refine lv_if_ne (tgt := 152) hx hb dX3_fits_124 (by decide) (fun c_16 => ?_) (fun c_16 => ?_)
        · have hw := hw.1 c_16
          refine lv_iconst (v := 0) hx hb dX3_fits_152 (by decide) ?_
          exact hret _ _ _ (mkind_5, msort_6, mfirst_7, mblk_8, mfree_9) _ _ hP hD hS dX3_fits_153 nb_0 hw
        · have hw := hw.2 c_16
          refine lv_iload_n hx hb dX3_fits_127 rfl (lv_at hl 2 rfl) ?_
          refine lv_iconst (v := 1) hx hb dX3_fits_128 (by decide) ?_
          refine lv_iload hx hb dX3_fits_129 (lv_at hl 0 rfl) ?_
          refine lv_ishl hx hb dX3_fits_131 ?_
          obtain ⟨h_17, hw⟩ := hw
          refine lv_irem hx hb dX3_fits_132 h_17 ?_
          refine lv_if_ne (tgt := 152) hx hb dX3_fits_133 (by decide) (fun c_18 => ?_) (fun c_18 => ?_)
          · have hw := hw.1 c_18
            refine lv_iconst (v := 0) hx hb dX3_fits_152 (by decide) ?_
            exact hret _ _ _ (mkind_5, msort_6, mfirst_7, mblk_8, mfree_9) _ _ hP hD hS dX3_fits_153 nb_0 hw
          · have hw := hw.2 c_18
            refine lv_aload_n hx hb dX3_fits_136 rfl (lv_at hl 4 rfl) ?_
            refine lv_iload_n hx hb dX3_fits_137 rfl (lv_at hl 2 rfl) ?_
            refine lv_iconst (v := 1) hx hb dX3_fits_138 (by decide) ?_
            refine lv_iload hx hb dX3_fits_139 (lv_at hl 0 rfl) ?_
            refine lv_ishl hx hb dX3_fits_141 ?_
            refine pcall (va_runV (As := [.int x3_12, .int ((1 : Int32) <<< (r_15 &&& 31))]) (rest := []) hC (c_X3_areFree l D g k mw mk ml mq mwt mn mt mcl mcr mth mkind_5 msort_6 mfirst_7 mblk_8 mfree_9 mfnd mfm msn x3_12 ((1 : Int32) <<< (r_15 &&& 31)) _ hw H) (cwV 2 hts gX3_fits_X3_areFree rfl rfl rfl (by decide +kernel) ⟨Nat.le_of_ble_eq_true rfl, Nat.le_of_ble_eq_true rfl⟩) (preV_p (va_recv hK hP (ci := 3) (q0 := 0) rfl rfl) hP hK hZ hS) rfl rfl hl.1 rfl (lv_room (Nat.le_of_ble_eq_true rfl)) dX3_fits_142 ⟨Nat.le_of_ble_eq_true rfl, Nat.le_of_ble_eq_true rfl⟩) (fun r_19 hw => ?_)
            refine lv_if_eq (tgt := 152) hx hb dX3_fits_145 (by decide) (fun c_20 => ?_) (fun c_20 => ?_)
            · have hw := hw.1 c_20
              refine lv_iconst (v := 0) hx hb dX3_fits_152 (by decide) ?_
              exact hret _ _ _ (mkind_5, msort_6, mfirst_7, mblk_8, mfree_9) _ _ hP hD hS dX3_fits_153 nb_0 hw
            · have hw := hw.2 c_20
              refine lv_iconst (v := 1) hx hb dX3_fits_148 (by decide) ?_
              refine lv_goto (tgt := 153) hx hb dX3_fits_149 (by decide) ?_
              exact hret _ _ _ (mkind_5, msort_6, mfirst_7, mblk_8, mfree_9) _ _ hP hD hS dX3_fits_153 nb_1 hw
      · have hw := hw.2 c_14
        refine lv_iload_n hx hb dX3_fits_52 rfl (lv_at hl 4 rfl) ?_
        refine lv_bipush (v := 16) hx hb dX3_fits_53 (by decide) ?_
        refine lv_irem hx hb dX3_fits_55 (by decide) ?_
        refine lv_iload hx hb dX3_fits_56 (lv_at hl 0 rfl) ?_
        obtain ⟨h_21, hw⟩ := hw
        refine lv_irem hx hb dX3_fits_58 h_21 ?_
        refine lv_if_ne (tgt := 111) hx hb dX3_fits_59 (by decide) (fun c_22 => ?_) (fun c_22 => ?_)
        · have hw := hw.1 c_22
          refine lv_iconst (v := 0) hx hb dX3_fits_111 (by decide) ?_
          exact hret _ _ _ (mkind_5, msort_6, mfirst_7, mblk_8, mfree_9) _ _ hP hD hS dX3_fits_112 nb_0 hw
        · have hw := hw.2 c_22
          refine lv_iload_n hx hb dX3_fits_62 rfl (lv_at hl 4 rfl) ?_
          refine lv_bipush (v := 16) hx hb dX3_fits_63 (by decide) ?_
          refine lv_irem hx hb dX3_fits_65 (by decide) ?_
          refine lv_iload hx hb dX3_fits_66 (lv_at hl 0 rfl) ?_
          obtain ⟨h_23, hw⟩ := hw
          refine lv_idiv hx hb dX3_fits_68 h_23 ?_
          refine lv_bipush (v := 16) hx hb dX3_fits_69 (by decide) ?_
          refine lv_iload hx hb dX3_fits_71 (lv_at hl 0 rfl) ?_
          obtain ⟨h_24, hw⟩ := hw
          refine lv_idiv hx hb dX3_fits_73 h_24 ?_
          refine lv_icmp_ge (tgt := 111) hx hb dX3_fits_74 (by decide) (fun c_25 => ?_) (fun c_25 => ?_)
          · have hw := hw.1 c_25
            refine lv_iconst (v := 0) hx hb dX3_fits_111 (by decide) ?_
            exact hret _ _ _ (mkind_5, msort_6, mfirst_7, mblk_8, mfree_9) _ _ hP hD hS dX3_fits_112 nb_0 hw
          · have hw := hw.2 c_25
            refine lv_aload_n hx hb dX3_fits_77 rfl (lv_at hl 3 rfl) ?_
            refine va_get (D := D) (ci := 3) (v := .ref (g 6)) (C := RX3) (T := TX3) (N := 18) hx hb hts hinX3 hown hK hP 0 rfl rfl 10 (by decide) (hts (.fieldLink RX3 26 "SlabHeapModel" "kind" "[I") (by decide +kernel)) (fun _ h9 => h9) rfl dX3_fits_78 ?_
            refine lv_iload_n hx hb dX3_fits_81 rfl (lv_at hl 1 rfl) ?_
            obtain ⟨h_26, hw⟩ := hw
            refine va_iald hx hb hK hP 6 0 rfl rfl h_26 dX3_fits_82 ?_
            refine lv_if_eq (tgt := 107) hx hb dX3_fits_83 (by decide) (fun c_27 => ?_) (fun c_27 => ?_)
            · have hw := hw.1 c_27
              refine lv_iconst (v := 1) hx hb dX3_fits_107 (by decide) ?_
              refine lv_goto (tgt := 112) hx hb dX3_fits_108 (by decide) ?_
              exact hret _ _ _ (mkind_5, msort_6, mfirst_7, mblk_8, mfree_9) _ _ hP hD hS dX3_fits_112 nb_1 hw
            · have hw := hw.2 c_27
              refine lv_aload_n hx hb dX3_fits_86 rfl (lv_at hl 3 rfl) ?_
              refine va_get (D := D) (ci := 3) (v := .ref (g 6)) (C := RX3) (T := TX3) (N := 18) hx hb hts hinX3 hown hK hP 0 rfl rfl 10 (by decide) (hts (.fieldLink RX3 26 "SlabHeapModel" "kind" "[I") (by decide +kernel)) (fun _ h9 => h9) rfl dX3_fits_87 ?_
              refine lv_iload_n hx hb dX3_fits_90 rfl (lv_at hl 1 rfl) ?_
              obtain ⟨h_28, hw⟩ := hw
              refine va_iald hx hb hK hP 6 0 rfl rfl h_28 dX3_fits_91 ?_
              refine lv_iconst (v := 1) hx hb dX3_fits_92 (by decide) ?_
              refine lv_icmp_ne (tgt := 111) hx hb dX3_fits_93 (by decide) (fun c_29 => ?_) (fun c_29 => ?_)
              · have hw := hw.1 c_29
                refine lv_iconst (v := 0) hx hb dX3_fits_111 (by decide) ?_
                exact hret _ _ _ (mkind_5, msort_6, mfirst_7, mblk_8, mfree_9) _ _ hP hD hS dX3_fits_112 nb_0 hw
              · have hw := hw.2 c_29
                refine lv_aload_n hx hb dX3_fits_96 rfl (lv_at hl 3 rfl) ?_
                refine va_get (D := D) (ci := 3) (v := .ref (g 7)) (C := RX3) (T := TX3) (N := 18) hx hb hts hinX3 hown hK hP 0 rfl rfl 11 (by decide) (hts (.fieldLink RX3 29 "SlabHeapModel" "sort" "[I") (by decide +kernel)) (fun _ h9 => h9) rfl dX3_fits_97 ?_
                refine lv_iload_n hx hb dX3_fits_100 rfl (lv_at hl 1 rfl) ?_
                obtain ⟨h_30, hw⟩ := hw
                refine va_iald hx hb hK hP 7 0 rfl rfl h_30 dX3_fits_101 ?_
                refine lv_iload hx hb dX3_fits_102 (lv_at hl 0 rfl) ?_
                refine lv_icmp_ne (tgt := 111) hx hb dX3_fits_104 (by decide) (fun c_31 => ?_) (fun c_31 => ?_)
                · have hw := hw.1 c_31
                  refine lv_iconst (v := 0) hx hb dX3_fits_111 (by decide) ?_
                  exact hret _ _ _ (mkind_5, msort_6, mfirst_7, mblk_8, mfree_9) _ _ hP hD hS dX3_fits_112 nb_0 hw
                · have hw := hw.2 c_31
                  refine lv_iconst (v := 1) hx hb dX3_fits_107 (by decide) ?_
                  refine lv_goto (tgt := 112) hx hb dX3_fits_108 (by decide) ?_
                  exact hret _ _ _ (mkind_5, msort_6, mfirst_7, mblk_8, mfree_9) _ _ hP hD hS dX3_fits_112 nb_1 hw
    · have hw := hw.2 c_4
      refine lv_iconst (v := 0) hx hb dX3_fits_21 (by decide) ?_
      exact hret _ _ _ (mkind, msort, mfirst, mblk, mfree) _ _ hP hD hS dX3_fits_22 nb_0 hw
