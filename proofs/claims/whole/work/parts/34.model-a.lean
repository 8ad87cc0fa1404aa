-- X3_no
abbrev rmX3_no : Room := { frames := 0, cells := 0, slots := 0, locals := 0 }
set_option maxHeartbeats 4000000 in
set_option maxRecDepth 100000 in
theorem c_X3_no (l : Launch) (D : va_G) (g : Nat → Nat) (k : xC) (mw : Nat → Int32) (mk : Nat → Int32) (ml : Nat → Int32) (mq : Nat → Int32) (mwt : Nat → Int32) (mn : Int32) (mt : Int32) (mcl : Int32) (mcr : Int32) (mth : Int32) (mkind : Nat → Int32) (msort : Nat → Int32) (mfirst : Nat → Int32) (mblk : Nat → Int32) (mfree : Nat → Int32) (mfnd : Nat → Int32) (mfm : Int32) (msn : Nat → Int32) (x1 : Int32) (post : Int32 → Int32 → Prop) (hw : wX3_no post mt x1) : CMi l yX3_no wsX3_no rmX3_no D k [.ref (g 0), .int x1] (fun v : Int32 => (xM g k mw mk ml mq mwt mn v mcl mcr mth mkind msort mfirst mblk mfree mfnd mfm msn)) mt (fun r v => post r v) := by
  refine met_mi (cc := cX3_no) (nL := 2) (by decide) rfl (Nat.le_of_ble_eq_true rfl) ?_
  intro p e s m args below meth c Q A ls hC hP hD hA hK hZ hS hl hret
  obtain ⟨hx, hb, hml, hown, hts⟩ := id hC
  have hC : CallFix p m c cX3_no 2 s args wsX3_no RX3 := hC
  have hown : s.vm.findClass RX3 = some m.cls := hown
  have hl : lv_has ls 2 [(0, .ref (g 0)), (1, .int x1)] := hl
  have hP : va_P D vwCl (xM g k mw mk ml mq mwt mn mt mcl mcr mth mkind msort mfirst mblk mfree mfnd mfm msn) s.heap := hP
  have hD : va_D A (xM g k mw mk ml mq mwt mn mt mcl mcr mth mkind msort mfirst mblk mfree mfnd mfm msn) := hD
  have hinX3 : ∀ w ∈ wsX30, w ∈ wsX3_no := fun _ h => List.mem_cons_of_mem _ (List.mem_append_right _ h)
  unfold wX3_no at hw
  suffices main : ∀ (H : Heap) (locs : List Loc), va_P D vwCl (xM g k mw mk ml mq mwt mn mt mcl mcr mth mkind msort mfirst mblk mfree mfnd mfm msn) H → va_D A (xM g k mw mk ml mq mwt mn mt mcl mcr mth mkind msort mfirst mblk mfree mfnd mfm msn) → va_S A s.heap H locs → W p l e rmX3_no s m args below meth c H locs 0 0 Q (F0 m 0 ls []) from main _ _ hP hD hS
  intro H locs hP hD hS
  refine lv_aload_n hx hb dX3_no_0 rfl (lv_at hl 0 rfl) ?_
  refine lv_iload_n hx hb dX3_no_1 rfl (lv_at hl 1 rfl) ?_
  refine va_put (D := D) (ci := 3) (v := .int x1) (ty := .int) (C := RX3) (T := TX3) (N := 18) hx hb hts hinX3 tyX3 tyX3_ok nmX3 hown hK hP hD hS 0 rfl rfl 6 (by decide) (hts (.fieldLink RX3 51 "SlabHeapModel" "trouble" "I") (by decide +kernel)) (fun _ h9 => h9) rfl (by decide +kernel) rfl rfl (Nat.le_of_ble_eq_true rfl) dX3_no_2 (fun H locs hP hD hS => ?_)
  have hP : va_P D vwCl (xM g k mw mk ml mq mwt mn x1 mcl mcr mth mkind msort mfirst mblk mfree mfnd mfm msn) H := hP
  have hD : va_D A (xM g k mw mk ml mq mwt mn x1 mcl mcr mth mkind msort mfirst mblk mfree mfnd mfm msn) := hD
  refine lv_iconst (v := (-1)) hx hb dX3_no_5 (by decide) ?_
  exact hret _ _ _ x1 _ _ hP hD hS dX3_no_6 hw
-- X3_not
abbrev rmX3_not : Room := { frames := 0, cells := 0, slots := 0, locals := 0 }
set_option maxHeartbeats 4000000 in
set_option maxRecDepth 100000 in
theorem c_X3_not (l : Launch) (D : va_G) (g : Nat → Nat) (k : xC) (mw : Nat → Int32) (mk : Nat → Int32) (ml : Nat → Int32) (mq : Nat → Int32) (mwt : Nat → Int32) (mn : Int32) (mt : Int32) (mcl : Int32) (mcr : Int32) (mth : Int32) (mkind : Nat → Int32) (msort : Nat → Int32) (mfirst : Nat → Int32) (mblk : Nat → Int32) (mfree : Nat → Int32) (mfnd : Nat → Int32) (mfm : Int32) (msn : Nat → Int32) (x1 : Int32) (post : Int32 → Int32 → Prop) (hw : wX3_not post mt x1) : CMi l yX3_not wsX3_not rmX3_not D k [.ref (g 0), .int x1] (fun v : Int32 => (xM g k mw mk ml mq mwt mn v mcl mcr mth mkind msort mfirst mblk mfree mfnd mfm msn)) mt (fun r v => post r v) := by
  refine met_mz (cc := cX3_not) (nL := 2) (by decide) rfl (Nat.le_of_ble_eq_true rfl) ?_
  intro p e s m args below meth c Q A ls hC hP hD hA hK hZ hS hl hret
  obtain ⟨hx, hb, hml, hown, hts⟩ := id hC
  have hC : CallFix p m c cX3_not 2 s args wsX3_not RX3 := hC
  have hown : s.vm.findClass RX3 = some m.cls := hown
  have hl : lv_has ls 2 [(0, .ref (g 0)), (1, .int x1)] := hl
  have hP : va_P D vwCl (xM g k mw mk ml mq mwt mn mt mcl mcr mth mkind msort mfirst mblk mfree mfnd mfm msn) s.heap := hP
  have hD : va_D A (xM g k mw mk ml mq mwt mn mt mcl mcr mth mkind msort mfirst mblk mfree mfnd mfm msn) := hD
  have hinX3 : ∀ w ∈ wsX30, w ∈ wsX3_not := fun _ h => List.mem_cons_of_mem _ (List.mem_append_right _ h)
  unfold wX3_not at hw
  suffices main : ∀ (H : Heap) (locs : List Loc), va_P D vwCl (xM g k mw mk ml mq mwt mn mt mcl mcr mth mkind msort mfirst mblk mfree mfnd mfm msn) H → va_D A (xM g k mw mk ml mq mwt mn mt mcl mcr mth mkind msort mfirst mblk mfree mfnd mfm msn) → va_S A s.heap H locs → W p l e rmX3_not s m args below meth c H locs 0 0 Q (F0 m 0 ls []) from main _ _ hP hD hS
  intro H locs hP hD hS
  refine lv_aload_n hx hb dX3_not_0 rfl (lv_at hl 0 rfl) ?_
  refine lv_iload_n hx hb dX3_not_1 rfl (lv_at hl 1 rfl) ?_
  refine va_put (D := D) (ci := 3) (v := .int x1) (ty := .int) (C := RX3) (T := TX3) (N := 18) hx hb hts hinX3 tyX3 tyX3_ok nmX3 hown hK hP hD hS 0 rfl rfl 6 (by decide) (hts (.fieldLink RX3 51 "SlabHeapModel" "trouble" "I") (by decide +kernel)) (fun _ h9 => h9) rfl (by decide +kernel) rfl rfl (Nat.le_of_ble_eq_true rfl) dX3_not_2 (fun H locs hP hD hS => ?_)
  have hP : va_P D vwCl (xM g k mw mk ml mq mwt mn x1 mcl mcr mth mkind msort mfirst mblk mfree mfnd mfm msn) H := hP
  have hD : va_D A (xM g k mw mk ml mq mwt mn x1 mcl mcr mth mkind msort mfirst mblk mfree mfnd mfm msn) := hD
  refine lv_iconst (v := 0) hx hb dX3_not_5 (by decide) ?_
  exact hret _ _ _ x1 _ _ hP hD hS dX3_not_6 nb_0 hw
-- X3_is
abbrev rmX3_is : Room := { frames := 0, cells := 0, slots := 0, locals := 0 }
set_option maxHeartbeats 4000000 in
set_option maxRecDepth 100000 in
theorem c_X3_is (l : Launch) (D : va_G) (g : Nat → Nat) (k : xC) (mw : Nat → Int32) (mk : Nat → Int32) (ml : Nat → Int32) (mq : Nat → Int32) (mwt : Nat → Int32) (mn : Int32) (mt : Int32) (mcl : Int32) (mcr : Int32) (mth : Int32) (mkind : Nat → Int32) (msort : Nat → Int32) (mfirst : Nat → Int32) (mblk : Nat → Int32) (mfree : Nat → Int32) (mfnd : Nat → Int32) (mfm : Int32) (msn : Nat → Int32) (x1 : Int32) (x2 : Int32) (x3 : Int32) (post : Int32 → Prop) (hw : wX3_is post x1 x2 x3) : CPi l yX3_is wsX3_is rmX3_is D k [.ref (g 0), .int x1, .int x2, .int x3] (xM g k mw mk ml mq mwt mn mt mcl mcr mth mkind msort mfirst mblk mfree mfnd mfm msn) post := by
  refine met_pz (cc := cX3_is) (nL := 4) (by decide) rfl (Nat.le_of_ble_eq_true rfl) ?_
  intro p e s m args below meth c Q ls hC hP hK hZ hS hl hret
  obtain ⟨hx, hb, hml, hown, hts⟩ := id hC
  have hC : CallFix p m c cX3_is 4 s args wsX3_is RX3 := hC
  have hown : s.vm.findClass RX3 = some m.cls := hown
  have hl : lv_has ls 4 [(0, .ref (g 0)), (1, .int x1), (2, .int x2), (3, .int x3)] := hl
  unfold wX3_is at hw
  refine lv_iload_n hx hb dX3_is_0 rfl (lv_at hl 1 rfl) ?_
  refine lv_iload_n hx hb dX3_is_1 rfl (lv_at hl 2 rfl) ?_
  refine lv_icmp_lt (tgt := 14) hx hb dX3_is_2 (by decide) (fun c_1 => ?_) (fun c_1 => ?_)
  · have hw := hw.1 c_1
    refine lv_iconst (v := 0) hx hb dX3_is_14 (by decide) ?_
    exact hret _ _ _ dX3_is_15 nb_0 hw
  · have hw := hw.2 c_1
    refine lv_iload_n hx hb dX3_is_5 rfl (lv_at hl 1 rfl) ?_
    refine lv_iload_n hx hb dX3_is_6 rfl (lv_at hl 3 rfl) ?_
    refine lv_icmp_gt (tgt := 14) hx hb dX3_is_7 (by decide) (fun c_2 => ?_) (fun c_2 => ?_)
    · have hw := hw.1 c_2
      refine lv_iconst (v := 0) hx hb dX3_is_14 (by decide) ?_
      exact hret _ _ _ dX3_is_15 nb_0 hw
    · have hw := hw.2 c_2
      refine lv_iconst (v := 1) hx hb dX3_is_10 (by decide) ?_
      refine lv_goto (tgt := 15) hx hb dX3_is_11 (by decide) ?_
      exact hret _ _ _ dX3_is_15 nb_1 hw
-- X3_write
abbrev rmX3_write : Room := { frames := 0, cells := 0, slots := 0, locals := 0 }
set_option maxHeartbeats 4000000 in
set_option maxRecDepth 100000 in
theorem c_X3_write (l : Launch) (D : va_G) (g : Nat → Nat) (k : xC) (mw : Nat → Int32) (mk : Nat → Int32) (ml : Nat → Int32) (mq : Nat → Int32) (mwt : Nat → Int32) (mn : Int32) (mt : Int32) (mcl : Int32) (mcr : Int32) (mth : Int32) (mkind : Nat → Int32) (msort : Nat → Int32) (mfirst : Nat → Int32) (mblk : Nat → Int32) (mfree : Nat → Int32) (mfnd : Nat → Int32) (mfm : Int32) (msn : Nat → Int32) (x1 : Int32) (x2 : Int32) (post : (Nat → Int32) → (Nat → Int32) → (Nat → Int32) → Int32 → Prop) (hw : wX3_write post mw mq mwt mn x1 x2) : CMv l yX3_write wsX3_write rmX3_write D k [.ref (g 0), .int x1, .int x2] (fun v : (Nat → Int32) × (Nat → Int32) × (Nat → Int32) × Int32 => (xM g k (v.1) mk ml (v.2.1) (v.2.2.1) (v.2.2.2) mt mcl mcr mth mkind msort mfirst mblk mfree mfnd mfm msn)) (mw, mq, mwt, mn) (fun v => post (v.1) (v.2.1) (v.2.2.1) (v.2.2.2)) := by
  refine met_mv (cc := cX3_write) (nL := 4) (by decide) rfl (Nat.le_of_ble_eq_true rfl) ?_
  intro p e s m args below meth c Q A ls hC hP hD hA hK hZ hS hl hret
  obtain ⟨hx, hb, hml, hown, hts⟩ := id hC
  have hC : CallFix p m c cX3_write 4 s args wsX3_write RX3 := hC
  have hown : s.vm.findClass RX3 = some m.cls := hown
  have hl : lv_has ls 4 [(0, .ref (g 0)), (1, .int x1), (2, .int x2)] := hl
  have hP : va_P D vwCl (xM g k mw mk ml mq mwt mn mt mcl mcr mth mkind msort mfirst mblk mfree mfnd mfm msn) s.heap := hP
  have hD : va_D A (xM g k mw mk ml mq mwt mn mt mcl mcr mth mkind msort mfirst mblk mfree mfnd mfm msn) := hD
  have hinX3 : ∀ w ∈ wsX30, w ∈ wsX3_write := fun _ h => List.mem_cons_of_mem _ (List.mem_append_right _ h)
  unfold wX3_write at hw
  suffices main : ∀ (H : Heap) (locs : List Loc), va_P D vwCl (xM g k mw mk ml mq mwt mn mt mcl mcr mth mkind msort mfirst mblk mfree mfnd mfm msn) H → va_D A (xM g k mw mk ml mq mwt mn mt mcl mcr mth mkind msort mfirst mblk mfree mfnd mfm msn) → va_S A s.heap H locs → W p l e rmX3_write s m args below meth c H locs 0 0 Q (F0 m 0 ls []) from main _ _ hP hD hS
  intro H locs hP hD hS
  refine lv_aload_n hx hb dX3_write_0 rfl (lv_at hl 0 rfl) ?_
  refine va_get (D := D) (ci := 3) (v := .ref (g 1)) (C := RX3) (T := TX3) (N := 18) hx hb hts hinX3 hown hK hP 0 rfl rfl 0 (by decide) (hts (.fieldLink RX3 7 "SlabHeapModel" "words" "[I") (by decide +kernel)) (fun _ h9 => h9) rfl dX3_write_1 ?_
  refine lv_iload_n hx hb dX3_write_4 rfl (lv_at hl 1 rfl) ?_
  refine lv_iload_n hx hb dX3_write_5 rfl (lv_at hl 2 rfl) ?_
  obtain ⟨h_1, hw⟩ := hw
  refine va_iast hx hb hK hP hD hS 1 0 rfl rfl h_1 dX3_write_6 (fun H locs hP hD hS => ?_)
  have hP : va_P D vwCl (xM g k (upd mw x1.toNatClampNeg x2) mk ml mq mwt mn mt mcl mcr mth mkind msort mfirst mblk mfree mfnd mfm msn) H := hP
  have hD : va_D A (xM g k (upd mw x1.toNatClampNeg x2) mk ml mq mwt mn mt mcl mcr mth mkind msort mfirst mblk mfree mfnd mfm msn) := hD
  refine lv_iload_n hx hb dX3_write_7 rfl (lv_at hl 1 rfl) ?_
  refine lv_bipush (v := 8) hx hb dX3_write_8 (by decide) ?_
  refine lv_idiv hx hb dX3_write_10 (by decide) ?_
  refine lv_topi (fun x3_2 ex3_2 => ?_)
  have hw := hw x3_2 ex3_2
  refine lv_istore_n (lv' := [(3, .int x3_2), (0, .ref (g 0)), (1, .int x1), (2, .int x2)]) hx hb dX3_write_11 rfl hl (by decide) rfl (fun ls hl => ?_)
  refine lv_aload_n hx hb dX3_write_12 rfl (lv_at hl 1 rfl) ?_
  refine va_get (D := D) (ci := 3) (v := .ref (g 4)) (C := RX3) (T := TX3) (N := 18) hx hb hts hinX3 hown hK hP 0 rfl rfl 3 (by decide) (hts (.fieldLink RX3 20 "SlabHeapModel" "isWaiting" "[Z") (by decide +kernel)) (fun _ h9 => h9) rfl dX3_write_13 ?_
  refine lv_iload_n hx hb dX3_write_16 rfl (lv_at hl 0 rfl) ?_
  obtain ⟨h_3, hw⟩ := hw
  refine va_zald hx hb hK hP 4 1 rfl rfl h_3 dX3_write_17 ?_
  refine lv_if_eq (tgt := 22) hx hb dX3_write_18 (by decide) (fun c_4 => ?_) (fun c_4 => ?_)
  · have hw := hw.1 c_4
    refine lv_aload_n hx hb dX3_write_22 rfl (lv_at hl 1 rfl) ?_
    refine va_get (D := D) (ci := 3) (v := .ref (g 4)) (C := RX3) (T := TX3) (N := 18) hx hb hts hinX3 hown hK hP 0 rfl rfl 3 (by decide) (hts (.fieldLink RX3 20 "SlabHeapModel" "isWaiting" "[Z") (by decide +kernel)) (fun _ h9 => h9) rfl dX3_write_23 ?_
    refine lv_iload_n hx hb dX3_write_26 rfl (lv_at hl 0 rfl) ?_
    refine lv_iconst (v := 1) hx hb dX3_write_27 (by decide) ?_
    obtain ⟨h_5, hw⟩ := hw
    refine va_zast hx hb hK hP hD hS 4 1 rfl rfl h_5 dX3_write_28 (fun H locs hP hD hS => ?_)
    have hP : va_P D vwCl (xM g k (upd mw x1.toNatClampNeg x2) mk ml (upd mq x3_2.toNatClampNeg (vp_nar .boolean 1)) mwt mn mt mcl mcr mth mkind msort mfirst mblk mfree mfnd mfm msn) H := hP
    have hD : va_D A (xM g k (upd mw x1.toNatClampNeg x2) mk ml (upd mq x3_2.toNatClampNeg (vp_nar .boolean 1)) mwt mn mt mcl mcr mth mkind msort mfirst mblk mfree mfnd mfm msn) := hD
    refine lv_aload_n hx hb dX3_write_29 rfl (lv_at hl 1 rfl) ?_
    refine va_get (D := D) (ci := 3) (v := .ref (g 5)) (C := RX3) (T := TX3) (N := 18) hx hb hts hinX3 hown hK hP 0 rfl rfl 4 (by decide) (hts (.fieldLink RX3 23 "SlabHeapModel" "waiting" "[I") (by decide +kernel)) (fun _ h9 => h9) rfl dX3_write_30 ?_
    refine lv_aload_n hx hb dX3_write_33 rfl (lv_at hl 1 rfl) ?_
    refine va_get (D := D) (ci := 3) (v := .int mn) (C := RX3) (T := TX3) (N := 18) hx hb hts hinX3 hown hK hP 0 rfl rfl 5 (by decide) (hts (.fieldLink RX3 54 "SlabHeapModel" "waits" "I") (by decide +kernel)) (fun _ h9 => h9) rfl dX3_write_34 ?_
    refine lv_iload_n hx hb dX3_write_37 rfl (lv_at hl 0 rfl) ?_
    obtain ⟨h_6, hw⟩ := hw
    refine va_iast hx hb hK hP hD hS 5 0 rfl rfl h_6 dX3_write_38 (fun H locs hP hD hS => ?_)
    have hP : va_P D vwCl (xM g k (upd mw x1.toNatClampNeg x2) mk ml (upd mq x3_2.toNatClampNeg (vp_nar .boolean 1)) (upd mwt mn.toNatClampNeg x3_2) mn mt mcl mcr mth mkind msort mfirst mblk mfree mfnd mfm msn) H := hP
    have hD : va_D A (xM g k (upd mw x1.toNatClampNeg x2) mk ml (upd mq x3_2.toNatClampNeg (vp_nar .boolean 1)) (upd mwt mn.toNatClampNeg x3_2) mn mt mcl mcr mth mkind msort mfirst mblk mfree mfnd mfm msn) := hD
    refine lv_aload_n hx hb dX3_write_39 rfl (lv_at hl 1 rfl) ?_
    refine lv_dup hx hb dX3_write_40 rfl ?_
    refine va_get (D := D) (ci := 3) (v := .int mn) (C := RX3) (T := TX3) (N := 18) hx hb hts hinX3 hown hK hP 0 rfl rfl 5 (by decide) (hts (.fieldLink RX3 54 "SlabHeapModel" "waits" "I") (by decide +kernel)) (fun _ h9 => h9) rfl dX3_write_41 ?_
    refine lv_iconst (v := 1) hx hb dX3_write_44 (by decide) ?_
    refine lv_iadd hx hb dX3_write_45 ?_
    refine va_put (D := D) (ci := 3) (v := .int (mn + 1)) (ty := .int) (C := RX3) (T := TX3) (N := 18) hx hb hts hinX3 tyX3 tyX3_ok nmX3 hown hK hP hD hS 0 rfl rfl 5 (by decide) (hts (.fieldLink RX3 54 "SlabHeapModel" "waits" "I") (by decide +kernel)) (fun _ h9 => h9) rfl (by decide +kernel) rfl rfl (Nat.le_of_ble_eq_true rfl) dX3_write_46 (fun H locs hP hD hS => ?_)
    have hP : va_P D vwCl (xM g k (upd mw x1.toNatClampNeg x2) mk ml (upd mq x3_2.toNatClampNeg (vp_nar .boolean 1)) (upd mwt mn.toNatClampNeg x3_2) (mn + 1) mt mcl mcr mth mkind msort mfirst mblk mfree mfnd mfm msn) H := hP
    have hD : va_D A (xM g k (upd mw x1.toNatClampNeg x2) mk ml (upd mq x3_2.toNatClampNeg (vp_nar .boolean 1)) (upd mwt mn.toNatClampNeg x3_2) (mn + 1) mt mcl mcr mth mkind msort mfirst mblk mfree mfnd mfm msn) := hD
    exact hret _ _ ((upd mw x1.toNatClampNeg x2), (upd mq x3_2.toNatClampNeg (vp_nar .boolean 1)), (upd mwt mn.toNatClampNeg x3_2), (mn + 1)) _ _ hP hD hS dX3_write_49 hw
  · have hw := hw.2 c_4
    exact hret _ _ ((upd mw x1.toNatClampNeg x2), mq, mwt, mn) _ _ hP hD hS dX3_write_21 hw
-- X3_headOf
abbrev rmX3_headOf : Room := { frames := 0, cells := 0, slots := 0, locals := 0 }
set_option maxHeartbeats 4000000 in
set_option maxRecDepth 100000 in
theorem c_X3_headOf (l : Launch) (D : va_G) (g : Nat → Nat) (k : xC) (mw : Nat → Int32) (mk : Nat → Int32) (ml : Nat → Int32) (mq : Nat → Int32) (mwt : Nat → Int32) (mn : Int32) (mt : Int32) (mcl : Int32) (mcr : Int32) (mth : Int32) (mkind : Nat → Int32) (msort : Nat → Int32) (mfirst : Nat → Int32) (mblk : Nat → Int32) (mfree : Nat → Int32) (mfnd : Nat → Int32) (mfm : Int32) (msn : Nat → Int32) (x1 : Int32) (x2 : Int32) (x3 : Int32) (post : Int32 → Prop) (hw : wX3_headOf post x1 x2 x3) : CPi l yX3_headOf wsX3_headOf rmX3_headOf D k [.ref (g 0), .int x1, .int x2, .int x3] (xM g k mw mk ml mq mwt mn mt mcl mcr mth mkind msort mfirst mblk mfree mfnd mfm msn) post := by
  refine met_pi (cc := cX3_headOf) (nL := 5) (by decide) rfl (Nat.le_of_ble_eq_true rfl) ?_
  intro p e s m args below meth c Q ls hC hP hK hZ hS hl hret
  obtain ⟨hx, hb, hml, hown, hts⟩ := id hC
  have hC : CallFix p m c cX3_headOf 5 s args wsX3_headOf RX3 := hC
  have hown : s.vm.findClass RX3 = some m.cls := hown
  have hl : lv_has ls 5 [(0, .ref (g 0)), (1, .int x1), (2, .int x2), (3, .int x3)] := hl
  unfold wX3_headOf at hw
  refine lv_bipush (v := 31) hx hb dX3_headOf_0 (by decide) ?_
  refine lv_iload_n hx hb dX3_headOf_2 rfl (lv_at hl 1 rfl) ?_
  refine lv_imul hx hb dX3_headOf_3 ?_
  refine lv_bipush (v := 7) hx hb dX3_headOf_4 (by decide) ?_
  refine lv_iload_n hx hb dX3_headOf_6 rfl (lv_at hl 2 rfl) ?_
  refine lv_imul hx hb dX3_headOf_7 ?_
  refine lv_iadd hx hb dX3_headOf_8 ?_
  refine lv_bipush (v := 13) hx hb dX3_headOf_9 (by decide) ?_
  refine lv_iload_n hx hb dX3_headOf_11 rfl (lv_at hl 3 rfl) ?_
  refine lv_imul hx hb dX3_headOf_12 ?_
  refine lv_iadd hx hb dX3_headOf_13 ?_
  refine lv_bipush (v := 90) hx hb dX3_headOf_14 (by decide) ?_
  refine lv_iadd hx hb dX3_headOf_16 ?_
  refine lv_sipush (v := 512) hx hb dX3_headOf_17 (by decide) ?_
  refine lv_irem hx hb dX3_headOf_20 (by decide) ?_
  refine lv_iconst (v := 1) hx hb dX3_headOf_21 (by decide) ?_
  refine lv_iadd hx hb dX3_headOf_22 ?_
  refine lv_topi (fun x4_1 ex4_1 => ?_)
  have hw := hw x4_1 ex4_1
  refine lv_istore (lv' := [(4, .int x4_1), (0, .ref (g 0)), (1, .int x1), (2, .int x2), (3, .int x3)]) hx hb dX3_headOf_23 hl (by decide) rfl (fun ls hl => ?_)
  refine lv_iload hx hb dX3_headOf_25 (lv_at hl 0 rfl) ?_
  refine lv_ldc (v := 4194304) hx hb hown (hts (.constant RX3 57 4194304) (by decide +kernel)) dX3_headOf_27 ?_
  refine lv_imul hx hb dX3_headOf_29 ?_
  refine lv_iload_n hx hb dX3_headOf_30 rfl (lv_at hl 3 rfl) ?_
  refine lv_sipush (v := 2048) hx hb dX3_headOf_31 (by decide) ?_
  refine lv_imul hx hb dX3_headOf_34 ?_
  refine lv_iadd hx hb dX3_headOf_35 ?_
  refine lv_iload_n hx hb dX3_headOf_36 rfl (lv_at hl 4 rfl) ?_
  refine lv_iadd hx hb dX3_headOf_37 ?_
  exact hret _ _ _ dX3_headOf_38 hw
-- X3_sizeAt
abbrev rmX3_sizeAt : Room := { frames := 0, cells := 0, slots := 0, locals := 0 }
set_option maxHeartbeats 4000000 in
set_option maxRecDepth 100000 in
theorem c_X3_sizeAt (l : Launch) (D : va_G) (g : Nat → Nat) (k : xC) (mw : Nat → Int32) (mk : Nat → Int32) (ml : Nat → Int32) (mq : Nat → Int32) (mwt : Nat → Int32) (mn : Int32) (mt : Int32) (mcl : Int32) (mcr : Int32) (mth : Int32) (mkind : Nat → Int32) (msort : Nat → Int32) (mfirst : Nat → Int32) (mblk : Nat → Int32) (mfree : Nat → Int32) (mfnd : Nat → Int32) (mfm : Int32) (msn : Nat → Int32) (x1 : Int32) (post : Int32 → Prop) (hw : wX3_sizeAt post mw x1) : CPi l yX3_sizeAt wsX3_sizeAt rmX3_sizeAt D k [.ref (g 0), .int x1] (xM g k mw mk ml mq mwt mn mt mcl mcr mth mkind msort mfirst mblk mfree mfnd mfm msn) post := by
  refine met_pi (cc := cX3_sizeAt) (nL := 2) (by decide) rfl (Nat.le_of_ble_eq_true rfl) ?_
  intro p e s m args below meth c Q ls hC hP hK hZ hS hl hret
  obtain ⟨hx, hb, hml, hown, hts⟩ := id hC
  have hC : CallFix p m c cX3_sizeAt 2 s args wsX3_sizeAt RX3 := hC
  have hown : s.vm.findClass RX3 = some m.cls := hown
  have hl : lv_has ls 2 [(0, .ref (g 0)), (1, .int x1)] := hl
  have hinX3 : ∀ w ∈ wsX30, w ∈ wsX3_sizeAt := fun _ h => List.mem_cons_of_mem _ (List.mem_append_right _ h)
  unfold wX3_sizeAt at hw
  refine lv_aload_n hx hb dX3_sizeAt_0 rfl (lv_at hl 0 rfl) ?_
  refine va_get (D := D) (ci := 3) (v := .ref (g 1)) (C := RX3) (T := TX3) (N := 18) hx hb hts hinX3 hown hK hP 0 rfl rfl 0 (by decide) (hts (.fieldLink RX3 7 "SlabHeapModel" "words" "[I") (by decide +kernel)) (fun _ h9 => h9) rfl dX3_sizeAt_1 ?_
  refine lv_iload_n hx hb dX3_sizeAt_4 rfl (lv_at hl 1 rfl) ?_
  obtain ⟨h_1, hw⟩ := hw
  refine va_iald hx hb hK hP 1 0 rfl rfl h_1 dX3_sizeAt_5 ?_
  refine lv_bipush (v := 11) hx hb dX3_sizeAt_6 (by decide) ?_
  refine lv_ishr hx hb dX3_sizeAt_8 ?_
  refine lv_sipush (v := 2047) hx hb dX3_sizeAt_9 (by decide) ?_
  refine lv_iand hx hb dX3_sizeAt_12 ?_
  exact hret _ _ _ dX3_sizeAt_13 hw
-- X3_refsAt
abbrev rmX3_refsAt : Room := { frames := 0, cells := 0, slots := 0, locals := 0 }
set_option maxHeartbeats 4000000 in
set_option maxRecDepth 100000 in
theorem c_X3_refsAt (l : Launch) (D : va_G) (g : Nat → Nat) (k : xC) (mw : Nat → Int32) (mk : Nat → Int32) (ml : Nat → Int32) (mq : Nat → Int32) (mwt : Nat → Int32) (mn : Int32) (mt : Int32) (mcl : Int32) (mcr : Int32) (mth : Int32) (mkind : Nat → Int32) (msort : Nat → Int32) (mfirst : Nat → Int32) (mblk : Nat → Int32) (mfree : Nat → Int32) (mfnd : Nat → Int32) (mfm : Int32) (msn : Nat → Int32) (x1 : Int32) (post : Int32 → Prop) (hw : wX3_refsAt post mw x1) : CPi l yX3_refsAt wsX3_refsAt rmX3_refsAt D k [.ref (g 0), .int x1] (xM g k mw mk ml mq mwt mn mt mcl mcr mth mkind msort mfirst mblk mfree mfnd mfm msn) post := by
  refine met_pi (cc := cX3_refsAt) (nL := 2) (by decide) rfl (Nat.le_of_ble_eq_true rfl) ?_
  intro p e s m args below meth c Q ls hC hP hK hZ hS hl hret
  obtain ⟨hx, hb, hml, hown, hts⟩ := id hC
  have hC : CallFix p m c cX3_refsAt 2 s args wsX3_refsAt RX3 := hC
  have hown : s.vm.findClass RX3 = some m.cls := hown
  have hl : lv_has ls 2 [(0, .ref (g 0)), (1, .int x1)] := hl
  have hinX3 : ∀ w ∈ wsX30, w ∈ wsX3_refsAt := fun _ h => List.mem_cons_of_mem _ (List.mem_append_right _ h)
  unfold wX3_refsAt at hw
  refine lv_aload_n hx hb dX3_refsAt_0 rfl (lv_at hl 0 rfl) ?_
  refine va_get (D := D) (ci := 3) (v := .ref (g 1)) (C := RX3) (T := TX3) (N := 18) hx hb hts hinX3 hown hK hP 0 rfl rfl 0 (by decide) (hts (.fieldLink RX3 7 "SlabHeapModel" "words" "[I") (by decide +kernel)) (fun _ h9 => h9) rfl dX3_refsAt_1 ?_
  refine lv_iload_n hx hb dX3_refsAt_4 rfl (lv_at hl 1 rfl) ?_
  obtain ⟨h_1, hw⟩ := hw
  refine va_iald hx hb hK hP 1 0 rfl rfl h_1 dX3_refsAt_5 ?_
  refine lv_sipush (v := 2047) hx hb dX3_refsAt_6 (by decide) ?_
  refine lv_iand hx hb dX3_refsAt_9 ?_
  exact hret _ _ _ dX3_refsAt_10 hw
-- X3_isHead
abbrev rmX3_isHead : Room := { frames := 1, cells := 0, slots := 0, locals := 24 }
set_option maxHeartbeats 4000000 in
set_option maxRecDepth 100000 in
theorem c_X3_isHead (l : Launch) (D : va_G) (g : Nat → Nat) (k : xC) (mw : Nat → Int32) (mk : Nat → Int32) (ml : Nat → Int32) (mq : Nat → Int32) (mwt : Nat → Int32) (mn : Int32) (mt : Int32) (mcl : Int32) (mcr : Int32) (mth : Int32) (mkind : Nat → Int32) (msort : Nat → Int32) (mfirst : Nat → Int32) (mblk : Nat → Int32) (mfree : Nat → Int32) (mfnd : Nat → Int32) (mfm : Int32) (msn : Nat → Int32) (x1 : Int32) (post : Int32 → Prop) (hw : wX3_isHead post mw x1) : CPi l yX3_isHead wsX3_isHead rmX3_isHead D k [.ref (g 0), .int x1] (xM g k mw mk ml mq mwt mn mt mcl mcr mth mkind msort mfirst mblk mfree mfnd mfm msn) post := by
  refine met_pz (cc := cX3_isHead) (nL := 4) (by decide) rfl (Nat.le_of_ble_eq_true rfl) ?_
  intro p e s m args below meth c Q ls hC hP hK hZ hS hl hret
  obtain ⟨hx, hb, hml, hown, hts⟩ := id hC
  have hC : CallFix p m c cX3_isHead 4 s args wsX3_isHead RX3 := hC
  have hown : s.vm.findClass RX3 = some m.cls := hown
  have hl : lv_has ls 4 [(0, .ref (g 0)), (1, .int x1)] := hl
  have hinX3 : ∀ w ∈ wsX30, w ∈ wsX3_isHead := fun _ h => List.mem_cons_of_mem _ (List.mem_append_right _ h)
  unfold wX3_isHead at hw
  refine lv_aload_n hx hb dX3_isHead_0 rfl (lv_at hl 0 rfl) ?_
  refine lv_iload_n hx hb dX3_isHead_1 rfl (lv_at hl 1 rfl) ?_
  refine pcall (va_runV (As := [.int x1]) (rest := []) hC (c_X3_sizeAt l D g k mw mk ml mq mwt mn mt mcl mcr mth mkind msort mfirst mblk mfree mfnd mfm msn x1 _ hw s.heap) (cwV 1 hts gX3_isHead_X3_sizeAt rfl rfl rfl (by decide +kernel) ⟨Nat.le_of_ble_eq_true rfl, Nat.le_of_ble_eq_true rfl⟩) (preV_p (va_recv hK hP (ci := 3) (q0 := 0) rfl rfl) hP hK hZ hS) rfl rfl hl.1 rfl (lv_room (Nat.le_of_ble_eq_true rfl)) dX3_isHead_2 ⟨Nat.le_of_ble_eq_true rfl, Nat.le_of_ble_eq_true rfl⟩) (fun r_1 hw => ?_)
  refine lv_istore_n (lv' := [(2, .int r_1), (0, .ref (g 0)), (1, .int x1)]) hx hb dX3_isHead_5 rfl hl (by decide) rfl (fun ls hl => ?_)
  refine lv_aload_n hx hb dX3_isHead_6 rfl (lv_at hl 1 rfl) ?_
  refine lv_iload_n hx hb dX3_isHead_7 rfl (lv_at hl 2 rfl) ?_
  refine pcall (va_runV (As := [.int x1]) (rest := []) hC (c_X3_refsAt l D g k mw mk ml mq mwt mn mt mcl mcr mth mkind msort mfirst mblk mfree mfnd mfm msn x1 _ hw s.heap) (cwV 1 hts gX3_isHead_X3_refsAt rfl rfl rfl (by decide +kernel) ⟨Nat.le_of_ble_eq_true rfl, Nat.le_of_ble_eq_true rfl⟩) (preV_p (va_recv hK hP (ci := 3) (q0 := 0) rfl rfl) hP hK hZ hS) rfl rfl hl.1 rfl (lv_room (Nat.le_of_ble_eq_true rfl)) dX3_isHead_8 ⟨Nat.le_of_ble_eq_true rfl, Nat.le_of_ble_eq_true rfl⟩) (fun r_2 hw => ?_)
  refine lv_istore_n (lv' := [(3, .int r_2), (2, .int r_1), (0, .ref (g 0)), (1, .int x1)]) hx hb dX3_isHead_11 rfl hl (by decide) rfl (fun ls hl => ?_)
  refine lv_iload_n hx hb dX3_isHead_12 rfl (lv_at hl 1 rfl) ?_
  refine lv_if_le (tgt := 41) hx hb dX3_isHead_13 (by decide) (fun c_3 => ?_) (fun c_3 => ?_)
  · have hw := hw.1 c_3
    refine lv_iconst (v := 0) hx hb dX3_isHead_41 (by decide) ?_
    exact hret _ _ _ dX3_isHead_42 nb_0 hw
  · have hw := hw.2 c_3
    refine lv_iload_n hx hb dX3_isHead_16 rfl (lv_at hl 0 rfl) ?_
    refine lv_iload_n hx hb dX3_isHead_17 rfl (lv_at hl 1 rfl) ?_
    refine lv_icmp_gt (tgt := 41) hx hb dX3_isHead_18 (by decide) (fun c_4 => ?_) (fun c_4 => ?_)
    · have hw := hw.1 c_4
      refine lv_iconst (v := 0) hx hb dX3_isHead_41 (by decide) ?_
      exact hret _ _ _ dX3_isHead_42 nb_0 hw
    · have hw := hw.2 c_4
      refine lv_aload_n hx hb dX3_isHead_21 rfl (lv_at hl 2 rfl) ?_
      refine va_get (D := D) (ci := 3) (v := .ref (g 1)) (C := RX3) (T := TX3) (N := 18) hx hb hts hinX3 hown hK hP 0 rfl rfl 0 (by decide) (hts (.fieldLink RX3 7 "SlabHeapModel" "words" "[I") (by decide +kernel)) (fun _ h9 => h9) rfl dX3_isHead_22 ?_
      refine lv_iload_n hx hb dX3_isHead_25 rfl (lv_at hl 3 rfl) ?_
      obtain ⟨h_5, hw⟩ := hw
      refine va_iald hx hb hK hP 1 0 rfl rfl h_5 dX3_isHead_26 ?_
      refine lv_aload_n hx hb dX3_isHead_27 rfl (lv_at hl 2 rfl) ?_
      refine lv_iload_n hx hb dX3_isHead_28 rfl (lv_at hl 3 rfl) ?_
      refine lv_iload_n hx hb dX3_isHead_29 rfl (lv_at hl 1 rfl) ?_
      refine lv_iload_n hx hb dX3_isHead_30 rfl (lv_at hl 0 rfl) ?_
      refine pcall (va_runV (As := [.int x1, .int r_1, .int r_2]) (rest := [.int (mw x1.toNatClampNeg)]) hC (c_X3_headOf l D g k mw mk ml mq mwt mn mt mcl mcr mth mkind msort mfirst mblk mfree mfnd mfm msn x1 r_1 r_2 _ hw s.heap) (cwV 3 hts gX3_isHead_X3_headOf rfl rfl rfl (by decide +kernel) ⟨Nat.le_of_ble_eq_true rfl, Nat.le_of_ble_eq_true rfl⟩) (preV_p (va_recv hK hP (ci := 3) (q0 := 0) rfl rfl) hP hK hZ hS) rfl rfl hl.1 rfl (lv_room (Nat.le_of_ble_eq_true rfl)) dX3_isHead_31 ⟨Nat.le_of_ble_eq_true rfl, Nat.le_of_ble_eq_true rfl⟩) (fun r_6 hw => ?_)
      refine lv_icmp_ne (tgt := 41) hx hb dX3_isHead_34 (by decide) (fun c_7 => ?_) (fun c_7 => ?_)
      · have hw := hw.1 c_7
        refine lv_iconst (v := 0) hx hb dX3_isHead_41 (by decide) ?_
        exact hret _ _ _ dX3_isHead_42 nb_0 hw
      · have hw := hw.2 c_7
        refine lv_iconst (v := 1) hx hb dX3_isHead_37 (by decide) ?_
        refine lv_goto (tgt := 42) hx hb dX3_isHead_38 (by decide) ?_
        exact hret _ _ _ dX3_isHead_42 nb_1 hw
-- X3_classOf
abbrev rmX3_classOf : Room := { frames := 0, cells := 0, slots := 0, locals := 0 }
set_option maxHeartbeats 4000000 in
set_option maxRecDepth 100000 in
theorem c_X3_classOf (l : Launch) (D : va_G) (g : Nat → Nat) (k : xC) (mw : Nat → Int32) (mk : Nat → Int32) (ml : Nat → Int32) (mq : Nat → Int32) (mwt : Nat → Int32) (mn : Int32) (mt : Int32) (mcl : Int32) (mcr : Int32) (mth : Int32) (mkind : Nat → Int32) (msort : Nat → Int32) (mfirst : Nat → Int32) (mblk : Nat → Int32) (mfree : Nat → Int32) (mfnd : Nat → Int32) (mfm : Int32) (msn : Nat → Int32) (x1 : Int32) (post : Int32 → Prop) (hw : wX3_classOf post x1) : CPi l yX3_classOf wsX3_classOf rmX3_classOf D k [.ref (g 0), .int x1] (xM g k mw mk ml mq mwt mn mt mcl mcr mth mkind msort mfirst mblk mfree mfnd mfm msn) post := by
  refine met_pi (cc := cX3_classOf) (nL := 2) (by decide) rfl (Nat.le_of_ble_eq_true rfl) ?_
  intro p e s m args below meth c Q ls hC hP hK hZ hS hl hret
  obtain ⟨hx, hb, hml, hown, hts⟩ := id hC
  have hC : CallFix p m c cX3_classOf 2 s args wsX3_classOf RX3 := hC
  have hown : s.vm.findClass RX3 = some m.cls := hown
  have hl : lv_has ls 2 [(0, .ref (g 0)), (1, .int x1)] := hl
  unfold wX3_classOf at hw
  refine lv_iload_n hx hb dX3_classOf_0 rfl (lv_at hl 1 rfl) ?_
  refine lv_bipush (v := 8) hx hb dX3_classOf_1 (by decide) ?_
  refine lv_icmp_le (tgt := 10) hx hb dX3_classOf_3 (by decide) (fun c_1 => ?_) (fun c_1 => ?_)
  · have hw := hw.1 c_1
    refine lv_iload_n hx hb dX3_classOf_10 rfl (lv_at hl 1 rfl) ?_
    refine lv_iconst (v := 2) hx hb dX3_classOf_11 (by decide) ?_
    refine lv_icmp_gt (tgt := 19) hx hb dX3_classOf_12 (by decide) (fun c_2 => ?_) (fun c_2 => ?_)
    · have hw := hw.1 c_2
      refine lv_iload_n hx hb dX3_classOf_19 rfl (lv_at hl 1 rfl) ?_
      refine lv_iconst (v := 3) hx hb dX3_classOf_20 (by decide) ?_
      refine lv_icmp_gt (tgt := 28) hx hb dX3_classOf_21 (by decide) (fun c_3 => ?_) (fun c_3 => ?_)
      · have hw := hw.1 c_3
        refine lv_iload_n hx hb dX3_classOf_28 rfl (lv_at hl 1 rfl) ?_
        refine lv_iconst (v := 4) hx hb dX3_classOf_29 (by decide) ?_
        refine lv_icmp_gt (tgt := 37) hx hb dX3_classOf_30 (by decide) (fun c_4 => ?_) (fun c_4 => ?_)
        · have hw := hw.1 c_4
          refine lv_iload_n hx hb dX3_classOf_37 rfl (lv_at hl 1 rfl) ?_
          refine lv_bipush (v := 6) hx hb dX3_classOf_38 (by decide) ?_
          refine lv_icmp_gt (tgt := 48) hx hb dX3_classOf_40 (by decide) (fun c_5 => ?_) (fun c_5 => ?_)
          · have hw := hw.1 c_5
            refine lv_bipush (v := 8) hx hb dX3_classOf_48 (by decide) ?_
            exact hret _ _ _ dX3_classOf_50 hw
          · have hw := hw.2 c_5
            refine lv_bipush (v := 6) hx hb dX3_classOf_43 (by decide) ?_
            refine lv_goto (tgt := 50) hx hb dX3_classOf_45 (by decide) ?_
            exact hret _ _ _ dX3_classOf_50 hw
        · have hw := hw.2 c_4
          refine lv_iconst (v := 4) hx hb dX3_classOf_33 (by decide) ?_
          refine lv_goto (tgt := 50) hx hb dX3_classOf_34 (by decide) ?_
          exact hret _ _ _ dX3_classOf_50 hw
      · have hw := hw.2 c_3
        refine lv_iconst (v := 3) hx hb dX3_classOf_24 (by decide) ?_
        refine lv_goto (tgt := 50) hx hb dX3_classOf_25 (by decide) ?_
        exact hret _ _ _ dX3_classOf_50 hw
    · have hw := hw.2 c_2
      refine lv_iconst (v := 2) hx hb dX3_classOf_15 (by decide) ?_
      refine lv_goto (tgt := 50) hx hb dX3_classOf_16 (by decide) ?_
      exact hret _ _ _ dX3_classOf_50 hw
  · have hw := hw.2 c_1
    refine lv_iconst (v := 0) hx hb dX3_classOf_6 (by decide) ?_
    refine lv_goto (tgt := 50) hx hb dX3_classOf_7 (by decide) ?_
    exact hret _ _ _ dX3_classOf_50 hw
-- X3_orderOf
abbrev rmX3_orderOf : Room := { frames := 0, cells := 0, slots := 0, locals := 0 }
set_option maxHeartbeats 4000000 in
set_option maxRecDepth 100000 in
theorem c_X3_orderOf (l : Launch) (D : va_G) (g : Nat → Nat) (k : xC) (mw : Nat → Int32) (mk : Nat → Int32) (ml : Nat → Int32) (mq : Nat → Int32) (mwt : Nat → Int32) (mn : Int32) (mt : Int32) (mcl : Int32) (mcr : Int32) (mth : Int32) (mkind : Nat → Int32) (msort : Nat → Int32) (mfirst : Nat → Int32) (mblk : Nat → Int32) (mfree : Nat → Int32) (mfnd : Nat → Int32) (mfm : Int32) (msn : Nat → Int32) (x1 : Int32) (post : Int32 → Prop) (hw : wX3_orderOf post x1) : CPi l yX3_orderOf wsX3_orderOf rmX3_orderOf D k [.ref (g 0), .int x1] (xM g k mw mk ml mq mwt mn mt mcl mcr mth mkind msort mfirst mblk mfree mfnd mfm msn) post := by
  refine met_pi (cc := cX3_orderOf) (nL := 3) (by decide) rfl (Nat.le_of_ble_eq_true rfl) ?_
  intro p e s m args below meth c Q ls hC hP hK hZ hS hl hret
  obtain ⟨hx, hb, hml, hown, hts⟩ := id hC
  have hC : CallFix p m c cX3_orderOf 3 s args wsX3_orderOf RX3 := hC
  have hown : s.vm.findClass RX3 = some m.cls := hown
  have hl : lv_has ls 3 [(0, .ref (g 0)), (1, .int x1)] := hl
  have B2 : ∀ (fu : Nat), ∀ (x1 : Int32), ∀ (x2 : Int32), ∀ (ls : Array Slot), lv_has ls 3 [(1, .int x1), (2, .int x2)] → wX3_orderOf_2 post fu x1 x2 → W p l e rmX3_orderOf s m args below meth c s.heap [] 0 0 Q (F0 m 2 ls []) := by
    intro  fu
    induction fu with
    | zero =>
      intro x1 x2 ls hl hw
      exact absurd hw (by unfold wX3_orderOf_2; exact fun q => q)
    | succ n ih =>
      intro x1 x2 ls hl hw
      unfold wX3_orderOf_2 at hw
      refine lv_bipush (v := 16) hx hb dX3_orderOf_2 (by decide) ?_
      refine lv_iload_n hx hb dX3_orderOf_4 rfl (lv_at hl 1 rfl) ?_
      refine lv_ishl hx hb dX3_orderOf_5 ?_
      refine lv_iload_n hx hb dX3_orderOf_6 rfl (lv_at hl 0 rfl) ?_
      refine lv_icmp_ge (tgt := 16) hx hb dX3_orderOf_7 (by decide) (fun c_1 => ?_) (fun c_1 => ?_)
      · have hw := hw.1 c_1
        refine lv_iload_n hx hb dX3_orderOf_16 rfl (lv_at hl 1 rfl) ?_
        exact hret _ _ _ dX3_orderOf_17 hw
      · have hw := hw.2 c_1
        obtain ⟨x2_2, ex2_2⟩ : ∃ y : Int32, y = x2 + 1 := ⟨_, rfl⟩
        have hw := hw x2_2 ex2_2
        refine lv_iinc (v := x2_2) (lv' := [(2, .int x2_2), (1, .int x1)]) hx hb dX3_orderOf_10 hl (k := 1) rfl (by rw [ex2_2]; rfl) (by decide) rfl (fun ls hl => ?_)
        refine lv_goto (tgt := 2) hx hb dX3_orderOf_13 (by decide) ?_
        exact ih x1 x2_2 ls (lv_sub hl [1, 0] rfl) hw
  unfold wX3_orderOf at hw
  refine lv_iconst (v := 0) hx hb dX3_orderOf_0 (by decide) ?_
  refine lv_istore_n (lv' := [(2, .int 0), (0, .ref (g 0)), (1, .int x1)]) hx hb dX3_orderOf_1 rfl hl (by decide) rfl (fun ls hl => ?_)
  obtain ⟨fu_3, hw⟩ := hw
  exact B2  fu_3 x1 0 ls (lv_sub hl [2, 0] rfl) hw
-- X3_isBlock
abbrev rmX3_isBlock : Room := { frames := 1, cells := 0, slots := 0, locals := 23 }
set_option maxHeartbeats 4000000 in
set_option maxRecDepth 100000 in
theorem c_X3_isBlock (l : Launch) (D : va_G) (g : Nat → Nat) (k : xC) (mw : Nat → Int32) (mk : Nat → Int32) (ml : Nat → Int32) (mq : Nat → Int32) (mwt : Nat → Int32) (mn : Int32) (mt : Int32) (mcl : Int32) (mcr : Int32) (mth : Int32) (mkind : Nat → Int32) (msort : Nat → Int32) (mfirst : Nat → Int32) (mblk : Nat → Int32) (mfree : Nat → Int32) (mfnd : Nat → Int32) (mfm : Int32) (msn : Nat → Int32) (x1 : Int32) (post : Int32 → Prop) (hw : wX3_isBlock post ml x1) : CPi l yX3_isBlock wsX3_isBlock rmX3_isBlock D k [.ref (g 0), .int x1] (xM g k mw mk ml mq mwt mn mt mcl mcr mth mkind msort mfirst mblk mfree mfnd mfm msn) post := by
  refine met_pz (cc := cX3_isBlock) (nL := 2) (by decide) rfl (Nat.le_of_ble_eq_true rfl) ?_
  intro p e s m args below meth c Q ls hC hP hK hZ hS hl hret
  obtain ⟨hx, hb, hml, hown, hts⟩ := id hC
  have hC : CallFix p m c cX3_isBlock 2 s args wsX3_isBlock RX3 := hC
  have hown : s.vm.findClass RX3 = some m.cls := hown
  have hl : lv_has ls 2 [(0, .ref (g 0)), (1, .int x1)] := hl
  have hinX3 : ∀ w ∈ wsX30, w ∈ wsX3_isBlock := fun _ h => List.mem_cons_of_mem _ (List.mem_append_right _ h)
  unfold wX3_isBlock at hw
  refine lv_aload_n hx hb dX3_isBlock_0 rfl (lv_at hl 0 rfl) ?_
  refine lv_iload_n hx hb dX3_isBlock_1 rfl (lv_at hl 1 rfl) ?_
  refine lv_bipush (v := 16) hx hb dX3_isBlock_2 (by decide) ?_
  refine lv_sipush (v := 4095) hx hb dX3_isBlock_4 (by decide) ?_
  refine pcall (va_runV (As := [.int x1, .int 16, .int 4095]) (rest := []) hC (c_X3_is l D g k mw mk ml mq mwt mn mt mcl mcr mth mkind msort mfirst mblk mfree mfnd mfm msn x1 16 4095 _ hw s.heap) (cwV 3 hts gX3_isBlock_X3_is rfl rfl rfl (by decide +kernel) ⟨Nat.le_of_ble_eq_true rfl, Nat.le_of_ble_eq_true rfl⟩) (preV_p (va_recv hK hP (ci := 3) (q0 := 0) rfl rfl) hP hK hZ hS) rfl rfl hl.1 rfl (lv_room (Nat.le_of_ble_eq_true rfl)) dX3_isBlock_7 ⟨Nat.le_of_ble_eq_true rfl, Nat.le_of_ble_eq_true rfl⟩) (fun r_1 hw => ?_)
  refine lv_if_eq (tgt := 26) hx hb dX3_isBlock_10 (by decide) (fun c_2 => ?_) (fun c_2 => ?_)
  · have hw := hw.1 c_2
    refine lv_iconst (v := 0) hx hb dX3_isBlock_26 (by decide) ?_
    exact hret _ _ _ dX3_isBlock_27 nb_0 hw
  · have hw := hw.2 c_2
    refine lv_aload_n hx hb dX3_isBlock_13 rfl (lv_at hl 0 rfl) ?_
    refine va_get (D := D) (ci := 3) (v := .ref (g 3)) (C := RX3) (T := TX3) (N := 18) hx hb hts hinX3 hown hK hP 0 rfl rfl 2 (by decide) (hts (.fieldLink RX3 16 "SlabHeapModel" "isLive" "[Z") (by decide +kernel)) (fun _ h9 => h9) rfl dX3_isBlock_14 ?_
    refine lv_iload_n hx hb dX3_isBlock_17 rfl (lv_at hl 1 rfl) ?_
    obtain ⟨h_3, hw⟩ := hw
    refine va_zald hx hb hK hP 3 1 rfl rfl h_3 dX3_isBlock_18 ?_
    refine lv_if_eq (tgt := 26) hx hb dX3_isBlock_19 (by decide) (fun c_4 => ?_) (fun c_4 => ?_)
    · have hw := hw.1 c_4
      refine lv_iconst (v := 0) hx hb dX3_isBlock_26 (by decide) ?_
      exact hret _ _ _ dX3_isBlock_27 nb_0 hw
    · have hw := hw.2 c_4
      refine lv_iconst (v := 1) hx hb dX3_isBlock_22 (by decide) ?_
      refine lv_goto (tgt := 27) hx hb dX3_isBlock_23 (by decide) ?_
      exact hret _ _ _ dX3_isBlock_27 nb_1 hw
-- X3_areFree
abbrev rmX3_areFree : Room := { frames := 0, cells := 0, slots := 0, locals := 0 }
set_option maxHeartbeats 4000000 in
set_option maxRecDepth 100000 in
theorem c_X3_areFree (l : Launch) (D : va_G) (g : Nat → Nat) (k : xC) (mw : Nat → Int32) (mk : Nat → Int32) (ml : Nat → Int32) (mq : Nat → Int32) (mwt : Nat → Int32) (mn : Int32) (mt : Int32) (mcl : Int32) (mcr : Int32) (mth : Int32) (mkind : Nat → Int32) (msort : Nat → Int32) (mfirst : Nat → Int32) (mblk : Nat → Int32) (mfree : Nat → Int32) (mfnd : Nat → Int32) (mfm : Int32) (msn : Nat → Int32) (x1 : Int32) (x2 : Int32) (post : Int32 → Prop) (hw : wX3_areFree post mkind x1 x2) : CPi l yX3_areFree wsX3_areFree rmX3_areFree D k [.ref (g 0), .int x1, .int x2] (xM g k mw mk ml mq mwt mn mt mcl mcr mth mkind msort mfirst mblk mfree mfnd mfm msn) post := by
  refine met_pz (cc := cX3_areFree) (nL := 4) (by decide) rfl (Nat.le_of_ble_eq_true rfl) ?_
  intro p e s m args below meth c Q ls hC hP hK hZ hS hl hret
  obtain ⟨hx, hb, hml, hown, hts⟩ := id hC
  have hC : CallFix p m c cX3_areFree 4 s args wsX3_areFree RX3 := hC
  have hown : s.vm.findClass RX3 = some m.cls := hown
  have hl : lv_has ls 4 [(0, .ref (g 0)), (1, .int x1), (2, .int x2)] := hl
  have hinX3 : ∀ w ∈ wsX30, w ∈ wsX3_areFree := fun _ h => List.mem_cons_of_mem _ (List.mem_append_right _ h)
  have B13 : ∀ (fu : Nat), ∀ (x1 : Int32), ∀ (x2 : Int32), ∀ (x3 : Int32), ∀ (ls : Array Slot), lv_has ls 4 [(0, .ref (g 0)), (1, .int x1), (2, .int x2), (3, .int x3)] → wX3_areFree_13 post mkind fu x1 x2 x3 → W p l e rmX3_areFree s m args below meth c s.heap [] 0 0 Q (F0 m 13 ls []) := by
    intro  fu
    induction fu with
    | zero =>
      intro x1 x2 x3 ls hl hw
      exact absurd hw (by unfold wX3_areFree_13; exact fun q => q)
    | succ n ih =>
      intro x1 x2 x3 ls hl hw
      unfold wX3_areFree_13 at hw
      refine lv_iload_n hx hb dX3_areFree_13 rfl (lv_at hl 3 rfl) ?_
      refine lv_iload_n hx hb dX3_areFree_14 rfl (lv_at hl 2 rfl) ?_
      refine lv_icmp_ge (tgt := 37) hx hb dX3_areFree_15 (by decide) (fun c_2 => ?_) (fun c_2 => ?_)
      · have hw := hw.1 c_2
        refine lv_iconst (v := 1) hx hb dX3_areFree_37 (by decide) ?_
        exact hret _ _ _ dX3_areFree_38 nb_1 hw
      · have hw := hw.2 c_2
        refine lv_aload_n hx hb dX3_areFree_18 rfl (lv_at hl 0 rfl) ?_
        refine va_get (D := D) (ci := 3) (v := .ref (g 6)) (C := RX3) (T := TX3) (N := 18) hx hb hts hinX3 hown hK hP 0 rfl rfl 10 (by decide) (hts (.fieldLink RX3 26 "SlabHeapModel" "kind" "[I") (by decide +kernel)) (fun _ h9 => h9) rfl dX3_areFree_19 ?_
        refine lv_iload_n hx hb dX3_areFree_22 rfl (lv_at hl 1 rfl) ?_
        refine lv_iload_n hx hb dX3_areFree_23 rfl (lv_at hl 3 rfl) ?_
        refine lv_iadd hx hb dX3_areFree_24 ?_
        obtain ⟨h_3, hw⟩ := hw
        refine va_iald hx hb hK hP 6 0 rfl rfl h_3 dX3_areFree_25 ?_
        refine lv_if_eq (tgt := 31) hx hb dX3_areFree_26 (by decide) (fun c_4 => ?_) (fun c_4 => ?_)
        · have hw := hw.1 c_4
          obtain ⟨x3_5, ex3_5⟩ : ∃ y : Int32, y = x3 + 1 := ⟨_, rfl⟩
          have hw := hw x3_5 ex3_5
          refine lv_iinc (v := x3_5) (lv' := [(3, .int x3_5), (0, .ref (g 0)), (1, .int x1), (2, .int x2)]) hx hb dX3_areFree_31 hl (k := 3) rfl (by rw [ex3_5]; rfl) (by decide) rfl (fun ls hl => ?_)
          refine lv_goto (tgt := 13) hx hb dX3_areFree_34 (by decide) ?_
          exact ih x1 x2 x3_5 ls (lv_sub hl [1, 2, 3, 0] rfl) hw
        · have hw := hw.2 c_4
          refine lv_iconst (v := 0) hx hb dX3_areFree_29 (by decide) ?_
          exact hret _ _ _ dX3_areFree_30 nb_0 hw
  unfold wX3_areFree at hw
  refine lv_iload_n hx hb dX3_areFree_0 rfl (lv_at hl 1 rfl) ?_
  refine lv_iload_n hx hb dX3_areFree_1 rfl (lv_at hl 2 rfl) ?_
  refine lv_iadd hx hb dX3_areFree_2 ?_
  refine lv_sipush (v := 256) hx hb dX3_areFree_3 (by decide) ?_
  refine lv_icmp_le (tgt := 11) hx hb dX3_areFree_6 (by decide) (fun c_1 => ?_) (fun c_1 => ?_)
  · have hw := hw.1 c_1
    refine lv_iconst (v := 0) hx hb dX3_areFree_11 (by decide) ?_
    refine lv_istore_n (lv' := [(3, .int 0), (0, .ref (g 0)), (1, .int x1), (2, .int x2)]) hx hb dX3_areFree_12 rfl hl (by decide) rfl (fun ls hl => ?_)
    obtain ⟨fu_6, hw⟩ := hw
    exact B13  fu_6 x1 x2 0 ls (lv_sub hl [1, 2, 3, 0] rfl) hw
  · have hw := hw.2 c_1
    refine lv_iconst (v := 0) hx hb dX3_areFree_9 (by decide) ?_
    exact hret _ _ _ dX3_areFree_10 nb_0 hw
-- X3_map
abbrev rmX3_map : Room := { frames := 1, cells := 0, slots := 0, locals := 23 }
set_option maxHeartbeats 4000000 in
set_option maxRecDepth 100000 in
theorem c_X3_map (l : Launch) (D : va_G) (g : Nat → Nat) (k : xC) (mw : Nat → Int32) (mk : Nat → Int32) (ml : Nat → Int32) (mq : Nat → Int32) (mwt : Nat → Int32) (mn : Int32) (mt : Int32) (mcl : Int32) (mcr : Int32) (mth : Int32) (mkind : Nat → Int32) (msort : Nat → Int32) (mfirst : Nat → Int32) (mblk : Nat → Int32) (mfree : Nat → Int32) (mfnd : Nat → Int32) (mfm : Int32) (msn : Nat → Int32)  (post : (Nat → Int32) → (Nat → Int32) → (Nat → Int32) → (Nat → Int32) → (Nat → Int32) → Prop) (hw : wX3_map post mw ml mkind msort mfirst mblk mfree) : CMv l yX3_map wsX3_map rmX3_map D k [.ref (g 0)] (fun v : (Nat → Int32) × (Nat → Int32) × (Nat → Int32) × (Nat → Int32) × (Nat → Int32) => (xM g k mw mk ml mq mwt mn mt mcl mcr mth (v.1) (v.2.1) (v.2.2.1) (v.2.2.2.1) (v.2.2.2.2) mfnd mfm msn)) (mkind, msort, mfirst, mblk, mfree) (fun v => post (v.1) (v.2.1) (v.2.2.1) (v.2.2.2.1) (v.2.2.2.2)) := by
  refine met_mv (cc := cX3_map) (nL := 6) (by decide) rfl (Nat.le_of_ble_eq_true rfl) ?_
  intro p e s m args below meth c Q A ls hC hP hD hA hK hZ hS hl hret
  obtain ⟨hx, hb, hml, hown, hts⟩ := id hC
  have hC : CallFix p m c cX3_map 6 s args wsX3_map RX3 := hC
  have hown : s.vm.findClass RX3 = some m.cls := hown
  have hl : lv_has ls 6 [(0, .ref (g 0))] := hl
  have hP : va_P D vwCl (xM g k mw mk ml mq mwt mn mt mcl mcr mth mkind msort mfirst mblk mfree mfnd mfm msn) s.heap := hP
  have hD : va_D A (xM g k mw mk ml mq mwt mn mt mcl mcr mth mkind msort mfirst mblk mfree mfnd mfm msn) := hD
  have hinX3 : ∀ w ∈ wsX30, w ∈ wsX3_map := fun _ h => List.mem_cons_of_mem _ (List.mem_append_right _ h)
  have B243 : ∀ (J204 : Int32 → (Nat → Int32) → (Nat → Int32) → (Nat → Int32) → (Nat → Int32) → (Nat → Int32) → Prop) (hJ204 : ∀ (x1 : Int32), ∀ (mkind : Nat → Int32), ∀ (msort : Nat → Int32), ∀ (mfirst : Nat → Int32), ∀ (mblk : Nat → Int32), ∀ (mfree : Nat → Int32), ∀ (H : Heap) (locs : List Loc), va_P D vwCl (xM g k mw mk ml mq mwt mn mt mcl mcr mth mkind msort mfirst mblk mfree mfnd mfm msn) H → va_D A (xM g k mw mk ml mq mwt mn mt mcl mcr mth mkind msort mfirst mblk mfree mfnd mfm msn) → va_S A s.heap H locs → ∀ (ls : Array Slot), lv_has ls 6 [(0, .ref (g 0)), (1, .int x1)] → J204 x1 mkind msort mfirst mblk mfree → W p l e rmX3_map s m args below meth c H locs 0 0 Q (F0 m 204 ls [])) (J210 : Int32 → Int32 → (Nat → Int32) → (Nat → Int32) → (Nat → Int32) → (Nat → Int32) → (Nat → Int32) → Prop) (hJ210 : ∀ (x1 : Int32), ∀ (x2 : Int32), ∀ (mkind : Nat → Int32), ∀ (msort : Nat → Int32), ∀ (mfirst : Nat → Int32), ∀ (mblk : Nat → Int32), ∀ (mfree : Nat → Int32), ∀ (H : Heap) (locs : List Loc), va_P D vwCl (xM g k mw mk ml mq mwt mn mt mcl mcr mth mkind msort mfirst mblk mfree mfnd mfm msn) H → va_D A (xM g k mw mk ml mq mwt mn mt mcl mcr mth mkind msort mfirst mblk mfree mfnd mfm msn) → va_S A s.heap H locs → ∀ (ls : Array Slot), lv_has ls 6 [(0, .ref (g 0)), (1, .int x1), (2, .int x2)] → J210 x1 x2 mkind msort mfirst mblk mfree → W p l e rmX3_map s m args below meth c H locs 0 0 Q (F0 m 210 ls [])) (fu : Nat), ∀ (x1 : Int32), ∀ (x2 : Int32), ∀ (x3 : Int32), ∀ (mkind : Nat → Int32), ∀ (msort : Nat → Int32), ∀ (mfirst : Nat → Int32), ∀ (mblk : Nat → Int32), ∀ (mfree : Nat → Int32), ∀ (H : Heap) (locs : List Loc), va_P D vwCl (xM g k mw mk ml mq mwt mn mt mcl mcr mth mkind msort mfirst mblk mfree mfnd mfm msn) H → va_D A (xM g k mw mk ml mq mwt mn mt mcl mcr mth mkind msort mfirst mblk mfree mfnd mfm msn) → va_S A s.heap H locs → ∀ (ls : Array Slot), lv_has ls 6 [(0, .ref (g 0)), (1, .int x1), (2, .int x2), (3, .int x3)] → wX3_map_243 post mw ml J204 J210 fu x1 x2 x3 mkind msort mfirst mblk mfree → W p l e rmX3_map s m args below meth c H locs 0 0 Q (F0 m 243 ls []) := by
    intro J204 hJ204 J210 hJ210 fu
    induction fu with
    | zero =>
      intro x1 x2 x3 mkind msort mfirst mblk mfree H locs hP hD hS ls hl hw
      exact absurd hw (by unfold wX3_map_243; exact fun q => q)
    | succ n ih =>
      intro x1 x2 x3 mkind msort mfirst mblk mfree H locs hP hD hS ls hl hw
      unfold wX3_map_243 at hw
      refine lv_iload_n hx hb dX3_map_243 rfl (lv_at hl 3 rfl) ?_
      refine lv_iconst (v := 1) hx hb dX3_map_244 (by decide) ?_
      refine lv_iload_n hx hb dX3_map_245 rfl (lv_at hl 1 rfl) ?_
      refine lv_ishl hx hb dX3_map_246 ?_
      refine lv_icmp_ge (tgt := 283) hx hb dX3_map_247 (by decide) (fun c_11 => ?_) (fun c_11 => ?_)
      · have hw := hw.1 c_11
        refine lv_iload_n hx hb dX3_map_283 rfl (lv_at hl 2 rfl) ?_
        refine lv_iconst (v := 1) hx hb dX3_map_284 (by decide) ?_
        refine lv_iload_n hx hb dX3_map_285 rfl (lv_at hl 1 rfl) ?_
        refine lv_ishl hx hb dX3_map_286 ?_
        refine lv_iadd hx hb dX3_map_287 ?_
        refine lv_topi (fun x2_12 ex2_12 => ?_)
        have hw := hw x2_12 ex2_12
        refine lv_istore_n (lv' := [(2, .int x2_12), (0, .ref (g 0)), (1, .int x1), (3, .int x3)]) hx hb dX3_map_288 rfl hl (by decide) rfl (fun ls hl => ?_)
        refine lv_goto (tgt := 210) hx hb dX3_map_289 (by decide) ?_
        exact hJ210 x1 x2_12 mkind msort mfirst mblk mfree H locs hP hD hS ls (lv_sub hl [1, 2, 0] rfl) hw
      · have hw := hw.2 c_11
        refine lv_aload_n hx hb dX3_map_250 rfl (lv_at hl 0 rfl) ?_
        refine va_get (D := D) (ci := 3) (v := .ref (g 10)) (C := RX3) (T := TX3) (N := 18) hx hb hts hinX3 hown hK hP 0 rfl rfl 14 (by decide) (hts (.fieldLink RX3 38 "SlabHeapModel" "free" "[I") (by decide +kernel)) (fun _ h9 => h9) rfl dX3_map_251 ?_
        refine lv_iload_n hx hb dX3_map_254 rfl (lv_at hl 2 rfl) ?_
        refine lv_iload_n hx hb dX3_map_255 rfl (lv_at hl 3 rfl) ?_
        refine lv_iadd hx hb dX3_map_256 ?_
        refine lv_iload_n hx hb dX3_map_257 rfl (lv_at hl 1 rfl) ?_
        obtain ⟨h_13, hw⟩ := hw
        refine va_iast hx hb hK hP hD hS 10 0 rfl rfl h_13 dX3_map_258 (fun H locs hP hD hS => ?_)
        have hP : va_P D vwCl (xM g k mw mk ml mq mwt mn mt mcl mcr mth mkind msort mfirst mblk (upd mfree (x2 + x3).toNatClampNeg x1) mfnd mfm msn) H := hP
        have hD : va_D A (xM g k mw mk ml mq mwt mn mt mcl mcr mth mkind msort mfirst mblk (upd mfree (x2 + x3).toNatClampNeg x1) mfnd mfm msn) := hD
        refine lv_aload_n hx hb dX3_map_259 rfl (lv_at hl 0 rfl) ?_
        refine va_get (D := D) (ci := 3) (v := .ref (g 7)) (C := RX3) (T := TX3) (N := 18) hx hb hts hinX3 hown hK hP 0 rfl rfl 11 (by decide) (hts (.fieldLink RX3 29 "SlabHeapModel" "sort" "[I") (by decide +kernel)) (fun _ h9 => h9) rfl dX3_map_260 ?_
        refine lv_iload_n hx hb dX3_map_263 rfl (lv_at hl 2 rfl) ?_
        refine lv_iload_n hx hb dX3_map_264 rfl (lv_at hl 3 rfl) ?_
        refine lv_iadd hx hb dX3_map_265 ?_
        refine lv_iload_n hx hb dX3_map_266 rfl (lv_at hl 1 rfl) ?_
        obtain ⟨h_14, hw⟩ := hw
        refine va_iast hx hb hK hP hD hS 7 0 rfl rfl h_14 dX3_map_267 (fun H locs hP hD hS => ?_)
        have hP : va_P D vwCl (xM g k mw mk ml mq mwt mn mt mcl mcr mth mkind (upd msort (x2 + x3).toNatClampNeg x1) mfirst mblk (upd mfree (x2 + x3).toNatClampNeg x1) mfnd mfm msn) H := hP
        have hD : va_D A (xM g k mw mk ml mq mwt mn mt mcl mcr mth mkind (upd msort (x2 + x3).toNatClampNeg x1) mfirst mblk (upd mfree (x2 + x3).toNatClampNeg x1) mfnd mfm msn) := hD
        refine lv_aload_n hx hb dX3_map_268 rfl (lv_at hl 0 rfl) ?_
        refine va_get (D := D) (ci := 3) (v := .ref (g 8)) (C := RX3) (T := TX3) (N := 18) hx hb hts hinX3 hown hK hP 0 rfl rfl 12 (by decide) (hts (.fieldLink RX3 32 "SlabHeapModel" "first" "[I") (by decide +kernel)) (fun _ h9 => h9) rfl dX3_map_269 ?_
        refine lv_iload_n hx hb dX3_map_272 rfl (lv_at hl 2 rfl) ?_
        refine lv_iload_n hx hb dX3_map_273 rfl (lv_at hl 3 rfl) ?_
        refine lv_iadd hx hb dX3_map_274 ?_
        refine lv_iload_n hx hb dX3_map_275 rfl (lv_at hl 2 rfl) ?_
        obtain ⟨h_15, hw⟩ := hw
        refine va_iast hx hb hK hP hD hS 8 0 rfl rfl h_15 dX3_map_276 (fun H locs hP hD hS => ?_)
        have hP : va_P D vwCl (xM g k mw mk ml mq mwt mn mt mcl mcr mth mkind (upd msort (x2 + x3).toNatClampNeg x1) (upd mfirst (x2 + x3).toNatClampNeg x2) mblk (upd mfree (x2 + x3).toNatClampNeg x1) mfnd mfm msn) H := hP
        have hD : va_D A (xM g k mw mk ml mq mwt mn mt mcl mcr mth mkind (upd msort (x2 + x3).toNatClampNeg x1) (upd mfirst (x2 + x3).toNatClampNeg x2) mblk (upd mfree (x2 + x3).toNatClampNeg x1) mfnd mfm msn) := hD
        obtain ⟨x3_16, ex3_16⟩ : ∃ y : Int32, y = x3 + 1 := ⟨_, rfl⟩
        have hw := hw x3_16 ex3_16
        refine lv_iinc (v := x3_16) (lv' := [(3, .int x3_16), (0, .ref (g 0)), (1, .int x1), (2, .int x2)]) hx hb dX3_map_277 hl (k := 3) rfl (by rw [ex3_16]; rfl) (by decide) rfl (fun ls hl => ?_)
        refine lv_goto (tgt := 243) hx hb dX3_map_280 (by decide) ?_
        exact ih x1 x2 x3_16 mkind (upd msort (x2 + x3).toNatClampNeg x1) (upd mfirst (x2 + x3).toNatClampNeg x2) mblk (upd mfree (x2 + x3).toNatClampNeg x1) H locs hP hD hS ls (lv_sub hl [1, 2, 3, 0] rfl) hw
  have B210 : ∀ (J204 : Int32 → (Nat → Int32) → (Nat → Int32) → (Nat → Int32) → (Nat → Int32) → (Nat → Int32) → Prop) (hJ204 : ∀ (x1 : Int32), ∀ (mkind : Nat → Int32), ∀ (msort : Nat → Int32), ∀ (mfirst : Nat → Int32), ∀ (mblk : Nat → Int32), ∀ (mfree : Nat → Int32), ∀ (H : Heap) (locs : List Loc), va_P D vwCl (xM g k mw mk ml mq mwt mn mt mcl mcr mth mkind msort mfirst mblk mfree mfnd mfm msn) H → va_D A (xM g k mw mk ml mq mwt mn mt mcl mcr mth mkind msort mfirst mblk mfree mfnd mfm msn) → va_S A s.heap H locs → ∀ (ls : Array Slot), lv_has ls 6 [(0, .ref (g 0)), (1, .int x1)] → J204 x1 mkind msort mfirst mblk mfree → W p l e rmX3_map s m args below meth c H locs 0 0 Q (F0 m 204 ls [])) (fu : Nat), ∀ (x1 : Int32), ∀ (x2 : Int32), ∀ (mkind : Nat → Int32), ∀ (msort : Nat → Int32), ∀ (mfirst : Nat → Int32), ∀ (mblk : Nat → Int32), ∀ (mfree : Nat → Int32), ∀ (H : Heap) (locs : List Loc), va_P D vwCl (xM g k mw mk ml mq mwt mn mt mcl mcr mth mkind msort mfirst mblk mfree mfnd mfm msn) H → va_D A (xM g k mw mk ml mq mwt mn mt mcl mcr mth mkind msort mfirst mblk mfree mfnd mfm msn) → va_S A s.heap H locs → ∀ (ls : Array Slot), lv_has ls 6 [(0, .ref (g 0)), (1, .int x1), (2, .int x2)] → wX3_map_210 post mw ml J204 fu x1 x2 mkind msort mfirst mblk mfree → W p l e rmX3_map s m args below meth c H locs 0 0 Q (F0 m 210 ls []) := by
    intro J204 hJ204 fu
    induction fu with
    | zero =>
      intro x1 x2 mkind msort mfirst mblk mfree H locs hP hD hS ls hl hw
      exact absurd hw (by unfold wX3_map_210; exact fun q => q)
    | succ n ih =>
      intro x1 x2 mkind msort mfirst mblk mfree H locs hP hD hS ls hl hw
      unfold wX3_map_210 at hw
      refine lv_iload_n hx hb dX3_map_210 rfl (lv_at hl 2 rfl) ?_
      refine lv_sipush (v := 256) hx hb dX3_map_211 (by decide) ?_
      refine lv_icmp_ge (tgt := 292) hx hb dX3_map_214 (by decide) (fun c_4 => ?_) (fun c_4 => ?_)
      · have hw := hw.1 c_4
        obtain ⟨x1_5, ex1_5⟩ : ∃ y : Int32, y = x1 + (-1) := ⟨_, rfl⟩
        have hw := hw x1_5 ex1_5
        refine lv_iinc (v := x1_5) (lv' := [(1, .int x1_5), (0, .ref (g 0)), (2, .int x2)]) hx hb dX3_map_292 hl (k := 1) rfl (by rw [ex1_5]; rfl) (by decide) rfl (fun ls hl => ?_)
        refine lv_goto (tgt := 204) hx hb dX3_map_295 (by decide) ?_
        exact hJ204 x1_5 mkind msort mfirst mblk mfree H locs hP hD hS ls (lv_sub hl [1, 0] rfl) hw
      · have hw := hw.2 c_4
        refine lv_aload_n hx hb dX3_map_217 rfl (lv_at hl 0 rfl) ?_
        refine lv_iload_n hx hb dX3_map_218 rfl (lv_at hl 2 rfl) ?_
        refine lv_iconst (v := 1) hx hb dX3_map_219 (by decide) ?_
        refine lv_iload_n hx hb dX3_map_220 rfl (lv_at hl 1 rfl) ?_
        refine lv_ishl hx hb dX3_map_221 ?_
        refine pcall (va_runV (As := [.int x2, .int ((1 : Int32) <<< (x1 &&& 31))]) (rest := []) hC (c_X3_areFree l D g k mw mk ml mq mwt mn mt mcl mcr mth mkind msort mfirst mblk mfree mfnd mfm msn x2 ((1 : Int32) <<< (x1 &&& 31)) _ hw H) (cwV 2 hts gX3_map_X3_areFree rfl rfl rfl (by decide +kernel) ⟨Nat.le_of_ble_eq_true rfl, Nat.le_of_ble_eq_true rfl⟩) (preV_p (va_recv hK hP (ci := 3) (q0 := 0) rfl rfl) hP hK hZ hS) rfl rfl hl.1 rfl (lv_room (Nat.le_of_ble_eq_true rfl)) dX3_map_222 ⟨Nat.le_of_ble_eq_true rfl, Nat.le_of_ble_eq_true rfl⟩) (fun r_6 hw => ?_)
        refine lv_if_eq (tgt := 283) hx hb dX3_map_225 (by decide) (fun c_7 => ?_) (fun c_7 => ?_)
        · have hw := hw.1 c_7
          refine lv_iload_n hx hb dX3_map_283 rfl (lv_at hl 2 rfl) ?_
          refine lv_iconst (v := 1) hx hb dX3_map_284 (by decide) ?_
          refine lv_iload_n hx hb dX3_map_285 rfl (lv_at hl 1 rfl) ?_
          refine lv_ishl hx hb dX3_map_286 ?_
          refine lv_iadd hx hb dX3_map_287 ?_
          refine lv_topi (fun x2_8 ex2_8 => ?_)
          have hw := hw x2_8 ex2_8
          refine lv_istore_n (lv' := [(2, .int x2_8), (0, .ref (g 0)), (1, .int x1)]) hx hb dX3_map_288 rfl hl (by decide) rfl (fun ls hl => ?_)
          refine lv_goto (tgt := 210) hx hb dX3_map_289 (by decide) ?_
          exact ih x1 x2_8 mkind msort mfirst mblk mfree H locs hP hD hS ls (lv_sub hl [1, 2, 0] rfl) hw
        · have hw := hw.2 c_7
          refine lv_aload_n hx hb dX3_map_228 rfl (lv_at hl 0 rfl) ?_
          refine va_get (D := D) (ci := 3) (v := .ref (g 10)) (C := RX3) (T := TX3) (N := 18) hx hb hts hinX3 hown hK hP 0 rfl rfl 14 (by decide) (hts (.fieldLink RX3 38 "SlabHeapModel" "free" "[I") (by decide +kernel)) (fun _ h9 => h9) rfl dX3_map_229 ?_
          refine lv_iload_n hx hb dX3_map_232 rfl (lv_at hl 2 rfl) ?_
          obtain ⟨h_9, hw⟩ := hw
          refine va_iald hx hb hK hP 10 0 rfl rfl h_9 dX3_map_233 ?_
          refine lv_iconst (v := (-1)) hx hb dX3_map_234 (by decide) ?_
          refine lv_icmp_eq (tgt := 241) hx hb dX3_map_235 (by decide) (fun c_10 => ?_) (fun c_10 => ?_)
          · have hw := hw.1 c_10
            refine lv_iconst (v := 0) hx hb dX3_map_241 (by decide) ?_
            refine lv_istore_n (lv' := [(3, .int 0), (0, .ref (g 0)), (1, .int x1), (2, .int x2)]) hx hb dX3_map_242 rfl hl (by decide) rfl (fun ls hl => ?_)
            obtain ⟨fu_17, hw⟩ := hw
            exact B243 J204 hJ204 (wX3_map_210 post mw ml J204 n) ih fu_17 x1 x2 0 mkind msort mfirst mblk mfree H locs hP hD hS ls (lv_sub hl [1, 2, 3, 0] rfl) hw
          · have hw := hw.2 c_10
            refine lv_goto (tgt := 283) hx hb dX3_map_238 (by decide) ?_
            refine lv_iload_n hx hb dX3_map_283 rfl (lv_at hl 2 rfl) ?_
            refine lv_iconst (v := 1) hx hb dX3_map_284 (by decide) ?_
            refine lv_iload_n hx hb dX3_map_285 rfl (lv_at hl 1 rfl) ?_
            refine lv_ishl hx hb dX3_map_286 ?_
            refine lv_iadd hx hb dX3_map_287 ?_
            refine lv_topi (fun x2_18 ex2_18 => ?_)
            have hw := hw x2_18 ex2_18
            refine lv_istore_n (lv' := [(2, .int x2_18), (0, .ref (g 0)), (1, .int x1)]) hx hb dX3_map_288 rfl hl (by decide) rfl (fun ls hl => ?_)
            refine lv_goto (tgt := 210) hx hb dX3_map_289 (by decide) ?_
            exact ih x1 x2_18 mkind msort mfirst mblk mfree H locs hP hD hS ls (lv_sub hl [1, 2, 0] rfl) hw
  have B204 : ∀ (fu : Nat), ∀ (x1 : Int32), ∀ (mkind : Nat → Int32), ∀ (msort : Nat → Int32), ∀ (mfirst : Nat → Int32), ∀ (mblk : Nat → Int32), ∀ (mfree : Nat → Int32), ∀ (H : Heap) (locs : List Loc), va_P D vwCl (xM g k mw mk ml mq mwt mn mt mcl mcr mth mkind msort mfirst mblk mfree mfnd mfm msn) H → va_D A (xM g k mw mk ml mq mwt mn mt mcl mcr mth mkind msort mfirst mblk mfree mfnd mfm msn) → va_S A s.heap H locs → ∀ (ls : Array Slot), lv_has ls 6 [(0, .ref (g 0)), (1, .int x1)] → wX3_map_204 post mw ml fu x1 mkind msort mfirst mblk mfree → W p l e rmX3_map s m args below meth c H locs 0 0 Q (F0 m 204 ls []) := by
    intro  fu
    induction fu with
    | zero =>
      intro x1 mkind msort mfirst mblk mfree H locs hP hD hS ls hl hw
      exact absurd hw (by unfold wX3_map_204; exact fun q => q)
    | succ n ih =>
      intro x1 mkind msort mfirst mblk mfree H locs hP hD hS ls hl hw
      unfold wX3_map_204 at hw
      refine lv_iload_n hx hb dX3_map_204 rfl (lv_at hl 1 rfl) ?_
      refine lv_if_lt (tgt := 298) hx hb dX3_map_205 (by decide) (fun c_3 => ?_) (fun c_3 => ?_)
      · have hw := hw.1 c_3
        exact hret _ _ (mkind, msort, mfirst, mblk, mfree) _ _ hP hD hS dX3_map_298 hw
      · have hw := hw.2 c_3
        refine lv_iconst (v := 0) hx hb dX3_map_208 (by decide) ?_
        refine lv_istore_n (lv' := [(2, .int 0), (0, .ref (g 0)), (1, .int x1)]) hx hb dX3_map_209 rfl hl (by decide) rfl (fun ls hl => ?_)
        obtain ⟨fu_19, hw⟩ := hw
        exact B210 (wX3_map_204 post mw ml n) ih fu_19 x1 0 mkind msort mfirst mblk mfree H locs hP hD hS ls (lv_sub hl [1, 2, 0] rfl) hw
  have B167 : ∀ (J61 : Int32 → (Nat → Int32) → (Nat → Int32) → (Nat → Int32) → (Nat → Int32) → (Nat → Int32) → Prop) (hJ61 : ∀ (x1 : Int32), ∀ (mkind : Nat → Int32), ∀ (msort : Nat → Int32), ∀ (mfirst : Nat → Int32), ∀ (mblk : Nat → Int32), ∀ (mfree : Nat → Int32), ∀ (H : Heap) (locs : List Loc), va_P D vwCl (xM g k mw mk ml mq mwt mn mt mcl mcr mth mkind msort mfirst mblk mfree mfnd mfm msn) H → va_D A (xM g k mw mk ml mq mwt mn mt mcl mcr mth mkind msort mfirst mblk mfree mfnd mfm msn) → va_S A s.heap H locs → ∀ (ls : Array Slot), lv_has ls 6 [(0, .ref (g 0)), (1, .int x1)] → J61 x1 mkind msort mfirst mblk mfree → W p l e rmX3_map s m args below meth c H locs 0 0 Q (F0 m 61 ls [])) (J140 : Int32 → Int32 → Int32 → Int32 → (Nat → Int32) → (Nat → Int32) → (Nat → Int32) → (Nat → Int32) → (Nat → Int32) → Prop) (hJ140 : ∀ (x1 : Int32), ∀ (x3 : Int32), ∀ (x4 : Int32), ∀ (x5 : Int32), ∀ (mkind : Nat → Int32), ∀ (msort : Nat → Int32), ∀ (mfirst : Nat → Int32), ∀ (mblk : Nat → Int32), ∀ (mfree : Nat → Int32), ∀ (H : Heap) (locs : List Loc), va_P D vwCl (xM g k mw mk ml mq mwt mn mt mcl mcr mth mkind msort mfirst mblk mfree mfnd mfm msn) H → va_D A (xM g k mw mk ml mq mwt mn mt mcl mcr mth mkind msort mfirst mblk mfree mfnd mfm msn) → va_S A s.heap H locs → ∀ (ls : Array Slot), lv_has ls 6 [(0, .ref (g 0)), (1, .int x1), (3, .int x3), (4, .int x4), (5, .int x5)] → J140 x1 x3 x4 x5 mkind msort mfirst mblk mfree → W p l e rmX3_map s m args below meth c H locs 0 0 Q (F0 m 140 ls [])) , ∀ (x1 : Int32), ∀ (x3 : Int32), ∀ (x4 : Int32), ∀ (x5 : Int32), ∀ (z0 : Int32), ∀ (z1 : Int32), ∀ (mkind : Nat → Int32), ∀ (msort : Nat → Int32), ∀ (mfirst : Nat → Int32), ∀ (mblk : Nat → Int32), ∀ (mfree : Nat → Int32), ∀ (H : Heap) (locs : List Loc), va_P D vwCl (xM g k mw mk ml mq mwt mn mt mcl mcr mth mkind msort mfirst mblk mfree mfnd mfm msn) H → va_D A (xM g k mw mk ml mq mwt mn mt mcl mcr mth mkind msort mfirst mblk mfree mfnd mfm msn) → va_S A s.heap H locs → ∀ (ls : Array Slot), lv_has ls 6 [(0, .ref (g 0)), (1, .int x1), (3, .int x3), (4, .int x4), (5, .int x5)] → wX3_map_167 post mw ml J61 J140 x1 x3 x4 x5 z0 z1 mkind msort mfirst mblk mfree → W p l e rmX3_map s m args below meth c H locs 0 0 Q (F0 m 167 ls [.int z0, .int z1, .ref (g 6)]) := by
    intro J61 hJ61 J140 hJ140 x1 x3 x4 x5 z0 z1 mkind msort mfirst mblk mfree H locs hP hD hS ls hl hw
    unfold wX3_map_167 at hw
    obtain ⟨h_33, hw⟩ := hw
    refine va_iast hx hb hK hP hD hS 6 0 rfl rfl h_33 dX3_map_167 (fun H locs hP hD hS => ?_)
    have hP : va_P D vwCl (xM g k mw mk ml mq mwt mn mt mcl mcr mth (upd mkind z1.toNatClampNeg z0) msort mfirst mblk mfree mfnd mfm msn) H := hP
    have hD : va_D A (xM g k mw mk ml mq mwt mn mt mcl mcr mth (upd mkind z1.toNatClampNeg z0) msort mfirst mblk mfree mfnd mfm msn) := hD
    refine lv_aload_n hx hb dX3_map_168 rfl (lv_at hl 0 rfl) ?_
    refine va_get (D := D) (ci := 3) (v := .ref (g 7)) (C := RX3) (T := TX3) (N := 18) hx hb hts hinX3 hown hK hP 0 rfl rfl 11 (by decide) (hts (.fieldLink RX3 29 "SlabHeapModel" "sort" "[I") (by decide +kernel)) (fun _ h9 => h9) rfl dX3_map_169 ?_
    refine lv_iload_n hx hb dX3_map_172 rfl (lv_at hl 2 rfl) ?_
    refine lv_iload hx hb dX3_map_173 (lv_at hl 4 rfl) ?_
    refine lv_iadd hx hb dX3_map_175 ?_
    refine lv_iload hx hb dX3_map_176 (lv_at hl 3 rfl) ?_
    obtain ⟨h_34, hw⟩ := hw
    refine va_iast hx hb hK hP hD hS 7 0 rfl rfl h_34 dX3_map_178 (fun H locs hP hD hS => ?_)
    have hP : va_P D vwCl (xM g k mw mk ml mq mwt mn mt mcl mcr mth (upd mkind z1.toNatClampNeg z0) (upd msort (x3 + x5).toNatClampNeg x4) mfirst mblk mfree mfnd mfm msn) H := hP
    have hD : va_D A (xM g k mw mk ml mq mwt mn mt mcl mcr mth (upd mkind z1.toNatClampNeg z0) (upd msort (x3 + x5).toNatClampNeg x4) mfirst mblk mfree mfnd mfm msn) := hD
    refine lv_aload_n hx hb dX3_map_179 rfl (lv_at hl 0 rfl) ?_
    refine va_get (D := D) (ci := 3) (v := .ref (g 8)) (C := RX3) (T := TX3) (N := 18) hx hb hts hinX3 hown hK hP 0 rfl rfl 12 (by decide) (hts (.fieldLink RX3 32 "SlabHeapModel" "first" "[I") (by decide +kernel)) (fun _ h9 => h9) rfl dX3_map_180 ?_
    refine lv_iload_n hx hb dX3_map_183 rfl (lv_at hl 2 rfl) ?_
    refine lv_iload hx hb dX3_map_184 (lv_at hl 4 rfl) ?_
    refine lv_iadd hx hb dX3_map_186 ?_
    refine lv_iload_n hx hb dX3_map_187 rfl (lv_at hl 2 rfl) ?_
    obtain ⟨h_35, hw⟩ := hw
    refine va_iast hx hb hK hP hD hS 8 0 rfl rfl h_35 dX3_map_188 (fun H locs hP hD hS => ?_)
    have hP : va_P D vwCl (xM g k mw mk ml mq mwt mn mt mcl mcr mth (upd mkind z1.toNatClampNeg z0) (upd msort (x3 + x5).toNatClampNeg x4) (upd mfirst (x3 + x5).toNatClampNeg x3) mblk mfree mfnd mfm msn) H := hP
    have hD : va_D A (xM g k mw mk ml mq mwt mn mt mcl mcr mth (upd mkind z1.toNatClampNeg z0) (upd msort (x3 + x5).toNatClampNeg x4) (upd mfirst (x3 + x5).toNatClampNeg x3) mblk mfree mfnd mfm msn) := hD
    obtain ⟨x5_36, ex5_36⟩ : ∃ y : Int32, y = x5 + 1 := ⟨_, rfl⟩
    have hw := hw x5_36 ex5_36
    refine lv_iinc (v := x5_36) (lv' := [(5, .int x5_36), (0, .ref (g 0)), (1, .int x1), (3, .int x3), (4, .int x4)]) hx hb dX3_map_189 hl (k := 4) rfl (by rw [ex5_36]; rfl) (by decide) rfl (fun ls hl => ?_)
    refine lv_goto (tgt := 140) hx hb dX3_map_192 (by decide) ?_
    exact hJ140 x1 x3 x4 x5_36 (upd mkind z1.toNatClampNeg z0) (upd msort (x3 + x5).toNatClampNeg x4) (upd mfirst (x3 + x5).toNatClampNeg x3) mblk mfree H locs hP hD hS ls (lv_sub hl [1, 2, 3, 4, 0] rfl) hw
  have B140 : ∀ (J61 : Int32 → (Nat → Int32) → (Nat → Int32) → (Nat → Int32) → (Nat → Int32) → (Nat → Int32) → Prop) (hJ61 : ∀ (x1 : Int32), ∀ (mkind : Nat → Int32), ∀ (msort : Nat → Int32), ∀ (mfirst : Nat → Int32), ∀ (mblk : Nat → Int32), ∀ (mfree : Nat → Int32), ∀ (H : Heap) (locs : List Loc), va_P D vwCl (xM g k mw mk ml mq mwt mn mt mcl mcr mth mkind msort mfirst mblk mfree mfnd mfm msn) H → va_D A (xM g k mw mk ml mq mwt mn mt mcl mcr mth mkind msort mfirst mblk mfree mfnd mfm msn) → va_S A s.heap H locs → ∀ (ls : Array Slot), lv_has ls 6 [(0, .ref (g 0)), (1, .int x1)] → J61 x1 mkind msort mfirst mblk mfree → W p l e rmX3_map s m args below meth c H locs 0 0 Q (F0 m 61 ls [])) (fu : Nat), ∀ (x1 : Int32), ∀ (x3 : Int32), ∀ (x4 : Int32), ∀ (x5 : Int32), ∀ (mkind : Nat → Int32), ∀ (msort : Nat → Int32), ∀ (mfirst : Nat → Int32), ∀ (mblk : Nat → Int32), ∀ (mfree : Nat → Int32), ∀ (H : Heap) (locs : List Loc), va_P D vwCl (xM g k mw mk ml mq mwt mn mt mcl mcr mth mkind msort mfirst mblk mfree mfnd mfm msn) H → va_D A (xM g k mw mk ml mq mwt mn mt mcl mcr mth mkind msort mfirst mblk mfree mfnd mfm msn) → va_S A s.heap H locs → ∀ (ls : Array Slot), lv_has ls 6 [(0, .ref (g 0)), (1, .int x1), (3, .int x3), (4, .int x4), (5, .int x5)] → wX3_map_140 post mw ml J61 fu x1 x3 x4 x5 mkind msort mfirst mblk mfree → W p l e rmX3_map s m args below meth c H locs 0 0 Q (F0 m 140 ls []) := by
    intro J61 hJ61 fu
    induction fu with
    | zero =>
      intro x1 x3 x4 x5 mkind msort mfirst mblk mfree H locs hP hD hS ls hl hw
      exact absurd hw (by unfold wX3_map_140; exact fun q => q)
    | succ n ih =>
      intro x1 x3 x4 x5 mkind msort mfirst mblk mfree H locs hP hD hS ls hl hw
      unfold wX3_map_140 at hw
      refine lv_iload hx hb dX3_map_140 (lv_at hl 4 rfl) ?_
      refine lv_iconst (v := 1) hx hb dX3_map_142 (by decide) ?_
      refine lv_iload hx hb dX3_map_143 (lv_at hl 3 rfl) ?_
      refine lv_ishl hx hb dX3_map_145 ?_
      refine lv_icmp_ge (tgt := 195) hx hb dX3_map_146 (by decide) (fun c_30 => ?_) (fun c_30 => ?_)
      · have hw := hw.1 c_30
        obtain ⟨x1_31, ex1_31⟩ : ∃ y : Int32, y = x1 + 1 := ⟨_, rfl⟩
        have hw := hw x1_31 ex1_31
        refine lv_iinc (v := x1_31) (lv' := [(1, .int x1_31), (0, .ref (g 0)), (3, .int x3), (4, .int x4), (5, .int x5)]) hx hb dX3_map_195 hl (k := 1) rfl (by rw [ex1_31]; rfl) (by decide) rfl (fun ls hl => ?_)
        refine lv_goto (tgt := 61) hx hb dX3_map_198 (by decide) ?_
        exact hJ61 x1_31 mkind msort mfirst mblk mfree H locs hP hD hS ls (lv_sub hl [1, 0] rfl) hw
      · have hw := hw.2 c_30
        refine lv_aload_n hx hb dX3_map_149 rfl (lv_at hl 0 rfl) ?_
        refine va_get (D := D) (ci := 3) (v := .ref (g 6)) (C := RX3) (T := TX3) (N := 18) hx hb hts hinX3 hown hK hP 0 rfl rfl 10 (by decide) (hts (.fieldLink RX3 26 "SlabHeapModel" "kind" "[I") (by decide +kernel)) (fun _ h9 => h9) rfl dX3_map_150 ?_
        refine lv_iload_n hx hb dX3_map_153 rfl (lv_at hl 2 rfl) ?_
        refine lv_iload hx hb dX3_map_154 (lv_at hl 4 rfl) ?_
        refine lv_iadd hx hb dX3_map_156 ?_
        refine lv_iload hx hb dX3_map_157 (lv_at hl 4 rfl) ?_
        refine lv_if_ne (tgt := 166) hx hb dX3_map_159 (by decide) (fun c_32 => ?_) (fun c_32 => ?_)
        · have hw := hw.1 c_32
          refine lv_iconst (v := 3) hx hb dX3_map_166 (by decide) ?_
          exact B167 J61 hJ61 (wX3_map_140 post mw ml J61 n) ih x1 x3 x4 x5 3 (x3 + x5) mkind msort mfirst mblk mfree H locs hP hD hS ls (lv_sub hl [0, 1, 2, 3, 4] rfl) hw
        · have hw := hw.2 c_32
          refine lv_iconst (v := 2) hx hb dX3_map_162 (by decide) ?_
          refine lv_goto (tgt := 167) hx hb dX3_map_163 (by decide) ?_
          exact B167 J61 hJ61 (wX3_map_140 post mw ml J61 n) ih x1 x3 x4 x5 2 (x3 + x5) mkind msort mfirst mblk mfree H locs hP hD hS ls (lv_sub hl [0, 1, 2, 3, 4] rfl) hw
  have B61 : ∀ (fu : Nat), ∀ (x1 : Int32), ∀ (mkind : Nat → Int32), ∀ (msort : Nat → Int32), ∀ (mfirst : Nat → Int32), ∀ (mblk : Nat → Int32), ∀ (mfree : Nat → Int32), ∀ (H : Heap) (locs : List Loc), va_P D vwCl (xM g k mw mk ml mq mwt mn mt mcl mcr mth mkind msort mfirst mblk mfree mfnd mfm msn) H → va_D A (xM g k mw mk ml mq mwt mn mt mcl mcr mth mkind msort mfirst mblk mfree mfnd mfm msn) → va_S A s.heap H locs → ∀ (ls : Array Slot), lv_has ls 6 [(0, .ref (g 0)), (1, .int x1)] → wX3_map_61 post mw ml fu x1 mkind msort mfirst mblk mfree → W p l e rmX3_map s m args below meth c H locs 0 0 Q (F0 m 61 ls []) := by
    intro  fu
    induction fu with
    | zero =>
      intro x1 mkind msort mfirst mblk mfree H locs hP hD hS ls hl hw
      exact absurd hw (by unfold wX3_map_61; exact fun q => q)
    | succ n ih =>
      intro x1 mkind msort mfirst mblk mfree H locs hP hD hS ls hl hw
      unfold wX3_map_61 at hw
      refine lv_iload_n hx hb dX3_map_61 rfl (lv_at hl 1 rfl) ?_
      refine lv_sipush (v := 4096) hx hb dX3_map_62 (by decide) ?_
      refine lv_icmp_ge (tgt := 201) hx hb dX3_map_65 (by decide) (fun c_2 => ?_) (fun c_2 => ?_)
      · have hw := hw.1 c_2
        refine lv_bipush (v := 8) hx hb dX3_map_201 (by decide) ?_
        refine lv_istore_n (lv' := [(1, .int 8), (0, .ref (g 0))]) hx hb dX3_map_203 rfl hl (by decide) rfl (fun ls hl => ?_)
        obtain ⟨fu_20, hw⟩ := hw
        exact B204  fu_20 8 mkind msort mfirst mblk mfree H locs hP hD hS ls (lv_sub hl [1, 0] rfl) hw
      · have hw := hw.2 c_2
        refine lv_aload_n hx hb dX3_map_68 rfl (lv_at hl 0 rfl) ?_
        refine va_get (D := D) (ci := 3) (v := .ref (g 3)) (C := RX3) (T := TX3) (N := 18) hx hb hts hinX3 hown hK hP 0 rfl rfl 2 (by decide) (hts (.fieldLink RX3 16 "SlabHeapModel" "isLive" "[Z") (by decide +kernel)) (fun _ h9 => h9) rfl dX3_map_69 ?_
        refine lv_iload_n hx hb dX3_map_72 rfl (lv_at hl 1 rfl) ?_
        obtain ⟨h_21, hw⟩ := hw
        refine va_zald hx hb hK hP 3 1 rfl rfl h_21 dX3_map_73 ?_
        refine lv_if_ne (tgt := 80) hx hb dX3_map_74 (by decide) (fun c_22 => ?_) (fun c_22 => ?_)
        · have hw := hw.1 c_22
          refine lv_aload_n hx hb dX3_map_80 rfl (lv_at hl 0 rfl) ?_
          refine lv_iload_n hx hb dX3_map_81 rfl (lv_at hl 1 rfl) ?_
          refine pcall (va_runV (As := [.int x1]) (rest := []) hC (c_X3_sizeAt l D g k mw mk ml mq mwt mn mt mcl mcr mth mkind msort mfirst mblk mfree mfnd mfm msn x1 _ hw H) (cwV 1 hts gX3_map_X3_sizeAt rfl rfl rfl (by decide +kernel) ⟨Nat.le_of_ble_eq_true rfl, Nat.le_of_ble_eq_true rfl⟩) (preV_p (va_recv hK hP (ci := 3) (q0 := 0) rfl rfl) hP hK hZ hS) rfl rfl hl.1 rfl (lv_room (Nat.le_of_ble_eq_true rfl)) dX3_map_82 ⟨Nat.le_of_ble_eq_true rfl, Nat.le_of_ble_eq_true rfl⟩) (fun r_23 hw => ?_)
          refine lv_iconst (v := 1) hx hb dX3_map_85 (by decide) ?_
          refine lv_iadd hx hb dX3_map_86 ?_
          refine lv_topi (fun x2_24 ex2_24 => ?_)
          have hw := hw x2_24 ex2_24
          refine lv_istore_n (lv' := [(2, .int x2_24), (0, .ref (g 0)), (1, .int x1)]) hx hb dX3_map_87 rfl hl (by decide) rfl (fun ls hl => ?_)
          refine lv_iload_n hx hb dX3_map_88 rfl (lv_at hl 2 rfl) ?_
          refine lv_bipush (v := 16) hx hb dX3_map_89 (by decide) ?_
          refine lv_idiv hx hb dX3_map_91 (by decide) ?_
          refine lv_topi (fun x3_25 ex3_25 => ?_)
          have hw := hw x3_25 ex3_25
          refine lv_istore_n (lv' := [(3, .int x3_25), (2, .int x2_24), (0, .ref (g 0)), (1, .int x1)]) hx hb dX3_map_92 rfl hl (by decide) rfl (fun ls hl => ?_)
          refine lv_aload_n hx hb dX3_map_93 rfl (lv_at hl 2 rfl) ?_
          refine va_get (D := D) (ci := 3) (v := .ref (g 9)) (C := RX3) (T := TX3) (N := 18) hx hb hts hinX3 hown hK hP 0 rfl rfl 13 (by decide) (hts (.fieldLink RX3 35 "SlabHeapModel" "blocks" "[I") (by decide +kernel)) (fun _ h9 => h9) rfl dX3_map_94 ?_
          refine lv_iload_n hx hb dX3_map_97 rfl (lv_at hl 0 rfl) ?_
          refine lv_dup2_11 hx hb dX3_map_98 rfl rfl ?_
          obtain ⟨h_26, hw⟩ := hw
          refine va_iald hx hb hK hP 9 0 rfl rfl h_26 dX3_map_99 ?_
          refine lv_iconst (v := 1) hx hb dX3_map_100 (by decide) ?_
          refine lv_iadd hx hb dX3_map_101 ?_
          obtain ⟨h_27, hw⟩ := hw
          refine va_iast hx hb hK hP hD hS 9 0 rfl rfl h_27 dX3_map_102 (fun H locs hP hD hS => ?_)
          have hP : va_P D vwCl (xM g k mw mk ml mq mwt mn mt mcl mcr mth mkind msort mfirst (upd mblk x3_25.toNatClampNeg ((mblk x3_25.toNatClampNeg) + 1)) mfree mfnd mfm msn) H := hP
          have hD : va_D A (xM g k mw mk ml mq mwt mn mt mcl mcr mth mkind msort mfirst (upd mblk x3_25.toNatClampNeg ((mblk x3_25.toNatClampNeg) + 1)) mfree mfnd mfm msn) := hD
          refine lv_iload_n hx hb dX3_map_103 rfl (lv_at hl 1 rfl) ?_
          refine lv_bipush (v := 8) hx hb dX3_map_104 (by decide) ?_
          refine lv_icmp_gt (tgt := 130) hx hb dX3_map_106 (by decide) (fun c_28 => ?_) (fun c_28 => ?_)
          · have hw := hw.1 c_28
            refine lv_aload_n hx hb dX3_map_130 rfl (lv_at hl 2 rfl) ?_
            refine lv_iload_n hx hb dX3_map_131 rfl (lv_at hl 1 rfl) ?_
            refine pcall (va_runV (As := [.int x2_24]) (rest := []) hC (c_X3_orderOf l D g k mw mk ml mq mwt mn mt mcl mcr mth mkind msort mfirst (upd mblk x3_25.toNatClampNeg ((mblk x3_25.toNatClampNeg) + 1)) mfree mfnd mfm msn x2_24 _ hw H) (cwV 1 hts gX3_map_X3_orderOf rfl rfl rfl (by decide +kernel) ⟨Nat.le_of_ble_eq_true rfl, Nat.le_of_ble_eq_true rfl⟩) (preV_p (va_recv hK hP (ci := 3) (q0 := 0) rfl rfl) hP hK hZ hS) rfl rfl hl.1 rfl (lv_room (Nat.le_of_ble_eq_true rfl)) dX3_map_132 ⟨Nat.le_of_ble_eq_true rfl, Nat.le_of_ble_eq_true rfl⟩) (fun r_29 hw => ?_)
            refine lv_istore (lv' := [(4, .int r_29), (3, .int x3_25), (2, .int x2_24), (0, .ref (g 0)), (1, .int x1)]) hx hb dX3_map_135 hl (by decide) rfl (fun ls hl => ?_)
            refine lv_iconst (v := 0) hx hb dX3_map_137 (by decide) ?_
            refine lv_istore (lv' := [(5, .int 0), (4, .int r_29), (3, .int x3_25), (2, .int x2_24), (0, .ref (g 0)), (1, .int x1)]) hx hb dX3_map_138 hl (by decide) rfl (fun ls hl => ?_)
            obtain ⟨fu_37, hw⟩ := hw
            exact B140 (wX3_map_61 post mw ml n) ih fu_37 x1 x3_25 r_29 0 mkind msort mfirst (upd mblk x3_25.toNatClampNeg ((mblk x3_25.toNatClampNeg) + 1)) mfree H locs hP hD hS ls (lv_sub hl [4, 5, 2, 1, 0] rfl) hw
          · have hw := hw.2 c_28
            refine lv_aload_n hx hb dX3_map_109 rfl (lv_at hl 2 rfl) ?_
            refine va_get (D := D) (ci := 3) (v := .ref (g 6)) (C := RX3) (T := TX3) (N := 18) hx hb hts hinX3 hown hK hP 0 rfl rfl 10 (by decide) (hts (.fieldLink RX3 26 "SlabHeapModel" "kind" "[I") (by decide +kernel)) (fun _ h9 => h9) rfl dX3_map_110 ?_
            refine lv_iload_n hx hb dX3_map_113 rfl (lv_at hl 0 rfl) ?_
            refine lv_iconst (v := 1) hx hb dX3_map_114 (by decide) ?_
            obtain ⟨h_38, hw⟩ := hw
            refine va_iast hx hb hK hP hD hS 6 0 rfl rfl h_38 dX3_map_115 (fun H locs hP hD hS => ?_)
            have hP : va_P D vwCl (xM g k mw mk ml mq mwt mn mt mcl mcr mth (upd mkind x3_25.toNatClampNeg 1) msort mfirst (upd mblk x3_25.toNatClampNeg ((mblk x3_25.toNatClampNeg) + 1)) mfree mfnd mfm msn) H := hP
            have hD : va_D A (xM g k mw mk ml mq mwt mn mt mcl mcr mth (upd mkind x3_25.toNatClampNeg 1) msort mfirst (upd mblk x3_25.toNatClampNeg ((mblk x3_25.toNatClampNeg) + 1)) mfree mfnd mfm msn) := hD
            refine lv_aload_n hx hb dX3_map_116 rfl (lv_at hl 2 rfl) ?_
            refine va_get (D := D) (ci := 3) (v := .ref (g 7)) (C := RX3) (T := TX3) (N := 18) hx hb hts hinX3 hown hK hP 0 rfl rfl 11 (by decide) (hts (.fieldLink RX3 29 "SlabHeapModel" "sort" "[I") (by decide +kernel)) (fun _ h9 => h9) rfl dX3_map_117 ?_
            refine lv_iload_n hx hb dX3_map_120 rfl (lv_at hl 0 rfl) ?_
            refine lv_aload_n hx hb dX3_map_121 rfl (lv_at hl 2 rfl) ?_
            refine lv_iload_n hx hb dX3_map_122 rfl (lv_at hl 1 rfl) ?_
            refine pcall (va_runV (As := [.int x2_24]) (rest := [.int x3_25, .ref (g 7)]) hC (c_X3_classOf l D g k mw mk ml mq mwt mn mt mcl mcr mth (upd mkind x3_25.toNatClampNeg 1) msort mfirst (upd mblk x3_25.toNatClampNeg ((mblk x3_25.toNatClampNeg) + 1)) mfree mfnd mfm msn x2_24 _ hw H) (cwV 1 hts gX3_map_X3_classOf rfl rfl rfl (by decide +kernel) ⟨Nat.le_of_ble_eq_true rfl, Nat.le_of_ble_eq_true rfl⟩) (preV_p (va_recv hK hP (ci := 3) (q0 := 0) rfl rfl) hP hK hZ hS) rfl rfl hl.1 rfl (lv_room (Nat.le_of_ble_eq_true rfl)) dX3_map_123 ⟨Nat.le_of_ble_eq_true rfl, Nat.le_of_ble_eq_true rfl⟩) (fun r_39 hw => ?_)
            obtain ⟨h_40, hw⟩ := hw
            refine va_iast hx hb hK hP hD hS 7 0 rfl rfl h_40 dX3_map_126 (fun H locs hP hD hS => ?_)
            have hP : va_P D vwCl (xM g k mw mk ml mq mwt mn mt mcl mcr mth (upd mkind x3_25.toNatClampNeg 1) (upd msort x3_25.toNatClampNeg r_39) mfirst (upd mblk x3_25.toNatClampNeg ((mblk x3_25.toNatClampNeg) + 1)) mfree mfnd mfm msn) H := hP
            have hD : va_D A (xM g k mw mk ml mq mwt mn mt mcl mcr mth (upd mkind x3_25.toNatClampNeg 1) (upd msort x3_25.toNatClampNeg r_39) mfirst (upd mblk x3_25.toNatClampNeg ((mblk x3_25.toNatClampNeg) + 1)) mfree mfnd mfm msn) := hD
            refine lv_goto (tgt := 195) hx hb dX3_map_127 (by decide) ?_
            obtain ⟨x1_41, ex1_41⟩ : ∃ y : Int32, y = x1 + 1 := ⟨_, rfl⟩
            have hw := hw x1_41 ex1_41
            refine lv_iinc (v := x1_41) (lv' := [(1, .int x1_41), (3, .int x3_25), (2, .int x2_24), (0, .ref (g 0))]) hx hb dX3_map_195 hl (k := 3) rfl (by rw [ex1_41]; rfl) (by decide) rfl (fun ls hl => ?_)
            refine lv_goto (tgt := 61) hx hb dX3_map_198 (by decide) ?_
            exact ih x1_41 (upd mkind x3_25.toNatClampNeg 1) (upd msort x3_25.toNatClampNeg r_39) mfirst (upd mblk x3_25.toNatClampNeg ((mblk x3_25.toNatClampNeg) + 1)) mfree H locs hP hD hS ls (lv_sub hl [3, 0] rfl) hw
        · have hw := hw.2 c_22
          refine lv_goto (tgt := 195) hx hb dX3_map_77 (by decide) ?_
          obtain ⟨x1_42, ex1_42⟩ : ∃ y : Int32, y = x1 + 1 := ⟨_, rfl⟩
          have hw := hw x1_42 ex1_42
          refine lv_iinc (v := x1_42) (lv' := [(1, .int x1_42), (0, .ref (g 0))]) hx hb dX3_map_195 hl (k := 1) rfl (by rw [ex1_42]; rfl) (by decide) rfl (fun ls hl => ?_)
          refine lv_goto (tgt := 61) hx hb dX3_map_198 (by decide) ?_
          exact ih x1_42 mkind msort mfirst mblk mfree H locs hP hD hS ls (lv_sub hl [1, 0] rfl) hw
  have B23 : ∀ (J2 : Int32 → (Nat → Int32) → (Nat → Int32) → (Nat → Int32) → (Nat → Int32) → (Nat → Int32) → Prop) (hJ2 : ∀ (x1 : Int32), ∀ (mkind : Nat → Int32), ∀ (msort : Nat → Int32), ∀ (mfirst : Nat → Int32), ∀ (mblk : Nat → Int32), ∀ (mfree : Nat → Int32), ∀ (H : Heap) (locs : List Loc), va_P D vwCl (xM g k mw mk ml mq mwt mn mt mcl mcr mth mkind msort mfirst mblk mfree mfnd mfm msn) H → va_D A (xM g k mw mk ml mq mwt mn mt mcl mcr mth mkind msort mfirst mblk mfree mfnd mfm msn) → va_S A s.heap H locs → ∀ (ls : Array Slot), lv_has ls 6 [(0, .ref (g 0)), (1, .int x1)] → J2 x1 mkind msort mfirst mblk mfree → W p l e rmX3_map s m args below meth c H locs 0 0 Q (F0 m 2 ls [])) , ∀ (x1 : Int32), ∀ (z0 : Int32), ∀ (z1 : Int32), ∀ (mkind : Nat → Int32), ∀ (msort : Nat → Int32), ∀ (mfirst : Nat → Int32), ∀ (mblk : Nat → Int32), ∀ (mfree : Nat → Int32), ∀ (H : Heap) (locs : List Loc), va_P D vwCl (xM g k mw mk ml mq mwt mn mt mcl mcr mth mkind msort mfirst mblk mfree mfnd mfm msn) H → va_D A (xM g k mw mk ml mq mwt mn mt mcl mcr mth mkind msort mfirst mblk mfree mfnd mfm msn) → va_S A s.heap H locs → ∀ (ls : Array Slot), lv_has ls 6 [(0, .ref (g 0)), (1, .int x1)] → wX3_map_23 post mw ml J2 x1 z0 z1 mkind msort mfirst mblk mfree → W p l e rmX3_map s m args below meth c H locs 0 0 Q (F0 m 23 ls [.int z0, .int z1, .ref (g 6)]) := by
    intro J2 hJ2 x1 z0 z1 mkind msort mfirst mblk mfree H locs hP hD hS ls hl hw
    unfold wX3_map_23 at hw
    obtain ⟨h_45, hw⟩ := hw
    refine va_iast hx hb hK hP hD hS 6 0 rfl rfl h_45 dX3_map_23 (fun H locs hP hD hS => ?_)
    have hP : va_P D vwCl (xM g k mw mk ml mq mwt mn mt mcl mcr mth (upd mkind z1.toNatClampNeg z0) msort mfirst mblk mfree mfnd mfm msn) H := hP
    have hD : va_D A (xM g k mw mk ml mq mwt mn mt mcl mcr mth (upd mkind z1.toNatClampNeg z0) msort mfirst mblk mfree mfnd mfm msn) := hD
    refine lv_aload_n hx hb dX3_map_24 rfl (lv_at hl 0 rfl) ?_
    refine va_get (D := D) (ci := 3) (v := .ref (g 7)) (C := RX3) (T := TX3) (N := 18) hx hb hts hinX3 hown hK hP 0 rfl rfl 11 (by decide) (hts (.fieldLink RX3 29 "SlabHeapModel" "sort" "[I") (by decide +kernel)) (fun _ h9 => h9) rfl dX3_map_25 ?_
    refine lv_iload_n hx hb dX3_map_28 rfl (lv_at hl 1 rfl) ?_
    refine lv_iconst (v := (-1)) hx hb dX3_map_29 (by decide) ?_
    obtain ⟨h_46, hw⟩ := hw
    refine va_iast hx hb hK hP hD hS 7 0 rfl rfl h_46 dX3_map_30 (fun H locs hP hD hS => ?_)
    have hP : va_P D vwCl (xM g k mw mk ml mq mwt mn mt mcl mcr mth (upd mkind z1.toNatClampNeg z0) (upd msort x1.toNatClampNeg (-1)) mfirst mblk mfree mfnd mfm msn) H := hP
    have hD : va_D A (xM g k mw mk ml mq mwt mn mt mcl mcr mth (upd mkind z1.toNatClampNeg z0) (upd msort x1.toNatClampNeg (-1)) mfirst mblk mfree mfnd mfm msn) := hD
    refine lv_aload_n hx hb dX3_map_31 rfl (lv_at hl 0 rfl) ?_
    refine va_get (D := D) (ci := 3) (v := .ref (g 8)) (C := RX3) (T := TX3) (N := 18) hx hb hts hinX3 hown hK hP 0 rfl rfl 12 (by decide) (hts (.fieldLink RX3 32 "SlabHeapModel" "first" "[I") (by decide +kernel)) (fun _ h9 => h9) rfl dX3_map_32 ?_
    refine lv_iload_n hx hb dX3_map_35 rfl (lv_at hl 1 rfl) ?_
    refine lv_iload_n hx hb dX3_map_36 rfl (lv_at hl 1 rfl) ?_
    obtain ⟨h_47, hw⟩ := hw
    refine va_iast hx hb hK hP hD hS 8 0 rfl rfl h_47 dX3_map_37 (fun H locs hP hD hS => ?_)
    have hP : va_P D vwCl (xM g k mw mk ml mq mwt mn mt mcl mcr mth (upd mkind z1.toNatClampNeg z0) (upd msort x1.toNatClampNeg (-1)) (upd mfirst x1.toNatClampNeg x1) mblk mfree mfnd mfm msn) H := hP
    have hD : va_D A (xM g k mw mk ml mq mwt mn mt mcl mcr mth (upd mkind z1.toNatClampNeg z0) (upd msort x1.toNatClampNeg (-1)) (upd mfirst x1.toNatClampNeg x1) mblk mfree mfnd mfm msn) := hD
    refine lv_aload_n hx hb dX3_map_38 rfl (lv_at hl 0 rfl) ?_
    refine va_get (D := D) (ci := 3) (v := .ref (g 9)) (C := RX3) (T := TX3) (N := 18) hx hb hts hinX3 hown hK hP 0 rfl rfl 13 (by decide) (hts (.fieldLink RX3 35 "SlabHeapModel" "blocks" "[I") (by decide +kernel)) (fun _ h9 => h9) rfl dX3_map_39 ?_
    refine lv_iload_n hx hb dX3_map_42 rfl (lv_at hl 1 rfl) ?_
    refine lv_iconst (v := 0) hx hb dX3_map_43 (by decide) ?_
    obtain ⟨h_48, hw⟩ := hw
    refine va_iast hx hb hK hP hD hS 9 0 rfl rfl h_48 dX3_map_44 (fun H locs hP hD hS => ?_)
    have hP : va_P D vwCl (xM g k mw mk ml mq mwt mn mt mcl mcr mth (upd mkind z1.toNatClampNeg z0) (upd msort x1.toNatClampNeg (-1)) (upd mfirst x1.toNatClampNeg x1) (upd mblk x1.toNatClampNeg 0) mfree mfnd mfm msn) H := hP
    have hD : va_D A (xM g k mw mk ml mq mwt mn mt mcl mcr mth (upd mkind z1.toNatClampNeg z0) (upd msort x1.toNatClampNeg (-1)) (upd mfirst x1.toNatClampNeg x1) (upd mblk x1.toNatClampNeg 0) mfree mfnd mfm msn) := hD
    refine lv_aload_n hx hb dX3_map_45 rfl (lv_at hl 0 rfl) ?_
    refine va_get (D := D) (ci := 3) (v := .ref (g 10)) (C := RX3) (T := TX3) (N := 18) hx hb hts hinX3 hown hK hP 0 rfl rfl 14 (by decide) (hts (.fieldLink RX3 38 "SlabHeapModel" "free" "[I") (by decide +kernel)) (fun _ h9 => h9) rfl dX3_map_46 ?_
    refine lv_iload_n hx hb dX3_map_49 rfl (lv_at hl 1 rfl) ?_
    refine lv_iconst (v := (-1)) hx hb dX3_map_50 (by decide) ?_
    obtain ⟨h_49, hw⟩ := hw
    refine va_iast hx hb hK hP hD hS 10 0 rfl rfl h_49 dX3_map_51 (fun H locs hP hD hS => ?_)
    have hP : va_P D vwCl (xM g k mw mk ml mq mwt mn mt mcl mcr mth (upd mkind z1.toNatClampNeg z0) (upd msort x1.toNatClampNeg (-1)) (upd mfirst x1.toNatClampNeg x1) (upd mblk x1.toNatClampNeg 0) (upd mfree x1.toNatClampNeg (-1)) mfnd mfm msn) H := hP
    have hD : va_D A (xM g k mw mk ml mq mwt mn mt mcl mcr mth (upd mkind z1.toNatClampNeg z0) (upd msort x1.toNatClampNeg (-1)) (upd mfirst x1.toNatClampNeg x1) (upd mblk x1.toNatClampNeg 0) (upd mfree x1.toNatClampNeg (-1)) mfnd mfm msn) := hD
    obtain ⟨x1_50, ex1_50⟩ : ∃ y : Int32, y = x1 + 1 := ⟨_, rfl⟩
    have hw := hw x1_50 ex1_50
    refine lv_iinc (v := x1_50) (lv' := [(1, .int x1_50), (0, .ref (g 0))]) hx hb dX3_map_52 hl (k := 1) rfl (by rw [ex1_50]; rfl) (by decide) rfl (fun ls hl => ?_)
    refine lv_goto (tgt := 2) hx hb dX3_map_55 (by decide) ?_
    exact hJ2 x1_50 (upd mkind z1.toNatClampNeg z0) (upd msort x1.toNatClampNeg (-1)) (upd mfirst x1.toNatClampNeg x1) (upd mblk x1.toNatClampNeg 0) (upd mfree x1.toNatClampNeg (-1)) H locs hP hD hS ls (lv_sub hl [1, 0] rfl) hw
  have B2 : ∀ (fu : Nat), ∀ (x1 : Int32), ∀ (mkind : Nat → Int32), ∀ (msort : Nat → Int32), ∀ (mfirst : Nat → Int32), ∀ (mblk : Nat → Int32), ∀ (mfree : Nat → Int32), ∀ (H : Heap) (locs : List Loc), va_P D vwCl (xM g k mw mk ml mq mwt mn mt mcl mcr mth mkind msort mfirst mblk mfree mfnd mfm msn) H → va_D A (xM g k mw mk ml mq mwt mn mt mcl mcr mth mkind msort mfirst mblk mfree mfnd mfm msn) → va_S A s.heap H locs → ∀ (ls : Array Slot), lv_has ls 6 [(0, .ref (g 0)), (1, .int x1)] → wX3_map_2 post mw ml fu x1 mkind msort mfirst mblk mfree → W p l e rmX3_map s m args below meth c H locs 0 0 Q (F0 m 2 ls []) := by
    intro  fu
    induction fu with
    | zero =>
      intro x1 mkind msort mfirst mblk mfree H locs hP hD hS ls hl hw
      exact absurd hw (by unfold wX3_map_2; exact fun q => q)
    | succ n ih =>
      intro x1 mkind msort mfirst mblk mfree H locs hP hD hS ls hl hw
      unfold wX3_map_2 at hw
      refine lv_iload_n hx hb dX3_map_2 rfl (lv_at hl 1 rfl) ?_
      refine lv_sipush (v := 256) hx hb dX3_map_3 (by decide) ?_
      refine lv_icmp_ge (tgt := 58) hx hb dX3_map_6 (by decide) (fun c_1 => ?_) (fun c_1 => ?_)
      · have hw := hw.1 c_1
        refine lv_bipush (v := 16) hx hb dX3_map_58 (by decide) ?_
        refine lv_istore_n (lv' := [(1, .int 16), (0, .ref (g 0))]) hx hb dX3_map_60 rfl hl (by decide) rfl (fun ls hl => ?_)
        obtain ⟨fu_43, hw⟩ := hw
        exact B61  fu_43 16 mkind msort mfirst mblk mfree H locs hP hD hS ls (lv_sub hl [1, 0] rfl) hw
      · have hw := hw.2 c_1
        refine lv_aload_n hx hb dX3_map_9 rfl (lv_at hl 0 rfl) ?_
        refine va_get (D := D) (ci := 3) (v := .ref (g 6)) (C := RX3) (T := TX3) (N := 18) hx hb hts hinX3 hown hK hP 0 rfl rfl 10 (by decide) (hts (.fieldLink RX3 26 "SlabHeapModel" "kind" "[I") (by decide +kernel)) (fun _ h9 => h9) rfl dX3_map_10 ?_
        refine lv_iload_n hx hb dX3_map_13 rfl (lv_at hl 1 rfl) ?_
        refine lv_iload_n hx hb dX3_map_14 rfl (lv_at hl 1 rfl) ?_
        refine lv_if_ne (tgt := 22) hx hb dX3_map_15 (by decide) (fun c_44 => ?_) (fun c_44 => ?_)
        · have hw := hw.1 c_44
          refine lv_iconst (v := 0) hx hb dX3_map_22 (by decide) ?_
          exact B23 (wX3_map_2 post mw ml n) ih x1 0 x1 mkind msort mfirst mblk mfree H locs hP hD hS ls (lv_sub hl [0, 1] rfl) hw
        · have hw := hw.2 c_44
          refine lv_iconst (v := 4) hx hb dX3_map_18 (by decide) ?_
          refine lv_goto (tgt := 23) hx hb dX3_map_19 (by decide) ?_
          exact B23 (wX3_map_2 post mw ml n) ih x1 4 x1 mkind msort mfirst mblk mfree H locs hP hD hS ls (lv_sub hl [0, 1] rfl) hw
  unfold wX3_map at hw
  suffices main : ∀ (H : Heap) (locs : List Loc), va_P D vwCl (xM g k mw mk ml mq mwt mn mt mcl mcr mth mkind msort mfirst mblk mfree mfnd mfm msn) H → va_D A (xM g k mw mk ml mq mwt mn mt mcl mcr mth mkind msort mfirst mblk mfree mfnd mfm msn) → va_S A s.heap H locs → W p l e rmX3_map s m args below meth c H locs 0 0 Q (F0 m 0 ls []) from main _ _ hP hD hS
  intro H locs hP hD hS
  refine lv_iconst (v := 0) hx hb dX3_map_0 (by decide) ?_
  refine lv_istore_n (lv' := [(1, .int 0), (0, .ref (g 0))]) hx hb dX3_map_1 rfl hl (by decide) rfl (fun ls hl => ?_)
  obtain ⟨fu_51, hw⟩ := hw
  exact B2  fu_51 0 mkind msort mfirst mblk mfree H locs hP hD hS ls (lv_sub hl [1, 0] rfl) hw
-- X3_taken
abbrev rmX3_taken : Room := { frames := 0, cells := 0, slots := 0, locals := 0 }
set_option maxHeartbeats 4000000 in
set_option maxRecDepth 100000 in
theorem c_X3_taken (l : Launch) (D : va_G) (g : Nat → Nat) (k : xC) (mw : Nat → Int32) (mk : Nat → Int32) (ml : Nat → Int32) (mq : Nat → Int32) (mwt : Nat → Int32) (mn : Int32) (mt : Int32) (mcl : Int32) (mcr : Int32) (mth : Int32) (mkind : Nat → Int32) (msort : Nat → Int32) (mfirst : Nat → Int32) (mblk : Nat → Int32) (mfree : Nat → Int32) (mfnd : Nat → Int32) (mfm : Int32) (msn : Nat → Int32) (x1 : Int32) (post : Int32 → Prop) (hw : wX3_taken post mfirst mfree x1) : CPi l yX3_taken wsX3_taken rmX3_taken D k [.ref (g 0), .int x1] (xM g k mw mk ml mq mwt mn mt mcl mcr mth mkind msort mfirst mblk mfree mfnd mfm msn) post := by
  refine met_pi (cc := cX3_taken) (nL := 4) (by decide) rfl (Nat.le_of_ble_eq_true rfl) ?_
  intro p e s m args below meth c Q ls hC hP hK hZ hS hl hret
  obtain ⟨hx, hb, hml, hown, hts⟩ := id hC
  have hC : CallFix p m c cX3_taken 4 s args wsX3_taken RX3 := hC
  have hown : s.vm.findClass RX3 = some m.cls := hown
  have hl : lv_has ls 4 [(0, .ref (g 0)), (1, .int x1)] := hl
  have hinX3 : ∀ w ∈ wsX30, w ∈ wsX3_taken := fun _ h => List.mem_cons_of_mem _ (List.mem_append_right _ h)
  have B10 : ∀ (J2 : Int32 → Prop) (hJ2 : ∀ (x2 : Int32), ∀ (ls : Array Slot), lv_has ls 4 [(0, .ref (g 0)), (2, .int x2)] → J2 x2 → W p l e rmX3_taken s m args below meth c s.heap [] 0 0 Q (F0 m 2 ls [])) (fu : Nat), ∀ (x2 : Int32), ∀ (x3 : Int32), ∀ (ls : Array Slot), lv_has ls 4 [(0, .ref (g 0)), (2, .int x2), (3, .int x3)] → wX3_taken_10 post mfirst mfree J2 fu x2 x3 → W p l e rmX3_taken s m args below meth c s.heap [] 0 0 Q (F0 m 10 ls []) := by
    intro J2 hJ2 fu
    induction fu with
    | zero =>
      intro x2 x3 ls hl hw
      exact absurd hw (by unfold wX3_taken_10; exact fun q => q)
    | succ n ih =>
      intro x2 x3 ls hl hw
      unfold wX3_taken_10 at hw
      refine lv_iload_n hx hb dX3_taken_10 rfl (lv_at hl 2 rfl) ?_
      refine lv_sipush (v := 256) hx hb dX3_taken_11 (by decide) ?_
      refine lv_icmp_ge (tgt := 45) hx hb dX3_taken_14 (by decide) (fun c_2 => ?_) (fun c_2 => ?_)
      · have hw := hw.1 c_2
        obtain ⟨x2_3, ex2_3⟩ : ∃ y : Int32, y = x2 + 1 := ⟨_, rfl⟩
        have hw := hw x2_3 ex2_3
        refine lv_iinc (v := x2_3) (lv' := [(2, .int x2_3), (0, .ref (g 0)), (3, .int x3)]) hx hb dX3_taken_45 hl (k := 1) rfl (by rw [ex2_3]; rfl) (by decide) rfl (fun ls hl => ?_)
        refine lv_goto (tgt := 2) hx hb dX3_taken_48 (by decide) ?_
        exact hJ2 x2_3 ls (lv_sub hl [1, 0] rfl) hw
      · have hw := hw.2 c_2
        refine lv_aload_n hx hb dX3_taken_17 rfl (lv_at hl 0 rfl) ?_
        refine va_get (D := D) (ci := 3) (v := .ref (g 10)) (C := RX3) (T := TX3) (N := 18) hx hb hts hinX3 hown hK hP 0 rfl rfl 14 (by decide) (hts (.fieldLink RX3 38 "SlabHeapModel" "free" "[I") (by decide +kernel)) (fun _ h9 => h9) rfl dX3_taken_18 ?_
        refine lv_iload_n hx hb dX3_taken_21 rfl (lv_at hl 2 rfl) ?_
        obtain ⟨h_4, hw⟩ := hw
        refine va_iald hx hb hK hP 10 0 rfl rfl h_4 dX3_taken_22 ?_
        refine lv_iload_n hx hb dX3_taken_23 rfl (lv_at hl 1 rfl) ?_
        refine lv_icmp_ne (tgt := 39) hx hb dX3_taken_24 (by decide) (fun c_5 => ?_) (fun c_5 => ?_)
        · have hw := hw.1 c_5
          obtain ⟨x3_6, ex3_6⟩ : ∃ y : Int32, y = x3 + 1 := ⟨_, rfl⟩
          have hw := hw x3_6 ex3_6
          refine lv_iinc (v := x3_6) (lv' := [(3, .int x3_6), (0, .ref (g 0)), (2, .int x2)]) hx hb dX3_taken_39 hl (k := 2) rfl (by rw [ex3_6]; rfl) (by decide) rfl (fun ls hl => ?_)
          refine lv_goto (tgt := 10) hx hb dX3_taken_42 (by decide) ?_
          exact ih x2 x3_6 ls (lv_sub hl [1, 2, 0] rfl) hw
        · have hw := hw.2 c_5
          refine lv_aload_n hx hb dX3_taken_27 rfl (lv_at hl 0 rfl) ?_
          refine va_get (D := D) (ci := 3) (v := .ref (g 8)) (C := RX3) (T := TX3) (N := 18) hx hb hts hinX3 hown hK hP 0 rfl rfl 12 (by decide) (hts (.fieldLink RX3 32 "SlabHeapModel" "first" "[I") (by decide +kernel)) (fun _ h9 => h9) rfl dX3_taken_28 ?_
          refine lv_iload_n hx hb dX3_taken_31 rfl (lv_at hl 2 rfl) ?_
          obtain ⟨h_7, hw⟩ := hw
          refine va_iald hx hb hK hP 8 0 rfl rfl h_7 dX3_taken_32 ?_
          refine lv_iload_n hx hb dX3_taken_33 rfl (lv_at hl 2 rfl) ?_
          refine lv_icmp_ne (tgt := 39) hx hb dX3_taken_34 (by decide) (fun c_8 => ?_) (fun c_8 => ?_)
          · have hw := hw.1 c_8
            obtain ⟨x3_9, ex3_9⟩ : ∃ y : Int32, y = x3 + 1 := ⟨_, rfl⟩
            have hw := hw x3_9 ex3_9
            refine lv_iinc (v := x3_9) (lv' := [(3, .int x3_9), (0, .ref (g 0)), (2, .int x2)]) hx hb dX3_taken_39 hl (k := 2) rfl (by rw [ex3_9]; rfl) (by decide) rfl (fun ls hl => ?_)
            refine lv_goto (tgt := 10) hx hb dX3_taken_42 (by decide) ?_
            exact ih x2 x3_9 ls (lv_sub hl [1, 2, 0] rfl) hw
          · have hw := hw.2 c_8
            refine lv_iload_n hx hb dX3_taken_37 rfl (lv_at hl 2 rfl) ?_
            exact hret _ _ _ dX3_taken_38 hw
  have B2 : ∀ (fu : Nat), ∀ (x2 : Int32), ∀ (ls : Array Slot), lv_has ls 4 [(0, .ref (g 0)), (2, .int x2)] → wX3_taken_2 post mfirst mfree fu x2 → W p l e rmX3_taken s m args below meth c s.heap [] 0 0 Q (F0 m 2 ls []) := by
    intro  fu
    induction fu with
    | zero =>
      intro x2 ls hl hw
      exact absurd hw (by unfold wX3_taken_2; exact fun q => q)
    | succ n ih =>
      intro x2 ls hl hw
      unfold wX3_taken_2 at hw
      refine lv_iload_n hx hb dX3_taken_2 rfl (lv_at hl 1 rfl) ?_
      refine lv_bipush (v := 8) hx hb dX3_taken_3 (by decide) ?_
      refine lv_icmp_gt (tgt := 51) hx hb dX3_taken_5 (by decide) (fun c_1 => ?_) (fun c_1 => ?_)
      · have hw := hw.1 c_1
        refine lv_iconst (v := (-1)) hx hb dX3_taken_51 (by decide) ?_
        exact hret _ _ _ dX3_taken_52 hw
      · have hw := hw.2 c_1
        refine lv_iconst (v := 0) hx hb dX3_taken_8 (by decide) ?_
        refine lv_istore_n (lv' := [(3, .int 0), (0, .ref (g 0)), (2, .int x2)]) hx hb dX3_taken_9 rfl hl (by decide) rfl (fun ls hl => ?_)
        obtain ⟨fu_10, hw⟩ := hw
        exact B10 (wX3_taken_2 post mfirst mfree n) ih fu_10 x2 0 ls (lv_sub hl [1, 2, 0] rfl) hw
  unfold wX3_taken at hw
  refine lv_iload_n hx hb dX3_taken_0 rfl (lv_at hl 1 rfl) ?_
  refine lv_istore_n (lv' := [(2, .int x1), (0, .ref (g 0)), (1, .int x1)]) hx hb dX3_taken_1 rfl hl (by decide) rfl (fun ls hl => ?_)
  obtain ⟨fu_11, hw⟩ := hw
  exact B2  fu_11 x1 ls (lv_sub hl [1, 0] rfl) hw
