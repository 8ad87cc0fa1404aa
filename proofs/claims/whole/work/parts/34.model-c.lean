-- X3_look
abbrev rmX3_look : Room := { frames := 3, cells := 0, slots := 0, locals := 73 }
set_option maxHeartbeats 4000000 in
set_option maxRecDepth 100000 in
theorem c_X3_look (l : Launch) (D : va_G) (g : Nat → Nat) (k : xC) (mw : Nat → Int32) (mk : Nat → Int32) (ml : Nat → Int32) (mq : Nat → Int32) (mwt : Nat → Int32) (mn : Int32) (mt : Int32) (mcl : Int32) (mcr : Int32) (mth : Int32) (mkind : Nat → Int32) (msort : Nat → Int32) (mfirst : Nat → Int32) (mblk : Nat → Int32) (mfree : Nat → Int32) (mfnd : Nat → Int32) (mfm : Int32) (msn : Nat → Int32) (x1 : Int32) (post : (Nat → Int32) → (Nat → Int32) → (Nat → Int32) → (Nat → Int32) → Int32 → Int32 → (Nat → Int32) → (Nat → Int32) → (Nat → Int32) → (Nat → Int32) → (Nat → Int32) → (Nat → Int32) → Int32 → Prop) (hw : wX3_look post mw ml mq mwt mn mcl mkind msort mfirst mblk mfree mfnd mfm x1) : CMv l yX3_look wsX3_look rmX3_look D k [.ref (g 0), .int x1] (fun v : (Nat → Int32) × (Nat → Int32) × (Nat → Int32) × (Nat → Int32) × Int32 × Int32 × (Nat → Int32) × (Nat → Int32) × (Nat → Int32) × (Nat → Int32) × (Nat → Int32) × (Nat → Int32) × Int32 => (xM g k (v.1) mk (v.2.1) (v.2.2.1) (v.2.2.2.1) (v.2.2.2.2.1) mt (v.2.2.2.2.2.1) mcr mth (v.2.2.2.2.2.2.1) (v.2.2.2.2.2.2.2.1) (v.2.2.2.2.2.2.2.2.1) (v.2.2.2.2.2.2.2.2.2.1) (v.2.2.2.2.2.2.2.2.2.2.1) (v.2.2.2.2.2.2.2.2.2.2.2.1) (v.2.2.2.2.2.2.2.2.2.2.2.2) msn)) (mw, ml, mq, mwt, mn, mcl, mkind, msort, mfirst, mblk, mfree, mfnd, mfm) (fun v => post (v.1) (v.2.1) (v.2.2.1) (v.2.2.2.1) (v.2.2.2.2.1) (v.2.2.2.2.2.1) (v.2.2.2.2.2.2.1) (v.2.2.2.2.2.2.2.1) (v.2.2.2.2.2.2.2.2.1) (v.2.2.2.2.2.2.2.2.2.1) (v.2.2.2.2.2.2.2.2.2.2.1) (v.2.2.2.2.2.2.2.2.2.2.2.1) (v.2.2.2.2.2.2.2.2.2.2.2.2)) := by
  refine met_mv (cc := cX3_look) (nL := 3) (by decide) rfl (Nat.le_of_ble_eq_true rfl) ?_
  intro p e s m args below meth c Q A ls hC hP hD hA hK hZ hS hl hret
  obtain ⟨hx, hb, hml, hown, hts⟩ := id hC
  have hC : CallFix p m c cX3_look 3 s args wsX3_look RX3 := hC
  have hown : s.vm.findClass RX3 = some m.cls := hown
  have hl : lv_has ls 3 [(0, .ref (g 0)), (1, .int x1)] := hl
  have hP : va_P D vwCl (xM g k mw mk ml mq mwt mn mt mcl mcr mth mkind msort mfirst mblk mfree mfnd mfm msn) s.heap := hP
  have hD : va_D A (xM g k mw mk ml mq mwt mn mt mcl mcr mth mkind msort mfirst mblk mfree mfnd mfm msn) := hD
  have hinX3 : ∀ w ∈ wsX30, w ∈ wsX3_look := fun _ h => List.mem_cons_of_mem _ (List.mem_append_right _ h)
  unfold wX3_look at hw
  suffices main : ∀ (H : Heap) (locs : List Loc), va_P D vwCl (xM g k mw mk ml mq mwt mn mt mcl mcr mth mkind msort mfirst mblk mfree mfnd mfm msn) H → va_D A (xM g k mw mk ml mq mwt mn mt mcl mcr mth mkind msort mfirst mblk mfree mfnd mfm msn) → va_S A s.heap H locs → W p l e rmX3_look s m args below meth c H locs 0 0 Q (F0 m 0 ls []) from main _ _ hP hD hS
  intro H locs hP hD hS
  refine lv_aload_n hx hb dX3_look_0 rfl (lv_at hl 0 rfl) ?_
  refine va_get (D := D) (ci := 3) (v := .ref (g 1)) (C := RX3) (T := TX3) (N := 18) hx hb hts hinX3 hown hK hP 0 rfl rfl 0 (by decide) (hts (.fieldLink RX3 7 "SlabHeapModel" "words" "[I") (by decide +kernel)) (fun _ h9 => h9) rfl dX3_look_1 ?_
  refine lv_iload_n hx hb dX3_look_4 rfl (lv_at hl 1 rfl) ?_
  obtain ⟨h_1, hw⟩ := hw
  refine va_iald hx hb hK hP 1 0 rfl rfl h_1 dX3_look_5 ?_
  refine lv_topi (fun x2_2 ex2_2 => ?_)
  have hw := hw x2_2 ex2_2
  refine lv_istore_n (lv' := [(2, .int x2_2), (0, .ref (g 0)), (1, .int x1)]) hx hb dX3_look_6 rfl hl (by decide) rfl (fun ls hl => ?_)
  refine lv_iload_n hx hb dX3_look_7 rfl (lv_at hl 0 rfl) ?_
  refine lv_if_eq (tgt := 19) hx hb dX3_look_8 (by decide) (fun c_3 => ?_) (fun c_3 => ?_)
  · have hw := hw.1 c_3
    exact hret _ _ (mw, ml, mq, mwt, mn, mcl, mkind, msort, mfirst, mblk, mfree, mfnd, mfm) _ _ hP hD hS dX3_look_19 hw
  · have hw := hw.2 c_3
    refine lv_aload_n hx hb dX3_look_11 rfl (lv_at hl 1 rfl) ?_
    refine lv_iload_n hx hb dX3_look_12 rfl (lv_at hl 0 rfl) ?_
    refine pcall (va_runV (As := [.int x2_2]) (rest := []) hC (c_X3_isBlock l D g k mw mk ml mq mwt mn mt mcl mcr mth mkind msort mfirst mblk mfree mfnd mfm msn x2_2 _ hw H) (cwV 1 hts gX3_look_X3_isBlock rfl rfl rfl (by decide +kernel) ⟨Nat.le_of_ble_eq_true rfl, Nat.le_of_ble_eq_true rfl⟩) (preV_p (va_recv hK hP (ci := 3) (q0 := 0) rfl rfl) hP hK hZ hS) rfl rfl hl.1 rfl (lv_room (Nat.le_of_ble_eq_true rfl)) dX3_look_13 ⟨Nat.le_of_ble_eq_true rfl, Nat.le_of_ble_eq_true rfl⟩) (fun r_4 hw => ?_)
    refine lv_if_eq (tgt := 20) hx hb dX3_look_16 (by decide) (fun c_5 => ?_) (fun c_5 => ?_)
    · have hw := hw.1 c_5
      refine lv_aload_n hx hb dX3_look_20 rfl (lv_at hl 1 rfl) ?_
      refine lv_iload_n hx hb dX3_look_21 rfl (lv_at hl 0 rfl) ?_
      refine icall (wr := []) (va_runV (As := [.int x2_2]) (rest := []) hC (c_X3_fits l D g k mw mk ml mq mwt mn mt mcl mcr mth mkind msort mfirst mblk mfree mfnd mfm msn x2_2 _ hw H.size) (cwV 1 hts gX3_look_X3_fits rfl rfl rfl (by decide +kernel) ⟨Nat.le_of_ble_eq_true rfl, Nat.le_of_ble_eq_true rfl⟩) (preV_m (va_recv hK hP (ci := 3) (q0 := 0) rfl rfl) hP hD hA hK hZ hS [0, 1, 2, 3, 4, 5, 6, 7, 8, 9, 10, 11, 12] rfl rfl (by decide)) rfl rfl hl.1 rfl (lv_room (Nat.le_of_ble_eq_true rfl)) dX3_look_22 ⟨Nat.le_of_ble_eq_true rfl, Nat.le_of_ble_eq_true rfl⟩) hP hD hA hS [0, 1, 2, 3, 4, 5, 6, 7, 8, 9, 10, 11, 12] [] rfl rfl (by decide) (by decide) (fun r_11 u' H locs hw hP hD hS => ?_)
      obtain ⟨mkind_6, msort_7, mfirst_8, mblk_9, mfree_10⟩ := u'
      try dsimp only at hw
      have hP : va_P D vwCl (xM g k mw mk ml mq mwt mn mt mcl mcr mth mkind_6 msort_7 mfirst_8 mblk_9 mfree_10 mfnd mfm msn) H := hP
      have hD : va_D A (xM g k mw mk ml mq mwt mn mt mcl mcr mth mkind_6 msort_7 mfirst_8 mblk_9 mfree_10 mfnd mfm msn) := hD
      refine lv_if_eq (tgt := 56) hx hb dX3_look_25 (by decide) (fun c_12 => ?_) (fun c_12 => ?_)
      · have hw := hw.1 c_12
        refine lv_aload_n hx hb dX3_look_56 rfl (lv_at hl 1 rfl) ?_
        refine lv_iload_n hx hb dX3_look_57 rfl (lv_at hl 2 rfl) ?_
        refine lv_iconst (v := 0) hx hb dX3_look_58 (by decide) ?_
        refine vcall (wr := []) (va_runV (As := [.int x1, .int 0]) (rest := []) hC (c_X3_write l D g k mw mk ml mq mwt mn mt mcl mcr mth mkind_6 msort_7 mfirst_8 mblk_9 mfree_10 mfnd mfm msn x1 0 _ hw H.size) (cwV 2 hts gX3_look_X3_write rfl rfl rfl (by decide +kernel) ⟨Nat.le_of_ble_eq_true rfl, Nat.le_of_ble_eq_true rfl⟩) (preV_m (va_recv hK hP (ci := 3) (q0 := 0) rfl rfl) hP hD hA hK hZ hS [0, 1, 2, 3, 4, 5, 6, 7, 8, 9, 10, 11, 12] rfl rfl (by decide)) rfl rfl hl.1 rfl (lv_room (Nat.le_of_ble_eq_true rfl)) dX3_look_59 ⟨Nat.le_of_ble_eq_true rfl, Nat.le_of_ble_eq_true rfl⟩) hP hD hA hS [0, 1, 2, 3, 4, 5, 6, 7, 8, 9, 10, 11, 12] [] rfl rfl (by decide) (by decide) (fun u' H locs hw hP hD hS => ?_)
        obtain ⟨mw_13, mq_14, mwt_15, mn_16⟩ := u'
        try dsimp only at hw
        have hP : va_P D vwCl (xM g k mw_13 mk ml mq_14 mwt_15 mn_16 mt mcl mcr mth mkind_6 msort_7 mfirst_8 mblk_9 mfree_10 mfnd mfm msn) H := hP
        have hD : va_D A (xM g k mw_13 mk ml mq_14 mwt_15 mn_16 mt mcl mcr mth mkind_6 msort_7 mfirst_8 mblk_9 mfree_10 mfnd mfm msn) := hD
        refine lv_aload_n hx hb dX3_look_62 rfl (lv_at hl 1 rfl) ?_
        refine lv_dup hx hb dX3_look_63 rfl ?_
        refine va_get (D := D) (ci := 3) (v := .int mcl) (C := RX3) (T := TX3) (N := 18) hx hb hts hinX3 hown hK hP 0 rfl rfl 7 (by decide) (hts (.fieldLink RX3 125 "SlabHeapModel" "cleared" "I") (by decide +kernel)) (fun _ h9 => h9) rfl dX3_look_64 ?_
        refine lv_iconst (v := 1) hx hb dX3_look_67 (by decide) ?_
        refine lv_iadd hx hb dX3_look_68 ?_
        refine va_put (D := D) (ci := 3) (v := .int (mcl + 1)) (ty := .int) (C := RX3) (T := TX3) (N := 18) hx hb hts hinX3 tyX3 tyX3_ok nmX3 hown hK hP hD hS 0 rfl rfl 7 (by decide) (hts (.fieldLink RX3 125 "SlabHeapModel" "cleared" "I") (by decide +kernel)) (fun _ h9 => h9) rfl (by decide +kernel) rfl rfl (Nat.le_of_ble_eq_true rfl) dX3_look_69 (fun H locs hP hD hS => ?_)
        have hP : va_P D vwCl (xM g k mw_13 mk ml mq_14 mwt_15 mn_16 mt (mcl + 1) mcr mth mkind_6 msort_7 mfirst_8 mblk_9 mfree_10 mfnd mfm msn) H := hP
        have hD : va_D A (xM g k mw_13 mk ml mq_14 mwt_15 mn_16 mt (mcl + 1) mcr mth mkind_6 msort_7 mfirst_8 mblk_9 mfree_10 mfnd mfm msn) := hD
        exact hret _ _ (mw_13, ml, mq_14, mwt_15, mn_16, (mcl + 1), mkind_6, msort_7, mfirst_8, mblk_9, mfree_10, mfnd, mfm) _ _ hP hD hS dX3_look_72 hw
      · have hw := hw.2 c_12
        refine lv_aload_n hx hb dX3_look_28 rfl (lv_at hl 1 rfl) ?_
        refine va_get (D := D) (ci := 3) (v := .ref (g 3)) (C := RX3) (T := TX3) (N := 18) hx hb hts hinX3 hown hK hP 0 rfl rfl 2 (by decide) (hts (.fieldLink RX3 16 "SlabHeapModel" "isLive" "[Z") (by decide +kernel)) (fun _ h9 => h9) rfl dX3_look_29 ?_
        refine lv_iload_n hx hb dX3_look_32 rfl (lv_at hl 0 rfl) ?_
        refine lv_iconst (v := 1) hx hb dX3_look_33 (by decide) ?_
        obtain ⟨h_17, hw⟩ := hw
        refine va_zast hx hb hK hP hD hS 3 1 rfl rfl h_17 dX3_look_34 (fun H locs hP hD hS => ?_)
        have hP : va_P D vwCl (xM g k mw mk (upd ml x2_2.toNatClampNeg (vp_nar .boolean 1)) mq mwt mn mt mcl mcr mth mkind_6 msort_7 mfirst_8 mblk_9 mfree_10 mfnd mfm msn) H := hP
        have hD : va_D A (xM g k mw mk (upd ml x2_2.toNatClampNeg (vp_nar .boolean 1)) mq mwt mn mt mcl mcr mth mkind_6 msort_7 mfirst_8 mblk_9 mfree_10 mfnd mfm msn) := hD
        refine lv_aload_n hx hb dX3_look_35 rfl (lv_at hl 1 rfl) ?_
        refine va_get (D := D) (ci := 3) (v := .ref (g 11)) (C := RX3) (T := TX3) (N := 18) hx hb hts hinX3 hown hK hP 0 rfl rfl 15 (by decide) (hts (.fieldLink RX3 41 "SlabHeapModel" "found" "[I") (by decide +kernel)) (fun _ h9 => h9) rfl dX3_look_36 ?_
        refine lv_aload_n hx hb dX3_look_39 rfl (lv_at hl 1 rfl) ?_
        refine va_get (D := D) (ci := 3) (v := .int mfm) (C := RX3) (T := TX3) (N := 18) hx hb hts hinX3 hown hK hP 0 rfl rfl 16 (by decide) (hts (.fieldLink RX3 128 "SlabHeapModel" "foundMany" "I") (by decide +kernel)) (fun _ h9 => h9) rfl dX3_look_40 ?_
        refine lv_iload_n hx hb dX3_look_43 rfl (lv_at hl 0 rfl) ?_
        obtain ⟨h_18, hw⟩ := hw
        refine va_iast hx hb hK hP hD hS 11 0 rfl rfl h_18 dX3_look_44 (fun H locs hP hD hS => ?_)
        have hP : va_P D vwCl (xM g k mw mk (upd ml x2_2.toNatClampNeg (vp_nar .boolean 1)) mq mwt mn mt mcl mcr mth mkind_6 msort_7 mfirst_8 mblk_9 mfree_10 (upd mfnd mfm.toNatClampNeg x2_2) mfm msn) H := hP
        have hD : va_D A (xM g k mw mk (upd ml x2_2.toNatClampNeg (vp_nar .boolean 1)) mq mwt mn mt mcl mcr mth mkind_6 msort_7 mfirst_8 mblk_9 mfree_10 (upd mfnd mfm.toNatClampNeg x2_2) mfm msn) := hD
        refine lv_aload_n hx hb dX3_look_45 rfl (lv_at hl 1 rfl) ?_
        refine lv_dup hx hb dX3_look_46 rfl ?_
        refine va_get (D := D) (ci := 3) (v := .int mfm) (C := RX3) (T := TX3) (N := 18) hx hb hts hinX3 hown hK hP 0 rfl rfl 16 (by decide) (hts (.fieldLink RX3 128 "SlabHeapModel" "foundMany" "I") (by decide +kernel)) (fun _ h9 => h9) rfl dX3_look_47 ?_
        refine lv_iconst (v := 1) hx hb dX3_look_50 (by decide) ?_
        refine lv_iadd hx hb dX3_look_51 ?_
        refine va_put (D := D) (ci := 3) (v := .int (mfm + 1)) (ty := .int) (C := RX3) (T := TX3) (N := 18) hx hb hts hinX3 tyX3 tyX3_ok nmX3 hown hK hP hD hS 0 rfl rfl 16 (by decide) (hts (.fieldLink RX3 128 "SlabHeapModel" "foundMany" "I") (by decide +kernel)) (fun _ h9 => h9) rfl (by decide +kernel) rfl rfl (Nat.le_of_ble_eq_true rfl) dX3_look_52 (fun H locs hP hD hS => ?_)
        have hP : va_P D vwCl (xM g k mw mk (upd ml x2_2.toNatClampNeg (vp_nar .boolean 1)) mq mwt mn mt mcl mcr mth mkind_6 msort_7 mfirst_8 mblk_9 mfree_10 (upd mfnd mfm.toNatClampNeg x2_2) (mfm + 1) msn) H := hP
        have hD : va_D A (xM g k mw mk (upd ml x2_2.toNatClampNeg (vp_nar .boolean 1)) mq mwt mn mt mcl mcr mth mkind_6 msort_7 mfirst_8 mblk_9 mfree_10 (upd mfnd mfm.toNatClampNeg x2_2) (mfm + 1) msn) := hD
        exact hret _ _ (mw, (upd ml x2_2.toNatClampNeg (vp_nar .boolean 1)), mq, mwt, mn, mcl, mkind_6, msort_7, mfirst_8, mblk_9, mfree_10, (upd mfnd mfm.toNatClampNeg x2_2), (mfm + 1)) _ _ hP hD hS dX3_look_55 hw
    · have hw := hw.2 c_5
      exact hret _ _ (mw, ml, mq, mwt, mn, mcl, mkind, msort, mfirst, mblk, mfree, mfnd, mfm) _ _ hP hD hS dX3_look_19 hw
-- X3_crash
abbrev rmX3_crash : Room := { frames := 4, cells := 0, slots := 0, locals := 95 }
set_option maxHeartbeats 4000000 in
set_option maxRecDepth 100000 in
theorem c_X3_crash (l : Launch) (D : va_G) (g : Nat → Nat) (k : xC) (mw : Nat → Int32) (mk : Nat → Int32) (ml : Nat → Int32) (mq : Nat → Int32) (mwt : Nat → Int32) (mn : Int32) (mt : Int32) (mcl : Int32) (mcr : Int32) (mth : Int32) (mkind : Nat → Int32) (msort : Nat → Int32) (mfirst : Nat → Int32) (mblk : Nat → Int32) (mfree : Nat → Int32) (mfnd : Nat → Int32) (mfm : Int32) (msn : Nat → Int32) (x1 : Int32) (post : Int32 → (Nat → Int32) → (Nat → Int32) → (Nat → Int32) → (Nat → Int32) → (Nat → Int32) → Int32 → Int32 → Int32 → Int32 → (Nat → Int32) → (Nat → Int32) → (Nat → Int32) → (Nat → Int32) → (Nat → Int32) → (Nat → Int32) → Int32 → Prop) (hw : wX3_crash post mw mk ml mq mwt mn mcl mcr mth mkind msort mfirst mblk mfree mfnd mfm x1) : CMi l yX3_crash wsX3_crash rmX3_crash D k [.ref (g 0), .int x1] (fun v : (Nat → Int32) × (Nat → Int32) × (Nat → Int32) × (Nat → Int32) × (Nat → Int32) × Int32 × Int32 × Int32 × Int32 × (Nat → Int32) × (Nat → Int32) × (Nat → Int32) × (Nat → Int32) × (Nat → Int32) × (Nat → Int32) × Int32 => (xM g k (v.1) (v.2.1) (v.2.2.1) (v.2.2.2.1) (v.2.2.2.2.1) (v.2.2.2.2.2.1) mt (v.2.2.2.2.2.2.1) (v.2.2.2.2.2.2.2.1) (v.2.2.2.2.2.2.2.2.1) (v.2.2.2.2.2.2.2.2.2.1) (v.2.2.2.2.2.2.2.2.2.2.1) (v.2.2.2.2.2.2.2.2.2.2.2.1) (v.2.2.2.2.2.2.2.2.2.2.2.2.1) (v.2.2.2.2.2.2.2.2.2.2.2.2.2.1) (v.2.2.2.2.2.2.2.2.2.2.2.2.2.2.1) (v.2.2.2.2.2.2.2.2.2.2.2.2.2.2.2) msn)) (mw, mk, ml, mq, mwt, mn, mcl, mcr, mth, mkind, msort, mfirst, mblk, mfree, mfnd, mfm) (fun r v => post r (v.1) (v.2.1) (v.2.2.1) (v.2.2.2.1) (v.2.2.2.2.1) (v.2.2.2.2.2.1) (v.2.2.2.2.2.2.1) (v.2.2.2.2.2.2.2.1) (v.2.2.2.2.2.2.2.2.1) (v.2.2.2.2.2.2.2.2.2.1) (v.2.2.2.2.2.2.2.2.2.2.1) (v.2.2.2.2.2.2.2.2.2.2.2.1) (v.2.2.2.2.2.2.2.2.2.2.2.2.1) (v.2.2.2.2.2.2.2.2.2.2.2.2.2.1) (v.2.2.2.2.2.2.2.2.2.2.2.2.2.2.1) (v.2.2.2.2.2.2.2.2.2.2.2.2.2.2.2)) := by
  refine met_mi (cc := cX3_crash) (nL := 4) (by decide) rfl (Nat.le_of_ble_eq_true rfl) ?_
  intro p e s m args below meth c Q A ls hC hP hD hA hK hZ hS hl hret
  obtain ⟨hx, hb, hml, hown, hts⟩ := id hC
  have hC : CallFix p m c cX3_crash 4 s args wsX3_crash RX3 := hC
  have hown : s.vm.findClass RX3 = some m.cls := hown
  have hl : lv_has ls 4 [(0, .ref (g 0)), (1, .int x1)] := hl
  have hP : va_P D vwCl (xM g k mw mk ml mq mwt mn mt mcl mcr mth mkind msort mfirst mblk mfree mfnd mfm msn) s.heap := hP
  have hD : va_D A (xM g k mw mk ml mq mwt mn mt mcl mcr mth mkind msort mfirst mblk mfree mfnd mfm msn) := hD
  have hinX3 : ∀ w ∈ wsX30, w ∈ wsX3_crash := fun _ h => List.mem_cons_of_mem _ (List.mem_append_right _ h)
  have B132 : ∀ (J122 : Int32 → (Nat → Int32) → (Nat → Int32) → (Nat → Int32) → (Nat → Int32) → (Nat → Int32) → Int32 → Int32 → Int32 → Int32 → (Nat → Int32) → (Nat → Int32) → (Nat → Int32) → (Nat → Int32) → (Nat → Int32) → (Nat → Int32) → Int32 → Prop) (hJ122 : ∀ (x2 : Int32), ∀ (mw : Nat → Int32), ∀ (mk : Nat → Int32), ∀ (ml : Nat → Int32), ∀ (mq : Nat → Int32), ∀ (mwt : Nat → Int32), ∀ (mn : Int32), ∀ (mcl : Int32), ∀ (mcr : Int32), ∀ (mth : Int32), ∀ (mkind : Nat → Int32), ∀ (msort : Nat → Int32), ∀ (mfirst : Nat → Int32), ∀ (mblk : Nat → Int32), ∀ (mfree : Nat → Int32), ∀ (mfnd : Nat → Int32), ∀ (mfm : Int32), ∀ (H : Heap) (locs : List Loc), va_P D vwCl (xM g k mw mk ml mq mwt mn mt mcl mcr mth mkind msort mfirst mblk mfree mfnd mfm msn) H → va_D A (xM g k mw mk ml mq mwt mn mt mcl mcr mth mkind msort mfirst mblk mfree mfnd mfm msn) → va_S A s.heap H locs → ∀ (ls : Array Slot), lv_has ls 4 [(0, .ref (g 0)), (2, .int x2)] → J122 x2 mw mk ml mq mwt mn mcl mcr mth mkind msort mfirst mblk mfree mfnd mfm → W p l e rmX3_crash s m args below meth c H locs 0 0 Q (F0 m 122 ls [])) (fu : Nat), ∀ (x2 : Int32), ∀ (x3 : Int32), ∀ (mw : Nat → Int32), ∀ (mk : Nat → Int32), ∀ (ml : Nat → Int32), ∀ (mq : Nat → Int32), ∀ (mwt : Nat → Int32), ∀ (mn : Int32), ∀ (mcl : Int32), ∀ (mcr : Int32), ∀ (mth : Int32), ∀ (mkind : Nat → Int32), ∀ (msort : Nat → Int32), ∀ (mfirst : Nat → Int32), ∀ (mblk : Nat → Int32), ∀ (mfree : Nat → Int32), ∀ (mfnd : Nat → Int32), ∀ (mfm : Int32), ∀ (H : Heap) (locs : List Loc), va_P D vwCl (xM g k mw mk ml mq mwt mn mt mcl mcr mth mkind msort mfirst mblk mfree mfnd mfm msn) H → va_D A (xM g k mw mk ml mq mwt mn mt mcl mcr mth mkind msort mfirst mblk mfree mfnd mfm msn) → va_S A s.heap H locs → ∀ (ls : Array Slot), lv_has ls 4 [(0, .ref (g 0)), (2, .int x2), (3, .int x3)] → wX3_crash_132 post J122 fu x2 x3 mw mk ml mq mwt mn mcl mcr mth mkind msort mfirst mblk mfree mfnd mfm → W p l e rmX3_crash s m args below meth c H locs 0 0 Q (F0 m 132 ls []) := by
    intro J122 hJ122 fu
    induction fu with
    | zero =>
      intro x2 x3 mw mk ml mq mwt mn mcl mcr mth mkind msort mfirst mblk mfree mfnd mfm H locs hP hD hS ls hl hw
      exact absurd hw (by unfold wX3_crash_132; exact fun q => q)
    | succ n ih =>
      intro x2 x3 mw mk ml mq mwt mn mcl mcr mth mkind msort mfirst mblk mfree mfnd mfm H locs hP hD hS ls hl hw
      unfold wX3_crash_132 at hw
      refine lv_iload_n hx hb dX3_crash_132 rfl (lv_at hl 2 rfl) ?_
      refine lv_aload_n hx hb dX3_crash_133 rfl (lv_at hl 0 rfl) ?_
      refine lv_aload_n hx hb dX3_crash_134 rfl (lv_at hl 0 rfl) ?_
      refine va_get (D := D) (ci := 3) (v := .ref (g 11)) (C := RX3) (T := TX3) (N := 18) hx hb hts hinX3 hown hK hP 0 rfl rfl 15 (by decide) (hts (.fieldLink RX3 41 "SlabHeapModel" "found" "[I") (by decide +kernel)) (fun _ h9 => h9) rfl dX3_crash_135 ?_
      refine lv_iload_n hx hb dX3_crash_138 rfl (lv_at hl 1 rfl) ?_
      obtain ⟨h_7, hw⟩ := hw
      refine va_iald hx hb hK hP 11 0 rfl rfl h_7 dX3_crash_139 ?_
      refine pcall (va_runV (As := [.int (mfnd x2.toNatClampNeg)]) (rest := [.int x3]) hC (c_X3_refsAt l D g k mw mk ml mq mwt mn mt mcl mcr mth mkind msort mfirst mblk mfree mfnd mfm msn (mfnd x2.toNatClampNeg) _ hw H) (cwV 1 hts gX3_crash_X3_refsAt rfl rfl rfl (by decide +kernel) ⟨Nat.le_of_ble_eq_true rfl, Nat.le_of_ble_eq_true rfl⟩) (preV_p (va_recv hK hP (ci := 3) (q0 := 0) rfl rfl) hP hK hZ hS) rfl rfl hl.1 rfl (lv_room (Nat.le_of_ble_eq_true rfl)) dX3_crash_140 ⟨Nat.le_of_ble_eq_true rfl, Nat.le_of_ble_eq_true rfl⟩) (fun r_8 hw => ?_)
      refine lv_icmp_ge (tgt := 166) hx hb dX3_crash_143 (by decide) (fun c_9 => ?_) (fun c_9 => ?_)
      · have hw := hw.1 c_9
        obtain ⟨x2_10, ex2_10⟩ : ∃ y : Int32, y = x2 + 1 := ⟨_, rfl⟩
        have hw := hw x2_10 ex2_10
        refine lv_iinc (v := x2_10) (lv' := [(2, .int x2_10), (0, .ref (g 0)), (3, .int x3)]) hx hb dX3_crash_166 hl (k := 1) rfl (by rw [ex2_10]; rfl) (by decide) rfl (fun ls hl => ?_)
        refine lv_goto (tgt := 122) hx hb dX3_crash_169 (by decide) ?_
        exact hJ122 x2_10 mw mk ml mq mwt mn mcl mcr mth mkind msort mfirst mblk mfree mfnd mfm H locs hP hD hS ls (lv_sub hl [1, 0] rfl) hw
      · have hw := hw.2 c_9
        refine lv_aload_n hx hb dX3_crash_146 rfl (lv_at hl 0 rfl) ?_
        refine lv_aload_n hx hb dX3_crash_147 rfl (lv_at hl 0 rfl) ?_
        refine va_get (D := D) (ci := 3) (v := .ref (g 11)) (C := RX3) (T := TX3) (N := 18) hx hb hts hinX3 hown hK hP 0 rfl rfl 15 (by decide) (hts (.fieldLink RX3 41 "SlabHeapModel" "found" "[I") (by decide +kernel)) (fun _ h9 => h9) rfl dX3_crash_148 ?_
        refine lv_iload_n hx hb dX3_crash_151 rfl (lv_at hl 1 rfl) ?_
        obtain ⟨h_11, hw⟩ := hw
        refine va_iald hx hb hK hP 11 0 rfl rfl h_11 dX3_crash_152 ?_
        refine lv_iconst (v := 1) hx hb dX3_crash_153 (by decide) ?_
        refine lv_iadd hx hb dX3_crash_154 ?_
        refine lv_iload_n hx hb dX3_crash_155 rfl (lv_at hl 2 rfl) ?_
        refine lv_iadd hx hb dX3_crash_156 ?_
        refine vcall (wr := []) (va_runV (As := [.int (((mfnd x2.toNatClampNeg) + 1) + x3)]) (rest := []) hC (c_X3_look l D g k mw mk ml mq mwt mn mt mcl mcr mth mkind msort mfirst mblk mfree mfnd mfm msn (((mfnd x2.toNatClampNeg) + 1) + x3) _ hw H.size) (cwV 1 hts gX3_crash_X3_look rfl rfl rfl (by decide +kernel) ⟨Nat.le_of_ble_eq_true rfl, Nat.le_of_ble_eq_true rfl⟩) (preV_m (va_recv hK hP (ci := 3) (q0 := 0) rfl rfl) hP hD hA hK hZ hS [0, 1, 2, 3, 4, 5, 6, 7, 8, 9, 10, 11, 12] rfl rfl (by decide)) rfl rfl hl.1 rfl (lv_room (Nat.le_of_ble_eq_true rfl)) dX3_crash_157 ⟨Nat.le_of_ble_eq_true rfl, Nat.le_of_ble_eq_true rfl⟩) hP hD hA hS [0, 1, 2, 3, 4, 5, 6, 7, 8, 9, 10, 11, 12] [] rfl rfl (by decide) (by decide) (fun u' H locs hw hP hD hS => ?_)
        obtain ⟨mw_12, ml_13, mq_14, mwt_15, mn_16, mcl_17, mkind_18, msort_19, mfirst_20, mblk_21, mfree_22, mfnd_23, mfm_24⟩ := u'
        try dsimp only at hw
        have hP : va_P D vwCl (xM g k mw_12 mk ml_13 mq_14 mwt_15 mn_16 mt mcl_17 mcr mth mkind_18 msort_19 mfirst_20 mblk_21 mfree_22 mfnd_23 mfm_24 msn) H := hP
        have hD : va_D A (xM g k mw_12 mk ml_13 mq_14 mwt_15 mn_16 mt mcl_17 mcr mth mkind_18 msort_19 mfirst_20 mblk_21 mfree_22 mfnd_23 mfm_24 msn) := hD
        obtain ⟨x3_25, ex3_25⟩ : ∃ y : Int32, y = x3 + 1 := ⟨_, rfl⟩
        have hw := hw x3_25 ex3_25
        refine lv_iinc (v := x3_25) (lv' := [(3, .int x3_25), (0, .ref (g 0)), (2, .int x2)]) hx hb dX3_crash_160 hl (k := 2) rfl (by rw [ex3_25]; rfl) (by decide) rfl (fun ls hl => ?_)
        refine lv_goto (tgt := 132) hx hb dX3_crash_163 (by decide) ?_
        exact ih x2 x3_25 mw_12 mk ml_13 mq_14 mwt_15 mn_16 mcl_17 mcr mth mkind_18 msort_19 mfirst_20 mblk_21 mfree_22 mfnd_23 mfm_24 H locs hP hD hS ls (lv_sub hl [1, 2, 0] rfl) hw
  have B122 : ∀ (fu : Nat), ∀ (x2 : Int32), ∀ (mw : Nat → Int32), ∀ (mk : Nat → Int32), ∀ (ml : Nat → Int32), ∀ (mq : Nat → Int32), ∀ (mwt : Nat → Int32), ∀ (mn : Int32), ∀ (mcl : Int32), ∀ (mcr : Int32), ∀ (mth : Int32), ∀ (mkind : Nat → Int32), ∀ (msort : Nat → Int32), ∀ (mfirst : Nat → Int32), ∀ (mblk : Nat → Int32), ∀ (mfree : Nat → Int32), ∀ (mfnd : Nat → Int32), ∀ (mfm : Int32), ∀ (H : Heap) (locs : List Loc), va_P D vwCl (xM g k mw mk ml mq mwt mn mt mcl mcr mth mkind msort mfirst mblk mfree mfnd mfm msn) H → va_D A (xM g k mw mk ml mq mwt mn mt mcl mcr mth mkind msort mfirst mblk mfree mfnd mfm msn) → va_S A s.heap H locs → ∀ (ls : Array Slot), lv_has ls 4 [(0, .ref (g 0)), (2, .int x2)] → wX3_crash_122 post fu x2 mw mk ml mq mwt mn mcl mcr mth mkind msort mfirst mblk mfree mfnd mfm → W p l e rmX3_crash s m args below meth c H locs 0 0 Q (F0 m 122 ls []) := by
    intro  fu
    induction fu with
    | zero =>
      intro x2 mw mk ml mq mwt mn mcl mcr mth mkind msort mfirst mblk mfree mfnd mfm H locs hP hD hS ls hl hw
      exact absurd hw (by unfold wX3_crash_122; exact fun q => q)
    | succ n ih =>
      intro x2 mw mk ml mq mwt mn mcl mcr mth mkind msort mfirst mblk mfree mfnd mfm H locs hP hD hS ls hl hw
      unfold wX3_crash_122 at hw
      refine lv_iload_n hx hb dX3_crash_122 rfl (lv_at hl 1 rfl) ?_
      refine lv_aload_n hx hb dX3_crash_123 rfl (lv_at hl 0 rfl) ?_
      refine va_get (D := D) (ci := 3) (v := .int mfm) (C := RX3) (T := TX3) (N := 18) hx hb hts hinX3 hown hK hP 0 rfl rfl 16 (by decide) (hts (.fieldLink RX3 128 "SlabHeapModel" "foundMany" "I") (by decide +kernel)) (fun _ h9 => h9) rfl dX3_crash_124 ?_
      refine lv_icmp_ge (tgt := 172) hx hb dX3_crash_127 (by decide) (fun c_6 => ?_) (fun c_6 => ?_)
      · have hw := hw.1 c_6
        refine lv_aload_n hx hb dX3_crash_172 rfl (lv_at hl 0 rfl) ?_
        refine va_get (D := D) (ci := 3) (v := .int mfm) (C := RX3) (T := TX3) (N := 18) hx hb hts hinX3 hown hK hP 0 rfl rfl 16 (by decide) (hts (.fieldLink RX3 128 "SlabHeapModel" "foundMany" "I") (by decide +kernel)) (fun _ h9 => h9) rfl dX3_crash_173 ?_
        exact hret _ _ _ (mw, mk, ml, mq, mwt, mn, mcl, mcr, mth, mkind, msort, mfirst, mblk, mfree, mfnd, mfm) _ _ hP hD hS dX3_crash_176 hw
      · have hw := hw.2 c_6
        refine lv_iconst (v := 0) hx hb dX3_crash_130 (by decide) ?_
        refine lv_istore_n (lv' := [(3, .int 0), (0, .ref (g 0)), (2, .int x2)]) hx hb dX3_crash_131 rfl hl (by decide) rfl (fun ls hl => ?_)
        obtain ⟨fu_26, hw⟩ := hw
        exact B132 (wX3_crash_122 post n) ih fu_26 x2 0 mw mk ml mq mwt mn mcl mcr mth mkind msort mfirst mblk mfree mfnd mfm H locs hP hD hS ls (lv_sub hl [1, 2, 0] rfl) hw
  have B103 : ∀ (fu : Nat), ∀ (x2 : Int32), ∀ (mw : Nat → Int32), ∀ (mk : Nat → Int32), ∀ (ml : Nat → Int32), ∀ (mq : Nat → Int32), ∀ (mwt : Nat → Int32), ∀ (mn : Int32), ∀ (mcl : Int32), ∀ (mcr : Int32), ∀ (mth : Int32), ∀ (mkind : Nat → Int32), ∀ (msort : Nat → Int32), ∀ (mfirst : Nat → Int32), ∀ (mblk : Nat → Int32), ∀ (mfree : Nat → Int32), ∀ (mfnd : Nat → Int32), ∀ (mfm : Int32), ∀ (H : Heap) (locs : List Loc), va_P D vwCl (xM g k mw mk ml mq mwt mn mt mcl mcr mth mkind msort mfirst mblk mfree mfnd mfm msn) H → va_D A (xM g k mw mk ml mq mwt mn mt mcl mcr mth mkind msort mfirst mblk mfree mfnd mfm msn) → va_S A s.heap H locs → ∀ (ls : Array Slot), lv_has ls 4 [(0, .ref (g 0)), (2, .int x2)] → wX3_crash_103 post fu x2 mw mk ml mq mwt mn mcl mcr mth mkind msort mfirst mblk mfree mfnd mfm → W p l e rmX3_crash s m args below meth c H locs 0 0 Q (F0 m 103 ls []) := by
    intro  fu
    induction fu with
    | zero =>
      intro x2 mw mk ml mq mwt mn mcl mcr mth mkind msort mfirst mblk mfree mfnd mfm H locs hP hD hS ls hl hw
      exact absurd hw (by unfold wX3_crash_103; exact fun q => q)
    | succ n ih =>
      intro x2 mw mk ml mq mwt mn mcl mcr mth mkind msort mfirst mblk mfree mfnd mfm H locs hP hD hS ls hl hw
      unfold wX3_crash_103 at hw
      refine lv_iload_n hx hb dX3_crash_103 rfl (lv_at hl 1 rfl) ?_
      refine lv_bipush (v := 8) hx hb dX3_crash_104 (by decide) ?_
      refine lv_icmp_gt (tgt := 120) hx hb dX3_crash_106 (by decide) (fun c_5 => ?_) (fun c_5 => ?_)
      · have hw := hw.1 c_5
        refine lv_iconst (v := 0) hx hb dX3_crash_120 (by decide) ?_
        refine lv_istore_n (lv' := [(2, .int 0), (0, .ref (g 0))]) hx hb dX3_crash_121 rfl hl (by decide) rfl (fun ls hl => ?_)
        obtain ⟨fu_27, hw⟩ := hw
        exact B122  fu_27 0 mw mk ml mq mwt mn mcl mcr mth mkind msort mfirst mblk mfree mfnd mfm H locs hP hD hS ls (lv_sub hl [1, 0] rfl) hw
      · have hw := hw.2 c_5
        refine lv_aload_n hx hb dX3_crash_109 rfl (lv_at hl 0 rfl) ?_
        refine lv_iload_n hx hb dX3_crash_110 rfl (lv_at hl 1 rfl) ?_
        refine vcall (wr := []) (va_runV (As := [.int x2]) (rest := []) hC (c_X3_look l D g k mw mk ml mq mwt mn mt mcl mcr mth mkind msort mfirst mblk mfree mfnd mfm msn x2 _ hw H.size) (cwV 1 hts gX3_crash_X3_look rfl rfl rfl (by decide +kernel) ⟨Nat.le_of_ble_eq_true rfl, Nat.le_of_ble_eq_true rfl⟩) (preV_m (va_recv hK hP (ci := 3) (q0 := 0) rfl rfl) hP hD hA hK hZ hS [0, 1, 2, 3, 4, 5, 6, 7, 8, 9, 10, 11, 12] rfl rfl (by decide)) rfl rfl hl.1 rfl (lv_room (Nat.le_of_ble_eq_true rfl)) dX3_crash_111 ⟨Nat.le_of_ble_eq_true rfl, Nat.le_of_ble_eq_true rfl⟩) hP hD hA hS [0, 1, 2, 3, 4, 5, 6, 7, 8, 9, 10, 11, 12] [] rfl rfl (by decide) (by decide) (fun u' H locs hw hP hD hS => ?_)
        obtain ⟨mw_28, ml_29, mq_30, mwt_31, mn_32, mcl_33, mkind_34, msort_35, mfirst_36, mblk_37, mfree_38, mfnd_39, mfm_40⟩ := u'
        try dsimp only at hw
        have hP : va_P D vwCl (xM g k mw_28 mk ml_29 mq_30 mwt_31 mn_32 mt mcl_33 mcr mth mkind_34 msort_35 mfirst_36 mblk_37 mfree_38 mfnd_39 mfm_40 msn) H := hP
        have hD : va_D A (xM g k mw_28 mk ml_29 mq_30 mwt_31 mn_32 mt mcl_33 mcr mth mkind_34 msort_35 mfirst_36 mblk_37 mfree_38 mfnd_39 mfm_40 msn) := hD
        obtain ⟨x2_41, ex2_41⟩ : ∃ y : Int32, y = x2 + 1 := ⟨_, rfl⟩
        have hw := hw x2_41 ex2_41
        refine lv_iinc (v := x2_41) (lv' := [(2, .int x2_41), (0, .ref (g 0))]) hx hb dX3_crash_114 hl (k := 1) rfl (by rw [ex2_41]; rfl) (by decide) rfl (fun ls hl => ?_)
        refine lv_goto (tgt := 103) hx hb dX3_crash_117 (by decide) ?_
        exact ih x2_41 mw_28 mk ml_29 mq_30 mwt_31 mn_32 mcl_33 mcr mth mkind_34 msort_35 mfirst_36 mblk_37 mfree_38 mfnd_39 mfm_40 H locs hP hD hS ls (lv_sub hl [1, 0] rfl) hw
  have B45 : ∀ (fu : Nat), ∀ (x2 : Int32), ∀ (mw : Nat → Int32), ∀ (mk : Nat → Int32), ∀ (ml : Nat → Int32), ∀ (mq : Nat → Int32), ∀ (mwt : Nat → Int32), ∀ (mn : Int32), ∀ (mcl : Int32), ∀ (mcr : Int32), ∀ (mth : Int32), ∀ (mkind : Nat → Int32), ∀ (msort : Nat → Int32), ∀ (mfirst : Nat → Int32), ∀ (mblk : Nat → Int32), ∀ (mfree : Nat → Int32), ∀ (mfnd : Nat → Int32), ∀ (mfm : Int32), ∀ (H : Heap) (locs : List Loc), va_P D vwCl (xM g k mw mk ml mq mwt mn mt mcl mcr mth mkind msort mfirst mblk mfree mfnd mfm msn) H → va_D A (xM g k mw mk ml mq mwt mn mt mcl mcr mth mkind msort mfirst mblk mfree mfnd mfm msn) → va_S A s.heap H locs → ∀ (ls : Array Slot), lv_has ls 4 [(0, .ref (g 0)), (2, .int x2)] → wX3_crash_45 post fu x2 mw mk ml mq mwt mn mcl mcr mth mkind msort mfirst mblk mfree mfnd mfm → W p l e rmX3_crash s m args below meth c H locs 0 0 Q (F0 m 45 ls []) := by
    intro  fu
    induction fu with
    | zero =>
      intro x2 mw mk ml mq mwt mn mcl mcr mth mkind msort mfirst mblk mfree mfnd mfm H locs hP hD hS ls hl hw
      exact absurd hw (by unfold wX3_crash_45; exact fun q => q)
    | succ n ih =>
      intro x2 mw mk ml mq mwt mn mcl mcr mth mkind msort mfirst mblk mfree mfnd mfm H locs hP hD hS ls hl hw
      unfold wX3_crash_45 at hw
      refine lv_iload_n hx hb dX3_crash_45 rfl (lv_at hl 1 rfl) ?_
      refine lv_sipush (v := 4096) hx hb dX3_crash_46 (by decide) ?_
      refine lv_icmp_ge (tgt := 77) hx hb dX3_crash_49 (by decide) (fun c_2 => ?_) (fun c_2 => ?_)
      · have hw := hw.1 c_2
        refine lv_aload_n hx hb dX3_crash_77 rfl (lv_at hl 0 rfl) ?_
        refine vcall (wr := []) (va_runV (As := []) (rest := []) hC (c_X3_nothingWaits l D g k mw mk ml mq mwt mn mt mcl mcr mth mkind msort mfirst mblk mfree mfnd mfm msn _ hw H.size) (cwV 0 hts gX3_crash_X3_nothingWaits rfl rfl rfl (by decide +kernel) ⟨Nat.le_of_ble_eq_true rfl, Nat.le_of_ble_eq_true rfl⟩) (preV_m (va_recv hK hP (ci := 3) (q0 := 0) rfl rfl) hP hD hA hK hZ hS [0, 1, 2, 3, 4, 5, 6, 7, 8, 9, 10, 11, 12] rfl rfl (by decide)) rfl rfl hl.1 rfl (lv_room (Nat.le_of_ble_eq_true rfl)) dX3_crash_78 ⟨Nat.le_of_ble_eq_true rfl, Nat.le_of_ble_eq_true rfl⟩) hP hD hA hS [0, 1, 2, 3, 4, 5, 6, 7, 8, 9, 10, 11, 12] [] rfl rfl (by decide) (by decide) (fun u' H locs hw hP hD hS => ?_)
        obtain ⟨mq_3, mn_4⟩ := u'
        try dsimp only at hw
        have hP : va_P D vwCl (xM g k mw mk ml mq_3 mwt mn_4 mt mcl mcr mth mkind msort mfirst mblk mfree mfnd mfm msn) H := hP
        have hD : va_D A (xM g k mw mk ml mq_3 mwt mn_4 mt mcl mcr mth mkind msort mfirst mblk mfree mfnd mfm msn) := hD
        refine lv_aload_n hx hb dX3_crash_81 rfl (lv_at hl 0 rfl) ?_
        refine lv_dup hx hb dX3_crash_82 rfl ?_
        refine va_get (D := D) (ci := 3) (v := .int mcr) (C := RX3) (T := TX3) (N := 18) hx hb hts hinX3 hown hK hP 0 rfl rfl 8 (by decide) (hts (.fieldLink RX3 122 "SlabHeapModel" "crashes" "I") (by decide +kernel)) (fun _ h9 => h9) rfl dX3_crash_83 ?_
        refine lv_iconst (v := 1) hx hb dX3_crash_86 (by decide) ?_
        refine lv_iadd hx hb dX3_crash_87 ?_
        refine va_put (D := D) (ci := 3) (v := .int (mcr + 1)) (ty := .int) (C := RX3) (T := TX3) (N := 18) hx hb hts hinX3 tyX3 tyX3_ok nmX3 hown hK hP hD hS 0 rfl rfl 8 (by decide) (hts (.fieldLink RX3 122 "SlabHeapModel" "crashes" "I") (by decide +kernel)) (fun _ h9 => h9) rfl (by decide +kernel) rfl rfl (Nat.le_of_ble_eq_true rfl) dX3_crash_88 (fun H locs hP hD hS => ?_)
        have hP : va_P D vwCl (xM g k mw mk ml mq_3 mwt mn_4 mt mcl (mcr + 1) mth mkind msort mfirst mblk mfree mfnd mfm msn) H := hP
        have hD : va_D A (xM g k mw mk ml mq_3 mwt mn_4 mt mcl (mcr + 1) mth mkind msort mfirst mblk mfree mfnd mfm msn) := hD
        refine lv_aload_n hx hb dX3_crash_91 rfl (lv_at hl 0 rfl) ?_
        refine lv_iconst (v := 0) hx hb dX3_crash_92 (by decide) ?_
        refine va_put (D := D) (ci := 3) (v := .int 0) (ty := .int) (C := RX3) (T := TX3) (N := 18) hx hb hts hinX3 tyX3 tyX3_ok nmX3 hown hK hP hD hS 0 rfl rfl 7 (by decide) (hts (.fieldLink RX3 125 "SlabHeapModel" "cleared" "I") (by decide +kernel)) (fun _ h9 => h9) rfl (by decide +kernel) rfl rfl (Nat.le_of_ble_eq_true rfl) dX3_crash_93 (fun H locs hP hD hS => ?_)
        have hP : va_P D vwCl (xM g k mw mk ml mq_3 mwt mn_4 mt 0 (mcr + 1) mth mkind msort mfirst mblk mfree mfnd mfm msn) H := hP
        have hD : va_D A (xM g k mw mk ml mq_3 mwt mn_4 mt 0 (mcr + 1) mth mkind msort mfirst mblk mfree mfnd mfm msn) := hD
        refine lv_aload_n hx hb dX3_crash_96 rfl (lv_at hl 0 rfl) ?_
        refine lv_iconst (v := 0) hx hb dX3_crash_97 (by decide) ?_
        refine va_put (D := D) (ci := 3) (v := .int 0) (ty := .int) (C := RX3) (T := TX3) (N := 18) hx hb hts hinX3 tyX3 tyX3_ok nmX3 hown hK hP hD hS 0 rfl rfl 16 (by decide) (hts (.fieldLink RX3 128 "SlabHeapModel" "foundMany" "I") (by decide +kernel)) (fun _ h9 => h9) rfl (by decide +kernel) rfl rfl (Nat.le_of_ble_eq_true rfl) dX3_crash_98 (fun H locs hP hD hS => ?_)
        have hP : va_P D vwCl (xM g k mw mk ml mq_3 mwt mn_4 mt 0 (mcr + 1) mth mkind msort mfirst mblk mfree mfnd 0 msn) H := hP
        have hD : va_D A (xM g k mw mk ml mq_3 mwt mn_4 mt 0 (mcr + 1) mth mkind msort mfirst mblk mfree mfnd 0 msn) := hD
        refine lv_iconst (v := 1) hx hb dX3_crash_101 (by decide) ?_
        refine lv_istore_n (lv' := [(2, .int 1), (0, .ref (g 0))]) hx hb dX3_crash_102 rfl hl (by decide) rfl (fun ls hl => ?_)
        obtain ⟨fu_42, hw⟩ := hw
        exact B103  fu_42 1 mw mk ml mq_3 mwt mn_4 0 (mcr + 1) mth mkind msort mfirst mblk mfree mfnd 0 H locs hP hD hS ls (lv_sub hl [1, 0] rfl) hw
      · have hw := hw.2 c_2
        refine lv_aload_n hx hb dX3_crash_52 rfl (lv_at hl 0 rfl) ?_
        refine va_get (D := D) (ci := 3) (v := .ref (g 1)) (C := RX3) (T := TX3) (N := 18) hx hb hts hinX3 hown hK hP 0 rfl rfl 0 (by decide) (hts (.fieldLink RX3 7 "SlabHeapModel" "words" "[I") (by decide +kernel)) (fun _ h9 => h9) rfl dX3_crash_53 ?_
        refine lv_iload_n hx hb dX3_crash_56 rfl (lv_at hl 1 rfl) ?_
        refine lv_aload_n hx hb dX3_crash_57 rfl (lv_at hl 0 rfl) ?_
        refine va_get (D := D) (ci := 3) (v := .ref (g 2)) (C := RX3) (T := TX3) (N := 18) hx hb hts hinX3 hown hK hP 0 rfl rfl 1 (by decide) (hts (.fieldLink RX3 13 "SlabHeapModel" "kept" "[I") (by decide +kernel)) (fun _ h9 => h9) rfl dX3_crash_58 ?_
        refine lv_iload_n hx hb dX3_crash_61 rfl (lv_at hl 1 rfl) ?_
        obtain ⟨h_43, hw⟩ := hw
        refine va_iald hx hb hK hP 2 0 rfl rfl h_43 dX3_crash_62 ?_
        obtain ⟨h_44, hw⟩ := hw
        refine va_iast hx hb hK hP hD hS 1 0 rfl rfl h_44 dX3_crash_63 (fun H locs hP hD hS => ?_)
        have hP : va_P D vwCl (xM g k (upd mw x2.toNatClampNeg (mk x2.toNatClampNeg)) mk ml mq mwt mn mt mcl mcr mth mkind msort mfirst mblk mfree mfnd mfm msn) H := hP
        have hD : va_D A (xM g k (upd mw x2.toNatClampNeg (mk x2.toNatClampNeg)) mk ml mq mwt mn mt mcl mcr mth mkind msort mfirst mblk mfree mfnd mfm msn) := hD
        refine lv_aload_n hx hb dX3_crash_64 rfl (lv_at hl 0 rfl) ?_
        refine va_get (D := D) (ci := 3) (v := .ref (g 3)) (C := RX3) (T := TX3) (N := 18) hx hb hts hinX3 hown hK hP 0 rfl rfl 2 (by decide) (hts (.fieldLink RX3 16 "SlabHeapModel" "isLive" "[Z") (by decide +kernel)) (fun _ h9 => h9) rfl dX3_crash_65 ?_
        refine lv_iload_n hx hb dX3_crash_68 rfl (lv_at hl 1 rfl) ?_
        refine lv_iconst (v := 0) hx hb dX3_crash_69 (by decide) ?_
        obtain ⟨h_45, hw⟩ := hw
        refine va_zast hx hb hK hP hD hS 3 1 rfl rfl h_45 dX3_crash_70 (fun H locs hP hD hS => ?_)
        have hP : va_P D vwCl (xM g k (upd mw x2.toNatClampNeg (mk x2.toNatClampNeg)) mk (upd ml x2.toNatClampNeg (vp_nar .boolean 0)) mq mwt mn mt mcl mcr mth mkind msort mfirst mblk mfree mfnd mfm msn) H := hP
        have hD : va_D A (xM g k (upd mw x2.toNatClampNeg (mk x2.toNatClampNeg)) mk (upd ml x2.toNatClampNeg (vp_nar .boolean 0)) mq mwt mn mt mcl mcr mth mkind msort mfirst mblk mfree mfnd mfm msn) := hD
        obtain ⟨x2_46, ex2_46⟩ : ∃ y : Int32, y = x2 + 1 := ⟨_, rfl⟩
        have hw := hw x2_46 ex2_46
        refine lv_iinc (v := x2_46) (lv' := [(2, .int x2_46), (0, .ref (g 0))]) hx hb dX3_crash_71 hl (k := 1) rfl (by rw [ex2_46]; rfl) (by decide) rfl (fun ls hl => ?_)
        refine lv_goto (tgt := 45) hx hb dX3_crash_74 (by decide) ?_
        exact ih x2_46 (upd mw x2.toNatClampNeg (mk x2.toNatClampNeg)) mk (upd ml x2.toNatClampNeg (vp_nar .boolean 0)) mq mwt mn mcl mcr mth mkind msort mfirst mblk mfree mfnd mfm H locs hP hD hS ls (lv_sub hl [1, 0] rfl) hw
  have B7 : ∀ (fu : Nat), ∀ (x1 : Int32), ∀ (x2 : Int32), ∀ (mw : Nat → Int32), ∀ (mk : Nat → Int32), ∀ (ml : Nat → Int32), ∀ (mq : Nat → Int32), ∀ (mwt : Nat → Int32), ∀ (mn : Int32), ∀ (mcl : Int32), ∀ (mcr : Int32), ∀ (mth : Int32), ∀ (mkind : Nat → Int32), ∀ (msort : Nat → Int32), ∀ (mfirst : Nat → Int32), ∀ (mblk : Nat → Int32), ∀ (mfree : Nat → Int32), ∀ (mfnd : Nat → Int32), ∀ (mfm : Int32), ∀ (H : Heap) (locs : List Loc), va_P D vwCl (xM g k mw mk ml mq mwt mn mt mcl mcr mth mkind msort mfirst mblk mfree mfnd mfm msn) H → va_D A (xM g k mw mk ml mq mwt mn mt mcl mcr mth mkind msort mfirst mblk mfree mfnd mfm msn) → va_S A s.heap H locs → ∀ (ls : Array Slot), lv_has ls 4 [(0, .ref (g 0)), (1, .int x1), (2, .int x2)] → wX3_crash_7 post fu x1 x2 mw mk ml mq mwt mn mcl mcr mth mkind msort mfirst mblk mfree mfnd mfm → W p l e rmX3_crash s m args below meth c H locs 0 0 Q (F0 m 7 ls []) := by
    intro  fu
    induction fu with
    | zero =>
      intro x1 x2 mw mk ml mq mwt mn mcl mcr mth mkind msort mfirst mblk mfree mfnd mfm H locs hP hD hS ls hl hw
      exact absurd hw (by unfold wX3_crash_7; exact fun q => q)
    | succ n ih =>
      intro x1 x2 mw mk ml mq mwt mn mcl mcr mth mkind msort mfirst mblk mfree mfnd mfm H locs hP hD hS ls hl hw
      unfold wX3_crash_7 at hw
      refine lv_iload_n hx hb dX3_crash_7 rfl (lv_at hl 2 rfl) ?_
      refine lv_aload_n hx hb dX3_crash_8 rfl (lv_at hl 0 rfl) ?_
      refine va_get (D := D) (ci := 3) (v := .int mn) (C := RX3) (T := TX3) (N := 18) hx hb hts hinX3 hown hK hP 0 rfl rfl 5 (by decide) (hts (.fieldLink RX3 54 "SlabHeapModel" "waits" "I") (by decide +kernel)) (fun _ h9 => h9) rfl dX3_crash_9 ?_
      refine lv_icmp_ge (tgt := 43) hx hb dX3_crash_12 (by decide) (fun c_1 => ?_) (fun c_1 => ?_)
      · have hw := hw.1 c_1
        refine lv_iconst (v := 0) hx hb dX3_crash_43 (by decide) ?_
        refine lv_istore_n (lv' := [(2, .int 0), (0, .ref (g 0)), (1, .int x1)]) hx hb dX3_crash_44 rfl hl (by decide) rfl (fun ls hl => ?_)
        obtain ⟨fu_47, hw⟩ := hw
        exact B45  fu_47 0 mw mk ml mq mwt mn mcl mcr mth mkind msort mfirst mblk mfree mfnd mfm H locs hP hD hS ls (lv_sub hl [1, 0] rfl) hw
      · have hw := hw.2 c_1
        refine lv_iload_n hx hb dX3_crash_15 rfl (lv_at hl 1 rfl) ?_
        refine lv_iload_n hx hb dX3_crash_16 rfl (lv_at hl 2 rfl) ?_
        refine lv_bipush (v := 32) hx hb dX3_crash_17 (by decide) ?_
        refine lv_irem hx hb dX3_crash_19 (by decide) ?_
        refine lv_ishr hx hb dX3_crash_20 ?_
        refine lv_iconst (v := 1) hx hb dX3_crash_21 (by decide) ?_
        refine lv_iand hx hb dX3_crash_22 ?_
        refine lv_iconst (v := 1) hx hb dX3_crash_23 (by decide) ?_
        refine lv_icmp_ne (tgt := 37) hx hb dX3_crash_24 (by decide) (fun c_48 => ?_) (fun c_48 => ?_)
        · have hw := hw.1 c_48
          obtain ⟨x2_49, ex2_49⟩ : ∃ y : Int32, y = x2 + 1 := ⟨_, rfl⟩
          have hw := hw x2_49 ex2_49
          refine lv_iinc (v := x2_49) (lv' := [(2, .int x2_49), (0, .ref (g 0)), (1, .int x1)]) hx hb dX3_crash_37 hl (k := 2) rfl (by rw [ex2_49]; rfl) (by decide) rfl (fun ls hl => ?_)
          refine lv_goto (tgt := 7) hx hb dX3_crash_40 (by decide) ?_
          exact ih x1 x2_49 mw mk ml mq mwt mn mcl mcr mth mkind msort mfirst mblk mfree mfnd mfm H locs hP hD hS ls (lv_sub hl [1, 2, 0] rfl) hw
        · have hw := hw.2 c_48
          refine lv_aload_n hx hb dX3_crash_27 rfl (lv_at hl 0 rfl) ?_
          refine lv_aload_n hx hb dX3_crash_28 rfl (lv_at hl 0 rfl) ?_
          refine va_get (D := D) (ci := 3) (v := .ref (g 5)) (C := RX3) (T := TX3) (N := 18) hx hb hts hinX3 hown hK hP 0 rfl rfl 4 (by decide) (hts (.fieldLink RX3 23 "SlabHeapModel" "waiting" "[I") (by decide +kernel)) (fun _ h9 => h9) rfl dX3_crash_29 ?_
          refine lv_iload_n hx hb dX3_crash_32 rfl (lv_at hl 2 rfl) ?_
          obtain ⟨h_50, hw⟩ := hw
          refine va_iald hx hb hK hP 5 0 rfl rfl h_50 dX3_crash_33 ?_
          refine vcall (wr := []) (va_runV (As := [.int (mwt x2.toNatClampNeg)]) (rest := []) hC (c_X3_keepLine l D g k mw mk ml mq mwt mn mt mcl mcr mth mkind msort mfirst mblk mfree mfnd mfm msn (mwt x2.toNatClampNeg) _ hw H.size) (cwV 1 hts gX3_crash_X3_keepLine rfl rfl rfl (by decide +kernel) ⟨Nat.le_of_ble_eq_true rfl, Nat.le_of_ble_eq_true rfl⟩) (preV_m (va_recv hK hP (ci := 3) (q0 := 0) rfl rfl) hP hD hA hK hZ hS [0, 1, 2, 3, 4, 5, 6, 7, 8, 9, 10, 11, 12] rfl rfl (by decide)) rfl rfl hl.1 rfl (lv_room (Nat.le_of_ble_eq_true rfl)) dX3_crash_34 ⟨Nat.le_of_ble_eq_true rfl, Nat.le_of_ble_eq_true rfl⟩) hP hD hA hS [0, 1, 2, 3, 4, 5, 6, 7, 8, 9, 10, 11, 12] [] rfl rfl (by decide) (by decide) (fun u' H locs hw hP hD hS => ?_)
          obtain ⟨mk_51, rfl⟩ : ∃ z, z = u' := ⟨_, rfl⟩
          try dsimp only at hw
          have hP : va_P D vwCl (xM g k mw mk_51 ml mq mwt mn mt mcl mcr mth mkind msort mfirst mblk mfree mfnd mfm msn) H := hP
          have hD : va_D A (xM g k mw mk_51 ml mq mwt mn mt mcl mcr mth mkind msort mfirst mblk mfree mfnd mfm msn) := hD
          obtain ⟨x2_52, ex2_52⟩ : ∃ y : Int32, y = x2 + 1 := ⟨_, rfl⟩
          have hw := hw x2_52 ex2_52
          refine lv_iinc (v := x2_52) (lv' := [(2, .int x2_52), (0, .ref (g 0)), (1, .int x1)]) hx hb dX3_crash_37 hl (k := 2) rfl (by rw [ex2_52]; rfl) (by decide) rfl (fun ls hl => ?_)
          refine lv_goto (tgt := 7) hx hb dX3_crash_40 (by decide) ?_
          exact ih x1 x2_52 mw mk_51 ml mq mwt mn mcl mcr mth mkind msort mfirst mblk mfree mfnd mfm H locs hP hD hS ls (lv_sub hl [1, 2, 0] rfl) hw
  unfold wX3_crash at hw
  suffices main : ∀ (H : Heap) (locs : List Loc), va_P D vwCl (xM g k mw mk ml mq mwt mn mt mcl mcr mth mkind msort mfirst mblk mfree mfnd mfm msn) H → va_D A (xM g k mw mk ml mq mwt mn mt mcl mcr mth mkind msort mfirst mblk mfree mfnd mfm msn) → va_S A s.heap H locs → W p l e rmX3_crash s m args below meth c H locs 0 0 Q (F0 m 0 ls []) from main _ _ hP hD hS
  intro H locs hP hD hS
  refine lv_aload_n hx hb dX3_crash_0 rfl (lv_at hl 0 rfl) ?_
  refine lv_iconst (v := 0) hx hb dX3_crash_1 (by decide) ?_
  refine va_put (D := D) (ci := 3) (v := .int 0) (ty := .int) (C := RX3) (T := TX3) (N := 18) hx hb hts hinX3 tyX3 tyX3_ok nmX3 hown hK hP hD hS 0 rfl rfl 9 (by decide) (hts (.fieldLink RX3 47 "SlabHeapModel" "thrown" "I") (by decide +kernel)) (fun _ h9 => h9) rfl (by decide +kernel) rfl rfl (Nat.le_of_ble_eq_true rfl) dX3_crash_2 (fun H locs hP hD hS => ?_)
  have hP : va_P D vwCl (xM g k mw mk ml mq mwt mn mt mcl mcr 0 mkind msort mfirst mblk mfree mfnd mfm msn) H := hP
  have hD : va_D A (xM g k mw mk ml mq mwt mn mt mcl mcr 0 mkind msort mfirst mblk mfree mfnd mfm msn) := hD
  refine lv_iconst (v := 0) hx hb dX3_crash_5 (by decide) ?_
  refine lv_istore_n (lv' := [(2, .int 0), (0, .ref (g 0)), (1, .int x1)]) hx hb dX3_crash_6 rfl hl (by decide) rfl (fun ls hl => ?_)
  obtain ⟨fu_53, hw⟩ := hw
  exact B7  fu_53 x1 0 mw mk ml mq mwt mn mcl mcr 0 mkind msort mfirst mblk mfree mfnd mfm H locs hP hD hS ls (lv_sub hl [1, 2, 0] rfl) hw
-- X3_see
abbrev rmX3_see : Room := { frames := 2, cells := 0, slots := 0, locals := 44 }
set_option maxHeartbeats 4000000 in
set_option maxRecDepth 100000 in
theorem c_X3_see (l : Launch) (D : va_G) (g : Nat → Nat) (k : xC) (mw : Nat → Int32) (mk : Nat → Int32) (ml : Nat → Int32) (mq : Nat → Int32) (mwt : Nat → Int32) (mn : Int32) (mt : Int32) (mcl : Int32) (mcr : Int32) (mth : Int32) (mkind : Nat → Int32) (msort : Nat → Int32) (mfirst : Nat → Int32) (mblk : Nat → Int32) (mfree : Nat → Int32) (mfnd : Nat → Int32) (mfm : Int32) (msn : Nat → Int32) (x1 : Int32) (post : (Nat → Int32) → Int32 → (Nat → Int32) → Prop) (hw : wX3_see post ml mfnd mfm msn x1) : CMv l yX3_see wsX3_see rmX3_see D k [.ref (g 0), .int x1] (fun v : (Nat → Int32) × Int32 × (Nat → Int32) => (xM g k mw mk ml mq mwt mn mt mcl mcr mth mkind msort mfirst mblk mfree (v.1) (v.2.1) (v.2.2))) (mfnd, mfm, msn) (fun v => post (v.1) (v.2.1) (v.2.2)) := by
  refine met_mv (cc := cX3_see) (nL := 2) (by decide) rfl (Nat.le_of_ble_eq_true rfl) ?_
  intro p e s m args below meth c Q A ls hC hP hD hA hK hZ hS hl hret
  obtain ⟨hx, hb, hml, hown, hts⟩ := id hC
  have hC : CallFix p m c cX3_see 2 s args wsX3_see RX3 := hC
  have hown : s.vm.findClass RX3 = some m.cls := hown
  have hl : lv_has ls 2 [(0, .ref (g 0)), (1, .int x1)] := hl
  have hP : va_P D vwCl (xM g k mw mk ml mq mwt mn mt mcl mcr mth mkind msort mfirst mblk mfree mfnd mfm msn) s.heap := hP
  have hD : va_D A (xM g k mw mk ml mq mwt mn mt mcl mcr mth mkind msort mfirst mblk mfree mfnd mfm msn) := hD
  have hinX3 : ∀ w ∈ wsX30, w ∈ wsX3_see := fun _ h => List.mem_cons_of_mem _ (List.mem_append_right _ h)
  unfold wX3_see at hw
  suffices main : ∀ (H : Heap) (locs : List Loc), va_P D vwCl (xM g k mw mk ml mq mwt mn mt mcl mcr mth mkind msort mfirst mblk mfree mfnd mfm msn) H → va_D A (xM g k mw mk ml mq mwt mn mt mcl mcr mth mkind msort mfirst mblk mfree mfnd mfm msn) → va_S A s.heap H locs → W p l e rmX3_see s m args below meth c H locs 0 0 Q (F0 m 0 ls []) from main _ _ hP hD hS
  intro H locs hP hD hS
  refine lv_aload_n hx hb dX3_see_0 rfl (lv_at hl 0 rfl) ?_
  refine lv_iload_n hx hb dX3_see_1 rfl (lv_at hl 1 rfl) ?_
  refine pcall (va_runV (As := [.int x1]) (rest := []) hC (c_X3_isBlock l D g k mw mk ml mq mwt mn mt mcl mcr mth mkind msort mfirst mblk mfree mfnd mfm msn x1 _ hw H) (cwV 1 hts gX3_see_X3_isBlock rfl rfl rfl (by decide +kernel) ⟨Nat.le_of_ble_eq_true rfl, Nat.le_of_ble_eq_true rfl⟩) (preV_p (va_recv hK hP (ci := 3) (q0 := 0) rfl rfl) hP hK hZ hS) rfl rfl hl.1 rfl (lv_room (Nat.le_of_ble_eq_true rfl)) dX3_see_2 ⟨Nat.le_of_ble_eq_true rfl, Nat.le_of_ble_eq_true rfl⟩) (fun r_1 hw => ?_)
  refine lv_if_eq (tgt := 17) hx hb dX3_see_5 (by decide) (fun c_2 => ?_) (fun c_2 => ?_)
  · have hw := hw.1 c_2
    exact hret _ _ (mfnd, mfm, msn) _ _ hP hD hS dX3_see_17 hw
  · have hw := hw.2 c_2
    refine lv_aload_n hx hb dX3_see_8 rfl (lv_at hl 0 rfl) ?_
    refine va_get (D := D) (ci := 3) (v := .ref (g 12)) (C := RX3) (T := TX3) (N := 18) hx hb hts hinX3 hown hK hP 0 rfl rfl 17 (by decide) (hts (.fieldLink RX3 44 "SlabHeapModel" "isSeen" "[Z") (by decide +kernel)) (fun _ h9 => h9) rfl dX3_see_9 ?_
    refine lv_iload_n hx hb dX3_see_12 rfl (lv_at hl 1 rfl) ?_
    obtain ⟨h_3, hw⟩ := hw
    refine va_zald hx hb hK hP 12 1 rfl rfl h_3 dX3_see_13 ?_
    refine lv_if_eq (tgt := 18) hx hb dX3_see_14 (by decide) (fun c_4 => ?_) (fun c_4 => ?_)
    · have hw := hw.1 c_4
      refine lv_aload_n hx hb dX3_see_18 rfl (lv_at hl 0 rfl) ?_
      refine va_get (D := D) (ci := 3) (v := .ref (g 12)) (C := RX3) (T := TX3) (N := 18) hx hb hts hinX3 hown hK hP 0 rfl rfl 17 (by decide) (hts (.fieldLink RX3 44 "SlabHeapModel" "isSeen" "[Z") (by decide +kernel)) (fun _ h9 => h9) rfl dX3_see_19 ?_
      refine lv_iload_n hx hb dX3_see_22 rfl (lv_at hl 1 rfl) ?_
      refine lv_iconst (v := 1) hx hb dX3_see_23 (by decide) ?_
      obtain ⟨h_5, hw⟩ := hw
      refine va_zast hx hb hK hP hD hS 12 1 rfl rfl h_5 dX3_see_24 (fun H locs hP hD hS => ?_)
      have hP : va_P D vwCl (xM g k mw mk ml mq mwt mn mt mcl mcr mth mkind msort mfirst mblk mfree mfnd mfm (upd msn x1.toNatClampNeg (vp_nar .boolean 1))) H := hP
      have hD : va_D A (xM g k mw mk ml mq mwt mn mt mcl mcr mth mkind msort mfirst mblk mfree mfnd mfm (upd msn x1.toNatClampNeg (vp_nar .boolean 1))) := hD
      refine lv_aload_n hx hb dX3_see_25 rfl (lv_at hl 0 rfl) ?_
      refine va_get (D := D) (ci := 3) (v := .ref (g 11)) (C := RX3) (T := TX3) (N := 18) hx hb hts hinX3 hown hK hP 0 rfl rfl 15 (by decide) (hts (.fieldLink RX3 41 "SlabHeapModel" "found" "[I") (by decide +kernel)) (fun _ h9 => h9) rfl dX3_see_26 ?_
      refine lv_aload_n hx hb dX3_see_29 rfl (lv_at hl 0 rfl) ?_
      refine va_get (D := D) (ci := 3) (v := .int mfm) (C := RX3) (T := TX3) (N := 18) hx hb hts hinX3 hown hK hP 0 rfl rfl 16 (by decide) (hts (.fieldLink RX3 128 "SlabHeapModel" "foundMany" "I") (by decide +kernel)) (fun _ h9 => h9) rfl dX3_see_30 ?_
      refine lv_iload_n hx hb dX3_see_33 rfl (lv_at hl 1 rfl) ?_
      obtain ⟨h_6, hw⟩ := hw
      refine va_iast hx hb hK hP hD hS 11 0 rfl rfl h_6 dX3_see_34 (fun H locs hP hD hS => ?_)
      have hP : va_P D vwCl (xM g k mw mk ml mq mwt mn mt mcl mcr mth mkind msort mfirst mblk mfree (upd mfnd mfm.toNatClampNeg x1) mfm (upd msn x1.toNatClampNeg (vp_nar .boolean 1))) H := hP
      have hD : va_D A (xM g k mw mk ml mq mwt mn mt mcl mcr mth mkind msort mfirst mblk mfree (upd mfnd mfm.toNatClampNeg x1) mfm (upd msn x1.toNatClampNeg (vp_nar .boolean 1))) := hD
      refine lv_aload_n hx hb dX3_see_35 rfl (lv_at hl 0 rfl) ?_
      refine lv_dup hx hb dX3_see_36 rfl ?_
      refine va_get (D := D) (ci := 3) (v := .int mfm) (C := RX3) (T := TX3) (N := 18) hx hb hts hinX3 hown hK hP 0 rfl rfl 16 (by decide) (hts (.fieldLink RX3 128 "SlabHeapModel" "foundMany" "I") (by decide +kernel)) (fun _ h9 => h9) rfl dX3_see_37 ?_
      refine lv_iconst (v := 1) hx hb dX3_see_40 (by decide) ?_
      refine lv_iadd hx hb dX3_see_41 ?_
      refine va_put (D := D) (ci := 3) (v := .int (mfm + 1)) (ty := .int) (C := RX3) (T := TX3) (N := 18) hx hb hts hinX3 tyX3 tyX3_ok nmX3 hown hK hP hD hS 0 rfl rfl 16 (by decide) (hts (.fieldLink RX3 128 "SlabHeapModel" "foundMany" "I") (by decide +kernel)) (fun _ h9 => h9) rfl (by decide +kernel) rfl rfl (Nat.le_of_ble_eq_true rfl) dX3_see_42 (fun H locs hP hD hS => ?_)
      have hP : va_P D vwCl (xM g k mw mk ml mq mwt mn mt mcl mcr mth mkind msort mfirst mblk mfree (upd mfnd mfm.toNatClampNeg x1) (mfm + 1) (upd msn x1.toNatClampNeg (vp_nar .boolean 1))) H := hP
      have hD : va_D A (xM g k mw mk ml mq mwt mn mt mcl mcr mth mkind msort mfirst mblk mfree (upd mfnd mfm.toNatClampNeg x1) (mfm + 1) (upd msn x1.toNatClampNeg (vp_nar .boolean 1))) := hD
      exact hret _ _ ((upd mfnd mfm.toNatClampNeg x1), (mfm + 1), (upd msn x1.toNatClampNeg (vp_nar .boolean 1))) _ _ hP hD hS dX3_see_45 hw
    · have hw := hw.2 c_4
      exact hret _ _ (mfnd, mfm, msn) _ _ hP hD hS dX3_see_17 hw
-- X3_collect
abbrev rmX3_collect : Room := { frames := 3, cells := 0, slots := 0, locals := 65 }
set_option maxHeartbeats 4000000 in
set_option maxRecDepth 100000 in
theorem c_X3_collect (l : Launch) (D : va_G) (g : Nat → Nat) (k : xC) (mw : Nat → Int32) (mk : Nat → Int32) (ml : Nat → Int32) (mq : Nat → Int32) (mwt : Nat → Int32) (mn : Int32) (mt : Int32) (mcl : Int32) (mcr : Int32) (mth : Int32) (mkind : Nat → Int32) (msort : Nat → Int32) (mfirst : Nat → Int32) (mblk : Nat → Int32) (mfree : Nat → Int32) (mfnd : Nat → Int32) (mfm : Int32) (msn : Nat → Int32)  (post : Int32 → (Nat → Int32) → (Nat → Int32) → (Nat → Int32) → (Nat → Int32) → Int32 → Int32 → (Nat → Int32) → Int32 → (Nat → Int32) → Prop) (hw : wX3_collect post mw ml mq mwt mn mth mfnd mfm msn) : CMi l yX3_collect wsX3_collect rmX3_collect D k [.ref (g 0)] (fun v : (Nat → Int32) × (Nat → Int32) × (Nat → Int32) × (Nat → Int32) × Int32 × Int32 × (Nat → Int32) × Int32 × (Nat → Int32) => (xM g k (v.1) mk (v.2.1) (v.2.2.1) (v.2.2.2.1) (v.2.2.2.2.1) mt mcl mcr (v.2.2.2.2.2.1) mkind msort mfirst mblk mfree (v.2.2.2.2.2.2.1) (v.2.2.2.2.2.2.2.1) (v.2.2.2.2.2.2.2.2))) (mw, ml, mq, mwt, mn, mth, mfnd, mfm, msn) (fun r v => post r (v.1) (v.2.1) (v.2.2.1) (v.2.2.2.1) (v.2.2.2.2.1) (v.2.2.2.2.2.1) (v.2.2.2.2.2.2.1) (v.2.2.2.2.2.2.2.1) (v.2.2.2.2.2.2.2.2)) := by
  refine met_mi (cc := cX3_collect) (nL := 4) (by decide) rfl (Nat.le_of_ble_eq_true rfl) ?_
  intro p e s m args below meth c Q A ls hC hP hD hA hK hZ hS hl hret
  obtain ⟨hx, hb, hml, hown, hts⟩ := id hC
  have hC : CallFix p m c cX3_collect 4 s args wsX3_collect RX3 := hC
  have hown : s.vm.findClass RX3 = some m.cls := hown
  have hl : lv_has ls 4 [(0, .ref (g 0))] := hl
  have hP : va_P D vwCl (xM g k mw mk ml mq mwt mn mt mcl mcr mth mkind msort mfirst mblk mfree mfnd mfm msn) s.heap := hP
  have hD : va_D A (xM g k mw mk ml mq mwt mn mt mcl mcr mth mkind msort mfirst mblk mfree mfnd mfm msn) := hD
  have hinX3 : ∀ w ∈ wsX30, w ∈ wsX3_collect := fun _ h => List.mem_cons_of_mem _ (List.mem_append_right _ h)
  have B118 : ∀ (fu : Nat), ∀ (x1 : Int32), ∀ (x2 : Int32), ∀ (mw : Nat → Int32), ∀ (ml : Nat → Int32), ∀ (mq : Nat → Int32), ∀ (mwt : Nat → Int32), ∀ (mn : Int32), ∀ (mth : Int32), ∀ (mfnd : Nat → Int32), ∀ (mfm : Int32), ∀ (msn : Nat → Int32), ∀ (H : Heap) (locs : List Loc), va_P D vwCl (xM g k mw mk ml mq mwt mn mt mcl mcr mth mkind msort mfirst mblk mfree mfnd mfm msn) H → va_D A (xM g k mw mk ml mq mwt mn mt mcl mcr mth mkind msort mfirst mblk mfree mfnd mfm msn) → va_S A s.heap H locs → ∀ (ls : Array Slot), lv_has ls 4 [(0, .ref (g 0)), (1, .int x1), (2, .int x2)] → wX3_collect_118 post fu x1 x2 mw ml mq mwt mn mth mfnd mfm msn → W p l e rmX3_collect s m args below meth c H locs 0 0 Q (F0 m 118 ls []) := by
    intro  fu
    induction fu with
    | zero =>
      intro x1 x2 mw ml mq mwt mn mth mfnd mfm msn H locs hP hD hS ls hl hw
      exact absurd hw (by unfold wX3_collect_118; exact fun q => q)
    | succ n ih =>
      intro x1 x2 mw ml mq mwt mn mth mfnd mfm msn H locs hP hD hS ls hl hw
      unfold wX3_collect_118 at hw
      refine lv_iload_n hx hb dX3_collect_118 rfl (lv_at hl 2 rfl) ?_
      refine lv_sipush (v := 4096) hx hb dX3_collect_119 (by decide) ?_
      refine lv_icmp_ge (tgt := 161) hx hb dX3_collect_122 (by decide) (fun c_4 => ?_) (fun c_4 => ?_)
      · have hw := hw.1 c_4
        refine lv_iload_n hx hb dX3_collect_161 rfl (lv_at hl 1 rfl) ?_
        exact hret _ _ _ (mw, ml, mq, mwt, mn, mth, mfnd, mfm, msn) _ _ hP hD hS dX3_collect_162 hw
      · have hw := hw.2 c_4
        refine lv_aload_n hx hb dX3_collect_125 rfl (lv_at hl 0 rfl) ?_
        refine va_get (D := D) (ci := 3) (v := .ref (g 3)) (C := RX3) (T := TX3) (N := 18) hx hb hts hinX3 hown hK hP 0 rfl rfl 2 (by decide) (hts (.fieldLink RX3 16 "SlabHeapModel" "isLive" "[Z") (by decide +kernel)) (fun _ h9 => h9) rfl dX3_collect_126 ?_
        refine lv_iload_n hx hb dX3_collect_129 rfl (lv_at hl 2 rfl) ?_
        obtain ⟨h_5, hw⟩ := hw
        refine va_zald hx hb hK hP 3 1 rfl rfl h_5 dX3_collect_130 ?_
        refine lv_if_eq (tgt := 155) hx hb dX3_collect_131 (by decide) (fun c_6 => ?_) (fun c_6 => ?_)
        · have hw := hw.1 c_6
          obtain ⟨x2_7, ex2_7⟩ : ∃ y : Int32, y = x2 + 1 := ⟨_, rfl⟩
          have hw := hw x2_7 ex2_7
          refine lv_iinc (v := x2_7) (lv' := [(2, .int x2_7), (0, .ref (g 0)), (1, .int x1)]) hx hb dX3_collect_155 hl (k := 2) rfl (by rw [ex2_7]; rfl) (by decide) rfl (fun ls hl => ?_)
          refine lv_goto (tgt := 118) hx hb dX3_collect_158 (by decide) ?_
          exact ih x1 x2_7 mw ml mq mwt mn mth mfnd mfm msn H locs hP hD hS ls (lv_sub hl [1, 2, 0] rfl) hw
        · have hw := hw.2 c_6
          refine lv_aload_n hx hb dX3_collect_134 rfl (lv_at hl 0 rfl) ?_
          refine va_get (D := D) (ci := 3) (v := .ref (g 12)) (C := RX3) (T := TX3) (N := 18) hx hb hts hinX3 hown hK hP 0 rfl rfl 17 (by decide) (hts (.fieldLink RX3 44 "SlabHeapModel" "isSeen" "[Z") (by decide +kernel)) (fun _ h9 => h9) rfl dX3_collect_135 ?_
          refine lv_iload_n hx hb dX3_collect_138 rfl (lv_at hl 2 rfl) ?_
          obtain ⟨h_8, hw⟩ := hw
          refine va_zald hx hb hK hP 12 1 rfl rfl h_8 dX3_collect_139 ?_
          refine lv_if_eq (tgt := 146) hx hb dX3_collect_140 (by decide) (fun c_9 => ?_) (fun c_9 => ?_)
          · have hw := hw.1 c_9
            refine lv_aload_n hx hb dX3_collect_146 rfl (lv_at hl 0 rfl) ?_
            refine lv_iload_n hx hb dX3_collect_147 rfl (lv_at hl 2 rfl) ?_
            refine icall (wr := []) (va_runV (As := [.int x2]) (rest := []) hC (c_X3_freed l D g k mw mk ml mq mwt mn mt mcl mcr mth mkind msort mfirst mblk mfree mfnd mfm msn x2 _ hw H.size) (cwV 1 hts gX3_collect_X3_freed rfl rfl rfl (by decide +kernel) ⟨Nat.le_of_ble_eq_true rfl, Nat.le_of_ble_eq_true rfl⟩) (preV_m (va_recv hK hP (ci := 3) (q0 := 0) rfl rfl) hP hD hA hK hZ hS [0, 1, 2, 3, 4, 5, 6, 7, 8, 9, 10, 11, 12] rfl rfl (by decide)) rfl rfl hl.1 rfl (lv_room (Nat.le_of_ble_eq_true rfl)) dX3_collect_148 ⟨Nat.le_of_ble_eq_true rfl, Nat.le_of_ble_eq_true rfl⟩) hP hD hA hS [0, 1, 2, 3, 4, 5, 6, 7, 8, 9, 10, 11, 12] [] rfl rfl (by decide) (by decide) (fun r_15 u' H locs hw hP hD hS => ?_)
            obtain ⟨mw_10, ml_11, mq_12, mwt_13, mn_14⟩ := u'
            try dsimp only at hw
            have hP : va_P D vwCl (xM g k mw_10 mk ml_11 mq_12 mwt_13 mn_14 mt mcl mcr mth mkind msort mfirst mblk mfree mfnd mfm msn) H := hP
            have hD : va_D A (xM g k mw_10 mk ml_11 mq_12 mwt_13 mn_14 mt mcl mcr mth mkind msort mfirst mblk mfree mfnd mfm msn) := hD
            refine lv_istore_n (lv' := [(3, .int r_15), (0, .ref (g 0)), (1, .int x1), (2, .int x2)]) hx hb dX3_collect_151 rfl hl (by decide) rfl (fun ls hl => ?_)
            obtain ⟨x1_16, ex1_16⟩ : ∃ y : Int32, y = x1 + 1 := ⟨_, rfl⟩
            have hw := hw x1_16 ex1_16
            refine lv_iinc (v := x1_16) (lv' := [(1, .int x1_16), (3, .int r_15), (0, .ref (g 0)), (2, .int x2)]) hx hb dX3_collect_152 hl (k := 2) rfl (by rw [ex1_16]; rfl) (by decide) rfl (fun ls hl => ?_)
            obtain ⟨x2_17, ex2_17⟩ : ∃ y : Int32, y = x2 + 1 := ⟨_, rfl⟩
            have hw := hw x2_17 ex2_17
            refine lv_iinc (v := x2_17) (lv' := [(2, .int x2_17), (1, .int x1_16), (3, .int r_15), (0, .ref (g 0))]) hx hb dX3_collect_155 hl (k := 3) rfl (by rw [ex2_17]; rfl) (by decide) rfl (fun ls hl => ?_)
            refine lv_goto (tgt := 118) hx hb dX3_collect_158 (by decide) ?_
            exact ih x1_16 x2_17 mw_10 ml_11 mq_12 mwt_13 mn_14 mth mfnd mfm msn H locs hP hD hS ls (lv_sub hl [3, 1, 0] rfl) hw
          · have hw := hw.2 c_9
            refine lv_goto (tgt := 155) hx hb dX3_collect_143 (by decide) ?_
            obtain ⟨x2_18, ex2_18⟩ : ∃ y : Int32, y = x2 + 1 := ⟨_, rfl⟩
            have hw := hw x2_18 ex2_18
            refine lv_iinc (v := x2_18) (lv' := [(2, .int x2_18), (0, .ref (g 0)), (1, .int x1)]) hx hb dX3_collect_155 hl (k := 2) rfl (by rw [ex2_18]; rfl) (by decide) rfl (fun ls hl => ?_)
            refine lv_goto (tgt := 118) hx hb dX3_collect_158 (by decide) ?_
            exact ih x1 x2_18 mw ml mq mwt mn mth mfnd mfm msn H locs hP hD hS ls (lv_sub hl [1, 2, 0] rfl) hw
  have B68 : ∀ (J58 : Int32 → (Nat → Int32) → (Nat → Int32) → (Nat → Int32) → (Nat → Int32) → Int32 → Int32 → (Nat → Int32) → Int32 → (Nat → Int32) → Prop) (hJ58 : ∀ (x1 : Int32), ∀ (mw : Nat → Int32), ∀ (ml : Nat → Int32), ∀ (mq : Nat → Int32), ∀ (mwt : Nat → Int32), ∀ (mn : Int32), ∀ (mth : Int32), ∀ (mfnd : Nat → Int32), ∀ (mfm : Int32), ∀ (msn : Nat → Int32), ∀ (H : Heap) (locs : List Loc), va_P D vwCl (xM g k mw mk ml mq mwt mn mt mcl mcr mth mkind msort mfirst mblk mfree mfnd mfm msn) H → va_D A (xM g k mw mk ml mq mwt mn mt mcl mcr mth mkind msort mfirst mblk mfree mfnd mfm msn) → va_S A s.heap H locs → ∀ (ls : Array Slot), lv_has ls 4 [(0, .ref (g 0)), (1, .int x1)] → J58 x1 mw ml mq mwt mn mth mfnd mfm msn → W p l e rmX3_collect s m args below meth c H locs 0 0 Q (F0 m 58 ls [])) (fu : Nat), ∀ (x1 : Int32), ∀ (x2 : Int32), ∀ (mw : Nat → Int32), ∀ (ml : Nat → Int32), ∀ (mq : Nat → Int32), ∀ (mwt : Nat → Int32), ∀ (mn : Int32), ∀ (mth : Int32), ∀ (mfnd : Nat → Int32), ∀ (mfm : Int32), ∀ (msn : Nat → Int32), ∀ (H : Heap) (locs : List Loc), va_P D vwCl (xM g k mw mk ml mq mwt mn mt mcl mcr mth mkind msort mfirst mblk mfree mfnd mfm msn) H → va_D A (xM g k mw mk ml mq mwt mn mt mcl mcr mth mkind msort mfirst mblk mfree mfnd mfm msn) → va_S A s.heap H locs → ∀ (ls : Array Slot), lv_has ls 4 [(0, .ref (g 0)), (1, .int x1), (2, .int x2)] → wX3_collect_68 post J58 fu x1 x2 mw ml mq mwt mn mth mfnd mfm msn → W p l e rmX3_collect s m args below meth c H locs 0 0 Q (F0 m 68 ls []) := by
    intro J58 hJ58 fu
    induction fu with
    | zero =>
      intro x1 x2 mw ml mq mwt mn mth mfnd mfm msn H locs hP hD hS ls hl hw
      exact absurd hw (by unfold wX3_collect_68; exact fun q => q)
    | succ n ih =>
      intro x1 x2 mw ml mq mwt mn mth mfnd mfm msn H locs hP hD hS ls hl hw
      unfold wX3_collect_68 at hw
      refine lv_iload_n hx hb dX3_collect_68 rfl (lv_at hl 2 rfl) ?_
      refine lv_aload_n hx hb dX3_collect_69 rfl (lv_at hl 0 rfl) ?_
      refine lv_aload_n hx hb dX3_collect_70 rfl (lv_at hl 0 rfl) ?_
      refine va_get (D := D) (ci := 3) (v := .ref (g 11)) (C := RX3) (T := TX3) (N := 18) hx hb hts hinX3 hown hK hP 0 rfl rfl 15 (by decide) (hts (.fieldLink RX3 41 "SlabHeapModel" "found" "[I") (by decide +kernel)) (fun _ h9 => h9) rfl dX3_collect_71 ?_
      refine lv_iload_n hx hb dX3_collect_74 rfl (lv_at hl 1 rfl) ?_
      obtain ⟨h_20, hw⟩ := hw
      refine va_iald hx hb hK hP 11 0 rfl rfl h_20 dX3_collect_75 ?_
      refine pcall (va_runV (As := [.int (mfnd x1.toNatClampNeg)]) (rest := [.int x2]) hC (c_X3_refsAt l D g k mw mk ml mq mwt mn mt mcl mcr mth mkind msort mfirst mblk mfree mfnd mfm msn (mfnd x1.toNatClampNeg) _ hw H) (cwV 1 hts gX3_collect_X3_refsAt rfl rfl rfl (by decide +kernel) ⟨Nat.le_of_ble_eq_true rfl, Nat.le_of_ble_eq_true rfl⟩) (preV_p (va_recv hK hP (ci := 3) (q0 := 0) rfl rfl) hP hK hZ hS) rfl rfl hl.1 rfl (lv_room (Nat.le_of_ble_eq_true rfl)) dX3_collect_76 ⟨Nat.le_of_ble_eq_true rfl, Nat.le_of_ble_eq_true rfl⟩) (fun r_21 hw => ?_)
      refine lv_icmp_ge (tgt := 107) hx hb dX3_collect_79 (by decide) (fun c_22 => ?_) (fun c_22 => ?_)
      · have hw := hw.1 c_22
        obtain ⟨x1_23, ex1_23⟩ : ∃ y : Int32, y = x1 + 1 := ⟨_, rfl⟩
        have hw := hw x1_23 ex1_23
        refine lv_iinc (v := x1_23) (lv' := [(1, .int x1_23), (0, .ref (g 0)), (2, .int x2)]) hx hb dX3_collect_107 hl (k := 1) rfl (by rw [ex1_23]; rfl) (by decide) rfl (fun ls hl => ?_)
        refine lv_goto (tgt := 58) hx hb dX3_collect_110 (by decide) ?_
        exact hJ58 x1_23 mw ml mq mwt mn mth mfnd mfm msn H locs hP hD hS ls (lv_sub hl [1, 0] rfl) hw
      · have hw := hw.2 c_22
        refine lv_aload_n hx hb dX3_collect_82 rfl (lv_at hl 0 rfl) ?_
        refine lv_aload_n hx hb dX3_collect_83 rfl (lv_at hl 0 rfl) ?_
        refine va_get (D := D) (ci := 3) (v := .ref (g 1)) (C := RX3) (T := TX3) (N := 18) hx hb hts hinX3 hown hK hP 0 rfl rfl 0 (by decide) (hts (.fieldLink RX3 7 "SlabHeapModel" "words" "[I") (by decide +kernel)) (fun _ h9 => h9) rfl dX3_collect_84 ?_
        refine lv_aload_n hx hb dX3_collect_87 rfl (lv_at hl 0 rfl) ?_
        refine va_get (D := D) (ci := 3) (v := .ref (g 11)) (C := RX3) (T := TX3) (N := 18) hx hb hts hinX3 hown hK hP 0 rfl rfl 15 (by decide) (hts (.fieldLink RX3 41 "SlabHeapModel" "found" "[I") (by decide +kernel)) (fun _ h9 => h9) rfl dX3_collect_88 ?_
        refine lv_iload_n hx hb dX3_collect_91 rfl (lv_at hl 1 rfl) ?_
        obtain ⟨h_24, hw⟩ := hw
        refine va_iald hx hb hK hP 11 0 rfl rfl h_24 dX3_collect_92 ?_
        refine lv_iconst (v := 1) hx hb dX3_collect_93 (by decide) ?_
        refine lv_iadd hx hb dX3_collect_94 ?_
        refine lv_iload_n hx hb dX3_collect_95 rfl (lv_at hl 2 rfl) ?_
        refine lv_iadd hx hb dX3_collect_96 ?_
        obtain ⟨h_25, hw⟩ := hw
        refine va_iald hx hb hK hP 1 0 rfl rfl h_25 dX3_collect_97 ?_
        refine vcall (wr := []) (va_runV (As := [.int (mw (((mfnd x1.toNatClampNeg) + 1) + x2).toNatClampNeg)]) (rest := []) hC (c_X3_see l D g k mw mk ml mq mwt mn mt mcl mcr mth mkind msort mfirst mblk mfree mfnd mfm msn (mw (((mfnd x1.toNatClampNeg) + 1) + x2).toNatClampNeg) _ hw H.size) (cwV 1 hts gX3_collect_X3_see rfl rfl rfl (by decide +kernel) ⟨Nat.le_of_ble_eq_true rfl, Nat.le_of_ble_eq_true rfl⟩) (preV_m (va_recv hK hP (ci := 3) (q0 := 0) rfl rfl) hP hD hA hK hZ hS [0, 1, 2, 3, 4, 5, 6, 7, 8, 9, 10, 11, 12] rfl rfl (by decide)) rfl rfl hl.1 rfl (lv_room (Nat.le_of_ble_eq_true rfl)) dX3_collect_98 ⟨Nat.le_of_ble_eq_true rfl, Nat.le_of_ble_eq_true rfl⟩) hP hD hA hS [0, 1, 2, 3, 4, 5, 6, 7, 8, 9, 10, 11, 12] [] rfl rfl (by decide) (by decide) (fun u' H locs hw hP hD hS => ?_)
        obtain ⟨mfnd_26, mfm_27, msn_28⟩ := u'
        try dsimp only at hw
        have hP : va_P D vwCl (xM g k mw mk ml mq mwt mn mt mcl mcr mth mkind msort mfirst mblk mfree mfnd_26 mfm_27 msn_28) H := hP
        have hD : va_D A (xM g k mw mk ml mq mwt mn mt mcl mcr mth mkind msort mfirst mblk mfree mfnd_26 mfm_27 msn_28) := hD
        obtain ⟨x2_29, ex2_29⟩ : ∃ y : Int32, y = x2 + 1 := ⟨_, rfl⟩
        have hw := hw x2_29 ex2_29
        refine lv_iinc (v := x2_29) (lv' := [(2, .int x2_29), (0, .ref (g 0)), (1, .int x1)]) hx hb dX3_collect_101 hl (k := 2) rfl (by rw [ex2_29]; rfl) (by decide) rfl (fun ls hl => ?_)
        refine lv_goto (tgt := 68) hx hb dX3_collect_104 (by decide) ?_
        exact ih x1 x2_29 mw ml mq mwt mn mth mfnd_26 mfm_27 msn_28 H locs hP hD hS ls (lv_sub hl [1, 2, 0] rfl) hw
  have B58 : ∀ (fu : Nat), ∀ (x1 : Int32), ∀ (mw : Nat → Int32), ∀ (ml : Nat → Int32), ∀ (mq : Nat → Int32), ∀ (mwt : Nat → Int32), ∀ (mn : Int32), ∀ (mth : Int32), ∀ (mfnd : Nat → Int32), ∀ (mfm : Int32), ∀ (msn : Nat → Int32), ∀ (H : Heap) (locs : List Loc), va_P D vwCl (xM g k mw mk ml mq mwt mn mt mcl mcr mth mkind msort mfirst mblk mfree mfnd mfm msn) H → va_D A (xM g k mw mk ml mq mwt mn mt mcl mcr mth mkind msort mfirst mblk mfree mfnd mfm msn) → va_S A s.heap H locs → ∀ (ls : Array Slot), lv_has ls 4 [(0, .ref (g 0)), (1, .int x1)] → wX3_collect_58 post fu x1 mw ml mq mwt mn mth mfnd mfm msn → W p l e rmX3_collect s m args below meth c H locs 0 0 Q (F0 m 58 ls []) := by
    intro  fu
    induction fu with
    | zero =>
      intro x1 mw ml mq mwt mn mth mfnd mfm msn H locs hP hD hS ls hl hw
      exact absurd hw (by unfold wX3_collect_58; exact fun q => q)
    | succ n ih =>
      intro x1 mw ml mq mwt mn mth mfnd mfm msn H locs hP hD hS ls hl hw
      unfold wX3_collect_58 at hw
      refine lv_iload_n hx hb dX3_collect_58 rfl (lv_at hl 1 rfl) ?_
      refine lv_aload_n hx hb dX3_collect_59 rfl (lv_at hl 0 rfl) ?_
      refine va_get (D := D) (ci := 3) (v := .int mfm) (C := RX3) (T := TX3) (N := 18) hx hb hts hinX3 hown hK hP 0 rfl rfl 16 (by decide) (hts (.fieldLink RX3 128 "SlabHeapModel" "foundMany" "I") (by decide +kernel)) (fun _ h9 => h9) rfl dX3_collect_60 ?_
      refine lv_icmp_ge (tgt := 113) hx hb dX3_collect_63 (by decide) (fun c_3 => ?_) (fun c_3 => ?_)
      · have hw := hw.1 c_3
        refine lv_iconst (v := 0) hx hb dX3_collect_113 (by decide) ?_
        refine lv_istore_n (lv' := [(1, .int 0), (0, .ref (g 0))]) hx hb dX3_collect_114 rfl hl (by decide) rfl (fun ls hl => ?_)
        refine lv_bipush (v := 16) hx hb dX3_collect_115 (by decide) ?_
        refine lv_istore_n (lv' := [(2, .int 16), (1, .int 0), (0, .ref (g 0))]) hx hb dX3_collect_117 rfl hl (by decide) rfl (fun ls hl => ?_)
        obtain ⟨fu_19, hw⟩ := hw
        exact B118  fu_19 0 16 mw ml mq mwt mn mth mfnd mfm msn H locs hP hD hS ls (lv_sub hl [2, 1, 0] rfl) hw
      · have hw := hw.2 c_3
        refine lv_iconst (v := 0) hx hb dX3_collect_66 (by decide) ?_
        refine lv_istore_n (lv' := [(2, .int 0), (0, .ref (g 0)), (1, .int x1)]) hx hb dX3_collect_67 rfl hl (by decide) rfl (fun ls hl => ?_)
        obtain ⟨fu_30, hw⟩ := hw
        exact B68 (wX3_collect_58 post n) ih fu_30 x1 0 mw ml mq mwt mn mth mfnd mfm msn H locs hP hD hS ls (lv_sub hl [1, 2, 0] rfl) hw
  have B34 : ∀ (fu : Nat), ∀ (x1 : Int32), ∀ (mw : Nat → Int32), ∀ (ml : Nat → Int32), ∀ (mq : Nat → Int32), ∀ (mwt : Nat → Int32), ∀ (mn : Int32), ∀ (mth : Int32), ∀ (mfnd : Nat → Int32), ∀ (mfm : Int32), ∀ (msn : Nat → Int32), ∀ (H : Heap) (locs : List Loc), va_P D vwCl (xM g k mw mk ml mq mwt mn mt mcl mcr mth mkind msort mfirst mblk mfree mfnd mfm msn) H → va_D A (xM g k mw mk ml mq mwt mn mt mcl mcr mth mkind msort mfirst mblk mfree mfnd mfm msn) → va_S A s.heap H locs → ∀ (ls : Array Slot), lv_has ls 4 [(0, .ref (g 0)), (1, .int x1)] → wX3_collect_34 post fu x1 mw ml mq mwt mn mth mfnd mfm msn → W p l e rmX3_collect s m args below meth c H locs 0 0 Q (F0 m 34 ls []) := by
    intro  fu
    induction fu with
    | zero =>
      intro x1 mw ml mq mwt mn mth mfnd mfm msn H locs hP hD hS ls hl hw
      exact absurd hw (by unfold wX3_collect_34; exact fun q => q)
    | succ n ih =>
      intro x1 mw ml mq mwt mn mth mfnd mfm msn H locs hP hD hS ls hl hw
      unfold wX3_collect_34 at hw
      refine lv_iload_n hx hb dX3_collect_34 rfl (lv_at hl 1 rfl) ?_
      refine lv_bipush (v := 8) hx hb dX3_collect_35 (by decide) ?_
      refine lv_icmp_gt (tgt := 56) hx hb dX3_collect_37 (by decide) (fun c_2 => ?_) (fun c_2 => ?_)
      · have hw := hw.1 c_2
        refine lv_iconst (v := 0) hx hb dX3_collect_56 (by decide) ?_
        refine lv_istore_n (lv' := [(1, .int 0), (0, .ref (g 0))]) hx hb dX3_collect_57 rfl hl (by decide) rfl (fun ls hl => ?_)
        obtain ⟨fu_31, hw⟩ := hw
        exact B58  fu_31 0 mw ml mq mwt mn mth mfnd mfm msn H locs hP hD hS ls (lv_sub hl [1, 0] rfl) hw
      · have hw := hw.2 c_2
        refine lv_aload_n hx hb dX3_collect_40 rfl (lv_at hl 0 rfl) ?_
        refine lv_aload_n hx hb dX3_collect_41 rfl (lv_at hl 0 rfl) ?_
        refine va_get (D := D) (ci := 3) (v := .ref (g 1)) (C := RX3) (T := TX3) (N := 18) hx hb hts hinX3 hown hK hP 0 rfl rfl 0 (by decide) (hts (.fieldLink RX3 7 "SlabHeapModel" "words" "[I") (by decide +kernel)) (fun _ h9 => h9) rfl dX3_collect_42 ?_
        refine lv_iload_n hx hb dX3_collect_45 rfl (lv_at hl 1 rfl) ?_
        obtain ⟨h_32, hw⟩ := hw
        refine va_iald hx hb hK hP 1 0 rfl rfl h_32 dX3_collect_46 ?_
        refine vcall (wr := []) (va_runV (As := [.int (mw x1.toNatClampNeg)]) (rest := []) hC (c_X3_see l D g k mw mk ml mq mwt mn mt mcl mcr mth mkind msort mfirst mblk mfree mfnd mfm msn (mw x1.toNatClampNeg) _ hw H.size) (cwV 1 hts gX3_collect_X3_see rfl rfl rfl (by decide +kernel) ⟨Nat.le_of_ble_eq_true rfl, Nat.le_of_ble_eq_true rfl⟩) (preV_m (va_recv hK hP (ci := 3) (q0 := 0) rfl rfl) hP hD hA hK hZ hS [0, 1, 2, 3, 4, 5, 6, 7, 8, 9, 10, 11, 12] rfl rfl (by decide)) rfl rfl hl.1 rfl (lv_room (Nat.le_of_ble_eq_true rfl)) dX3_collect_47 ⟨Nat.le_of_ble_eq_true rfl, Nat.le_of_ble_eq_true rfl⟩) hP hD hA hS [0, 1, 2, 3, 4, 5, 6, 7, 8, 9, 10, 11, 12] [] rfl rfl (by decide) (by decide) (fun u' H locs hw hP hD hS => ?_)
        obtain ⟨mfnd_33, mfm_34, msn_35⟩ := u'
        try dsimp only at hw
        have hP : va_P D vwCl (xM g k mw mk ml mq mwt mn mt mcl mcr mth mkind msort mfirst mblk mfree mfnd_33 mfm_34 msn_35) H := hP
        have hD : va_D A (xM g k mw mk ml mq mwt mn mt mcl mcr mth mkind msort mfirst mblk mfree mfnd_33 mfm_34 msn_35) := hD
        obtain ⟨x1_36, ex1_36⟩ : ∃ y : Int32, y = x1 + 1 := ⟨_, rfl⟩
        have hw := hw x1_36 ex1_36
        refine lv_iinc (v := x1_36) (lv' := [(1, .int x1_36), (0, .ref (g 0))]) hx hb dX3_collect_50 hl (k := 1) rfl (by rw [ex1_36]; rfl) (by decide) rfl (fun ls hl => ?_)
        refine lv_goto (tgt := 34) hx hb dX3_collect_53 (by decide) ?_
        exact ih x1_36 mw ml mq mwt mn mth mfnd_33 mfm_34 msn_35 H locs hP hD hS ls (lv_sub hl [1, 0] rfl) hw
  have B7 : ∀ (fu : Nat), ∀ (x1 : Int32), ∀ (mw : Nat → Int32), ∀ (ml : Nat → Int32), ∀ (mq : Nat → Int32), ∀ (mwt : Nat → Int32), ∀ (mn : Int32), ∀ (mth : Int32), ∀ (mfnd : Nat → Int32), ∀ (mfm : Int32), ∀ (msn : Nat → Int32), ∀ (H : Heap) (locs : List Loc), va_P D vwCl (xM g k mw mk ml mq mwt mn mt mcl mcr mth mkind msort mfirst mblk mfree mfnd mfm msn) H → va_D A (xM g k mw mk ml mq mwt mn mt mcl mcr mth mkind msort mfirst mblk mfree mfnd mfm msn) → va_S A s.heap H locs → ∀ (ls : Array Slot), lv_has ls 4 [(0, .ref (g 0)), (1, .int x1)] → wX3_collect_7 post fu x1 mw ml mq mwt mn mth mfnd mfm msn → W p l e rmX3_collect s m args below meth c H locs 0 0 Q (F0 m 7 ls []) := by
    intro  fu
    induction fu with
    | zero =>
      intro x1 mw ml mq mwt mn mth mfnd mfm msn H locs hP hD hS ls hl hw
      exact absurd hw (by unfold wX3_collect_7; exact fun q => q)
    | succ n ih =>
      intro x1 mw ml mq mwt mn mth mfnd mfm msn H locs hP hD hS ls hl hw
      unfold wX3_collect_7 at hw
      refine lv_iload_n hx hb dX3_collect_7 rfl (lv_at hl 1 rfl) ?_
      refine lv_sipush (v := 4096) hx hb dX3_collect_8 (by decide) ?_
      refine lv_icmp_ge (tgt := 27) hx hb dX3_collect_11 (by decide) (fun c_1 => ?_) (fun c_1 => ?_)
      · have hw := hw.1 c_1
        refine lv_aload_n hx hb dX3_collect_27 rfl (lv_at hl 0 rfl) ?_
        refine lv_iconst (v := 0) hx hb dX3_collect_28 (by decide) ?_
        refine va_put (D := D) (ci := 3) (v := .int 0) (ty := .int) (C := RX3) (T := TX3) (N := 18) hx hb hts hinX3 tyX3 tyX3_ok nmX3 hown hK hP hD hS 0 rfl rfl 16 (by decide) (hts (.fieldLink RX3 128 "SlabHeapModel" "foundMany" "I") (by decide +kernel)) (fun _ h9 => h9) rfl (by decide +kernel) rfl rfl (Nat.le_of_ble_eq_true rfl) dX3_collect_29 (fun H locs hP hD hS => ?_)
        have hP : va_P D vwCl (xM g k mw mk ml mq mwt mn mt mcl mcr mth mkind msort mfirst mblk mfree mfnd 0 msn) H := hP
        have hD : va_D A (xM g k mw mk ml mq mwt mn mt mcl mcr mth mkind msort mfirst mblk mfree mfnd 0 msn) := hD
        refine lv_iconst (v := 1) hx hb dX3_collect_32 (by decide) ?_
        refine lv_istore_n (lv' := [(1, .int 1), (0, .ref (g 0))]) hx hb dX3_collect_33 rfl hl (by decide) rfl (fun ls hl => ?_)
        obtain ⟨fu_37, hw⟩ := hw
        exact B34  fu_37 1 mw ml mq mwt mn mth mfnd 0 msn H locs hP hD hS ls (lv_sub hl [1, 0] rfl) hw
      · have hw := hw.2 c_1
        refine lv_aload_n hx hb dX3_collect_14 rfl (lv_at hl 0 rfl) ?_
        refine va_get (D := D) (ci := 3) (v := .ref (g 12)) (C := RX3) (T := TX3) (N := 18) hx hb hts hinX3 hown hK hP 0 rfl rfl 17 (by decide) (hts (.fieldLink RX3 44 "SlabHeapModel" "isSeen" "[Z") (by decide +kernel)) (fun _ h9 => h9) rfl dX3_collect_15 ?_
        refine lv_iload_n hx hb dX3_collect_18 rfl (lv_at hl 1 rfl) ?_
        refine lv_iconst (v := 0) hx hb dX3_collect_19 (by decide) ?_
        obtain ⟨h_38, hw⟩ := hw
        refine va_zast hx hb hK hP hD hS 12 1 rfl rfl h_38 dX3_collect_20 (fun H locs hP hD hS => ?_)
        have hP : va_P D vwCl (xM g k mw mk ml mq mwt mn mt mcl mcr mth mkind msort mfirst mblk mfree mfnd mfm (upd msn x1.toNatClampNeg (vp_nar .boolean 0))) H := hP
        have hD : va_D A (xM g k mw mk ml mq mwt mn mt mcl mcr mth mkind msort mfirst mblk mfree mfnd mfm (upd msn x1.toNatClampNeg (vp_nar .boolean 0))) := hD
        obtain ⟨x1_39, ex1_39⟩ : ∃ y : Int32, y = x1 + 1 := ⟨_, rfl⟩
        have hw := hw x1_39 ex1_39
        refine lv_iinc (v := x1_39) (lv' := [(1, .int x1_39), (0, .ref (g 0))]) hx hb dX3_collect_21 hl (k := 1) rfl (by rw [ex1_39]; rfl) (by decide) rfl (fun ls hl => ?_)
        refine lv_goto (tgt := 7) hx hb dX3_collect_24 (by decide) ?_
        exact ih x1_39 mw ml mq mwt mn mth mfnd mfm (upd msn x1.toNatClampNeg (vp_nar .boolean 0)) H locs hP hD hS ls (lv_sub hl [1, 0] rfl) hw
  unfold wX3_collect at hw
  suffices main : ∀ (H : Heap) (locs : List Loc), va_P D vwCl (xM g k mw mk ml mq mwt mn mt mcl mcr mth mkind msort mfirst mblk mfree mfnd mfm msn) H → va_D A (xM g k mw mk ml mq mwt mn mt mcl mcr mth mkind msort mfirst mblk mfree mfnd mfm msn) → va_S A s.heap H locs → W p l e rmX3_collect s m args below meth c H locs 0 0 Q (F0 m 0 ls []) from main _ _ hP hD hS
  intro H locs hP hD hS
  refine lv_aload_n hx hb dX3_collect_0 rfl (lv_at hl 0 rfl) ?_
  refine lv_iconst (v := 0) hx hb dX3_collect_1 (by decide) ?_
  refine va_put (D := D) (ci := 3) (v := .int 0) (ty := .int) (C := RX3) (T := TX3) (N := 18) hx hb hts hinX3 tyX3 tyX3_ok nmX3 hown hK hP hD hS 0 rfl rfl 9 (by decide) (hts (.fieldLink RX3 47 "SlabHeapModel" "thrown" "I") (by decide +kernel)) (fun _ h9 => h9) rfl (by decide +kernel) rfl rfl (Nat.le_of_ble_eq_true rfl) dX3_collect_2 (fun H locs hP hD hS => ?_)
  have hP : va_P D vwCl (xM g k mw mk ml mq mwt mn mt mcl mcr 0 mkind msort mfirst mblk mfree mfnd mfm msn) H := hP
  have hD : va_D A (xM g k mw mk ml mq mwt mn mt mcl mcr 0 mkind msort mfirst mblk mfree mfnd mfm msn) := hD
  refine lv_iconst (v := 0) hx hb dX3_collect_5 (by decide) ?_
  refine lv_istore_n (lv' := [(1, .int 0), (0, .ref (g 0))]) hx hb dX3_collect_6 rfl hl (by decide) rfl (fun ls hl => ?_)
  obtain ⟨fu_40, hw⟩ := hw
  exact B7  fu_40 0 mw ml mq mwt mn 0 mfnd mfm msn H locs hP hD hS ls (lv_sub hl [1, 0] rfl) hw
-- X3_word
abbrev rmX3_word : Room := { frames := 1, cells := 0, slots := 0, locals := 23 }
set_option maxHeartbeats 4000000 in
set_option maxRecDepth 100000 in
theorem c_X3_word (l : Launch) (D : va_G) (g : Nat → Nat) (k : xC) (mw : Nat → Int32) (mk : Nat → Int32) (ml : Nat → Int32) (mq : Nat → Int32) (mwt : Nat → Int32) (mn : Int32) (mt : Int32) (mcl : Int32) (mcr : Int32) (mth : Int32) (mkind : Nat → Int32) (msort : Nat → Int32) (mfirst : Nat → Int32) (mblk : Nat → Int32) (mfree : Nat → Int32) (mfnd : Nat → Int32) (mfm : Int32) (msn : Nat → Int32) (x1 : Int32) (x2 : Int32) (post : Int32 → Int32 → Prop) (hw : wX3_word post mw mk mth x1 x2) : CMi l yX3_word wsX3_word rmX3_word D k [.ref (g 0), .int x1, .int x2] (fun v : Int32 => (xM g k mw mk ml mq mwt mn mt mcl mcr v mkind msort mfirst mblk mfree mfnd mfm msn)) mth (fun r v => post r v) := by
  refine met_mi (cc := cX3_word) (nL := 3) (by decide) rfl (Nat.le_of_ble_eq_true rfl) ?_
  intro p e s m args below meth c Q A ls hC hP hD hA hK hZ hS hl hret
  obtain ⟨hx, hb, hml, hown, hts⟩ := id hC
  have hC : CallFix p m c cX3_word 3 s args wsX3_word RX3 := hC
  have hown : s.vm.findClass RX3 = some m.cls := hown
  have hl : lv_has ls 3 [(0, .ref (g 0)), (1, .int x1), (2, .int x2)] := hl
  have hP : va_P D vwCl (xM g k mw mk ml mq mwt mn mt mcl mcr mth mkind msort mfirst mblk mfree mfnd mfm msn) s.heap := hP
  have hD : va_D A (xM g k mw mk ml mq mwt mn mt mcl mcr mth mkind msort mfirst mblk mfree mfnd mfm msn) := hD
  have hinX3 : ∀ w ∈ wsX30, w ∈ wsX3_word := fun _ h => List.mem_cons_of_mem _ (List.mem_append_right _ h)
  unfold wX3_word at hw
  suffices main : ∀ (H : Heap) (locs : List Loc), va_P D vwCl (xM g k mw mk ml mq mwt mn mt mcl mcr mth mkind msort mfirst mblk mfree mfnd mfm msn) H → va_D A (xM g k mw mk ml mq mwt mn mt mcl mcr mth mkind msort mfirst mblk mfree mfnd mfm msn) → va_S A s.heap H locs → W p l e rmX3_word s m args below meth c H locs 0 0 Q (F0 m 0 ls []) from main _ _ hP hD hS
  intro H locs hP hD hS
  refine lv_aload_n hx hb dX3_word_0 rfl (lv_at hl 0 rfl) ?_
  refine lv_iconst (v := 0) hx hb dX3_word_1 (by decide) ?_
  refine va_put (D := D) (ci := 3) (v := .int 0) (ty := .int) (C := RX3) (T := TX3) (N := 18) hx hb hts hinX3 tyX3 tyX3_ok nmX3 hown hK hP hD hS 0 rfl rfl 9 (by decide) (hts (.fieldLink RX3 47 "SlabHeapModel" "thrown" "I") (by decide +kernel)) (fun _ h9 => h9) rfl (by decide +kernel) rfl rfl (Nat.le_of_ble_eq_true rfl) dX3_word_2 (fun H locs hP hD hS => ?_)
  have hP : va_P D vwCl (xM g k mw mk ml mq mwt mn mt mcl mcr 0 mkind msort mfirst mblk mfree mfnd mfm msn) H := hP
  have hD : va_D A (xM g k mw mk ml mq mwt mn mt mcl mcr 0 mkind msort mfirst mblk mfree mfnd mfm msn) := hD
  refine lv_aload_n hx hb dX3_word_5 rfl (lv_at hl 0 rfl) ?_
  refine lv_iload_n hx hb dX3_word_6 rfl (lv_at hl 1 rfl) ?_
  refine lv_iconst (v := 0) hx hb dX3_word_7 (by decide) ?_
  refine lv_sipush (v := 4095) hx hb dX3_word_8 (by decide) ?_
  refine pcall (va_runV (As := [.int x1, .int 0, .int 4095]) (rest := []) hC (c_X3_is l D g k mw mk ml mq mwt mn mt mcl mcr 0 mkind msort mfirst mblk mfree mfnd mfm msn x1 0 4095 _ hw H) (cwV 3 hts gX3_word_X3_is rfl rfl rfl (by decide +kernel) ⟨Nat.le_of_ble_eq_true rfl, Nat.le_of_ble_eq_true rfl⟩) (preV_p (va_recv hK hP (ci := 3) (q0 := 0) rfl rfl) hP hK hZ hS) rfl rfl hl.1 rfl (lv_room (Nat.le_of_ble_eq_true rfl)) dX3_word_11 ⟨Nat.le_of_ble_eq_true rfl, Nat.le_of_ble_eq_true rfl⟩) (fun r_1 hw => ?_)
  refine lv_if_ne (tgt := 21) hx hb dX3_word_14 (by decide) (fun c_2 => ?_) (fun c_2 => ?_)
  · have hw := hw.1 c_2
    refine lv_iload_n hx hb dX3_word_21 rfl (lv_at hl 2 rfl) ?_
    refine lv_if_eq (tgt := 34) hx hb dX3_word_22 (by decide) (fun c_3 => ?_) (fun c_3 => ?_)
    · have hw := hw.1 c_3
      refine lv_aload_n hx hb dX3_word_34 rfl (lv_at hl 0 rfl) ?_
      refine va_get (D := D) (ci := 3) (v := .ref (g 1)) (C := RX3) (T := TX3) (N := 18) hx hb hts hinX3 hown hK hP 0 rfl rfl 0 (by decide) (hts (.fieldLink RX3 7 "SlabHeapModel" "words" "[I") (by decide +kernel)) (fun _ h9 => h9) rfl dX3_word_35 ?_
      refine lv_iload_n hx hb dX3_word_38 rfl (lv_at hl 1 rfl) ?_
      obtain ⟨h_4, hw⟩ := hw
      refine va_iald hx hb hK hP 1 0 rfl rfl h_4 dX3_word_39 ?_
      exact hret _ _ _ 0 _ _ hP hD hS dX3_word_40 hw
    · have hw := hw.2 c_3
      refine lv_aload_n hx hb dX3_word_25 rfl (lv_at hl 0 rfl) ?_
      refine va_get (D := D) (ci := 3) (v := .ref (g 2)) (C := RX3) (T := TX3) (N := 18) hx hb hts hinX3 hown hK hP 0 rfl rfl 1 (by decide) (hts (.fieldLink RX3 13 "SlabHeapModel" "kept" "[I") (by decide +kernel)) (fun _ h9 => h9) rfl dX3_word_26 ?_
      refine lv_iload_n hx hb dX3_word_29 rfl (lv_at hl 1 rfl) ?_
      obtain ⟨h_5, hw⟩ := hw
      refine va_iald hx hb hK hP 2 0 rfl rfl h_5 dX3_word_30 ?_
      refine lv_goto (tgt := 40) hx hb dX3_word_31 (by decide) ?_
      exact hret _ _ _ 0 _ _ hP hD hS dX3_word_40 hw
  · have hw := hw.2 c_2
    refine lv_iconst (v := 0) hx hb dX3_word_17 (by decide) ?_
    refine lv_goto (tgt := 40) hx hb dX3_word_18 (by decide) ?_
    exact hret _ _ _ 0 _ _ hP hD hS dX3_word_40 hw
-- X3_scribble
abbrev rmX3_scribble : Room := { frames := 1, cells := 0, slots := 0, locals := 23 }
set_option maxHeartbeats 4000000 in
set_option maxRecDepth 100000 in
theorem c_X3_scribble (l : Launch) (D : va_G) (g : Nat → Nat) (k : xC) (mw : Nat → Int32) (mk : Nat → Int32) (ml : Nat → Int32) (mq : Nat → Int32) (mwt : Nat → Int32) (mn : Int32) (mt : Int32) (mcl : Int32) (mcr : Int32) (mth : Int32) (mkind : Nat → Int32) (msort : Nat → Int32) (mfirst : Nat → Int32) (mblk : Nat → Int32) (mfree : Nat → Int32) (mfnd : Nat → Int32) (mfm : Int32) (msn : Nat → Int32) (x1 : Int32) (x2 : Int32) (post : Int32 → (Nat → Int32) → (Nat → Int32) → (Nat → Int32) → Int32 → Int32 → Int32 → Prop) (hw : wX3_scribble post mw ml mq mwt mn mt mth x1 x2) : CMi l yX3_scribble wsX3_scribble rmX3_scribble D k [.ref (g 0), .int x1, .int x2] (fun v : (Nat → Int32) × (Nat → Int32) × (Nat → Int32) × Int32 × Int32 × Int32 => (xM g k (v.1) mk ml (v.2.1) (v.2.2.1) (v.2.2.2.1) (v.2.2.2.2.1) mcl mcr (v.2.2.2.2.2) mkind msort mfirst mblk mfree mfnd mfm msn)) (mw, mq, mwt, mn, mt, mth) (fun r v => post r (v.1) (v.2.1) (v.2.2.1) (v.2.2.2.1) (v.2.2.2.2.1) (v.2.2.2.2.2)) := by
  refine met_mz (cc := cX3_scribble) (nL := 4) (by decide) rfl (Nat.le_of_ble_eq_true rfl) ?_
  intro p e s m args below meth c Q A ls hC hP hD hA hK hZ hS hl hret
  obtain ⟨hx, hb, hml, hown, hts⟩ := id hC
  have hC : CallFix p m c cX3_scribble 4 s args wsX3_scribble RX3 := hC
  have hown : s.vm.findClass RX3 = some m.cls := hown
  have hl : lv_has ls 4 [(0, .ref (g 0)), (1, .int x1), (2, .int x2)] := hl
  have hP : va_P D vwCl (xM g k mw mk ml mq mwt mn mt mcl mcr mth mkind msort mfirst mblk mfree mfnd mfm msn) s.heap := hP
  have hD : va_D A (xM g k mw mk ml mq mwt mn mt mcl mcr mth mkind msort mfirst mblk mfree mfnd mfm msn) := hD
  have hinX3 : ∀ w ∈ wsX30, w ∈ wsX3_scribble := fun _ h => List.mem_cons_of_mem _ (List.mem_append_right _ h)
  have B27 : ∀ (fu : Nat), ∀ (x1 : Int32), ∀ (x2 : Int32), ∀ (x3 : Int32), ∀ (mw : Nat → Int32), ∀ (mq : Nat → Int32), ∀ (mwt : Nat → Int32), ∀ (mn : Int32), ∀ (mt : Int32), ∀ (mth : Int32), ∀ (H : Heap) (locs : List Loc), va_P D vwCl (xM g k mw mk ml mq mwt mn mt mcl mcr mth mkind msort mfirst mblk mfree mfnd mfm msn) H → va_D A (xM g k mw mk ml mq mwt mn mt mcl mcr mth mkind msort mfirst mblk mfree mfnd mfm msn) → va_S A s.heap H locs → ∀ (ls : Array Slot), lv_has ls 4 [(0, .ref (g 0)), (1, .int x1), (2, .int x2), (3, .int x3)] → wX3_scribble_27 post ml fu x1 x2 x3 mw mq mwt mn mt mth → W p l e rmX3_scribble s m args below meth c H locs 0 0 Q (F0 m 27 ls []) := by
    intro  fu
    induction fu with
    | zero =>
      intro x1 x2 x3 mw mq mwt mn mt mth H locs hP hD hS ls hl hw
      exact absurd hw (by unfold wX3_scribble_27; exact fun q => q)
    | succ n ih =>
      intro x1 x2 x3 mw mq mwt mn mt mth H locs hP hD hS ls hl hw
      unfold wX3_scribble_27 at hw
      refine lv_iload_n hx hb dX3_scribble_27 rfl (lv_at hl 3 rfl) ?_
      refine lv_iload_n hx hb dX3_scribble_28 rfl (lv_at hl 1 rfl) ?_
      refine lv_icmp_gt (tgt := 64) hx hb dX3_scribble_29 (by decide) (fun c_3 => ?_) (fun c_3 => ?_)
      · have hw := hw.1 c_3
        refine lv_aload_n hx hb dX3_scribble_64 rfl (lv_at hl 0 rfl) ?_
        refine lv_iload_n hx hb dX3_scribble_65 rfl (lv_at hl 1 rfl) ?_
        refine lv_iload_n hx hb dX3_scribble_66 rfl (lv_at hl 2 rfl) ?_
        refine vcall (wr := []) (va_runV (As := [.int x1, .int x2]) (rest := []) hC (c_X3_write l D g k mw mk ml mq mwt mn mt mcl mcr mth mkind msort mfirst mblk mfree mfnd mfm msn x1 x2 _ hw H.size) (cwV 2 hts gX3_scribble_X3_write rfl rfl rfl (by decide +kernel) ⟨Nat.le_of_ble_eq_true rfl, Nat.le_of_ble_eq_true rfl⟩) (preV_m (va_recv hK hP (ci := 3) (q0 := 0) rfl rfl) hP hD hA hK hZ hS [0, 1, 2, 3, 4, 5, 6, 7, 8, 9, 10, 11, 12] rfl rfl (by decide)) rfl rfl hl.1 rfl (lv_room (Nat.le_of_ble_eq_true rfl)) dX3_scribble_67 ⟨Nat.le_of_ble_eq_true rfl, Nat.le_of_ble_eq_true rfl⟩) hP hD hA hS [0, 1, 2, 3, 4, 5, 6, 7, 8, 9, 10, 11, 12] [] rfl rfl (by decide) (by decide) (fun u' H locs hw hP hD hS => ?_)
        obtain ⟨mw_4, mq_5, mwt_6, mn_7⟩ := u'
        try dsimp only at hw
        have hP : va_P D vwCl (xM g k mw_4 mk ml mq_5 mwt_6 mn_7 mt mcl mcr mth mkind msort mfirst mblk mfree mfnd mfm msn) H := hP
        have hD : va_D A (xM g k mw_4 mk ml mq_5 mwt_6 mn_7 mt mcl mcr mth mkind msort mfirst mblk mfree mfnd mfm msn) := hD
        refine lv_aload_n hx hb dX3_scribble_70 rfl (lv_at hl 0 rfl) ?_
        refine lv_iconst (v := 0) hx hb dX3_scribble_71 (by decide) ?_
        refine va_put (D := D) (ci := 3) (v := .int 0) (ty := .int) (C := RX3) (T := TX3) (N := 18) hx hb hts hinX3 tyX3 tyX3_ok nmX3 hown hK hP hD hS 0 rfl rfl 6 (by decide) (hts (.fieldLink RX3 51 "SlabHeapModel" "trouble" "I") (by decide +kernel)) (fun _ h9 => h9) rfl (by decide +kernel) rfl rfl (Nat.le_of_ble_eq_true rfl) dX3_scribble_72 (fun H locs hP hD hS => ?_)
        have hP : va_P D vwCl (xM g k mw_4 mk ml mq_5 mwt_6 mn_7 0 mcl mcr mth mkind msort mfirst mblk mfree mfnd mfm msn) H := hP
        have hD : va_D A (xM g k mw_4 mk ml mq_5 mwt_6 mn_7 0 mcl mcr mth mkind msort mfirst mblk mfree mfnd mfm msn) := hD
        refine lv_iconst (v := 1) hx hb dX3_scribble_75 (by decide) ?_
        exact hret _ _ _ (mw_4, mq_5, mwt_6, mn_7, 0, mth) _ _ hP hD hS dX3_scribble_76 nb_1 hw
      · have hw := hw.2 c_3
        refine lv_aload_n hx hb dX3_scribble_32 rfl (lv_at hl 0 rfl) ?_
        refine va_get (D := D) (ci := 3) (v := .ref (g 3)) (C := RX3) (T := TX3) (N := 18) hx hb hts hinX3 hown hK hP 0 rfl rfl 2 (by decide) (hts (.fieldLink RX3 16 "SlabHeapModel" "isLive" "[Z") (by decide +kernel)) (fun _ h9 => h9) rfl dX3_scribble_33 ?_
        refine lv_iload_n hx hb dX3_scribble_36 rfl (lv_at hl 3 rfl) ?_
        obtain ⟨h_8, hw⟩ := hw
        refine va_zald hx hb hK hP 3 1 rfl rfl h_8 dX3_scribble_37 ?_
        refine lv_if_eq (tgt := 58) hx hb dX3_scribble_38 (by decide) (fun c_9 => ?_) (fun c_9 => ?_)
        · have hw := hw.1 c_9
          obtain ⟨x3_10, ex3_10⟩ : ∃ y : Int32, y = x3 + 1 := ⟨_, rfl⟩
          have hw := hw x3_10 ex3_10
          refine lv_iinc (v := x3_10) (lv' := [(3, .int x3_10), (0, .ref (g 0)), (1, .int x1), (2, .int x2)]) hx hb dX3_scribble_58 hl (k := 3) rfl (by rw [ex3_10]; rfl) (by decide) rfl (fun ls hl => ?_)
          refine lv_goto (tgt := 27) hx hb dX3_scribble_61 (by decide) ?_
          exact ih x1 x2 x3_10 mw mq mwt mn mt mth H locs hP hD hS ls (lv_sub hl [1, 2, 3, 0] rfl) hw
        · have hw := hw.2 c_9
          refine lv_iload_n hx hb dX3_scribble_41 rfl (lv_at hl 1 rfl) ?_
          refine lv_iload_n hx hb dX3_scribble_42 rfl (lv_at hl 3 rfl) ?_
          refine lv_aload_n hx hb dX3_scribble_43 rfl (lv_at hl 0 rfl) ?_
          refine lv_iload_n hx hb dX3_scribble_44 rfl (lv_at hl 3 rfl) ?_
          refine pcall (va_runV (As := [.int x3]) (rest := [.int x3, .int x1]) hC (c_X3_sizeAt l D g k mw mk ml mq mwt mn mt mcl mcr mth mkind msort mfirst mblk mfree mfnd mfm msn x3 _ hw H) (cwV 1 hts gX3_scribble_X3_sizeAt rfl rfl rfl (by decide +kernel) ⟨Nat.le_of_ble_eq_true rfl, Nat.le_of_ble_eq_true rfl⟩) (preV_p (va_recv hK hP (ci := 3) (q0 := 0) rfl rfl) hP hK hZ hS) rfl rfl hl.1 rfl (lv_room (Nat.le_of_ble_eq_true rfl)) dX3_scribble_45 ⟨Nat.le_of_ble_eq_true rfl, Nat.le_of_ble_eq_true rfl⟩) (fun r_11 hw => ?_)
          refine lv_iadd hx hb dX3_scribble_48 ?_
          refine lv_icmp_gt (tgt := 58) hx hb dX3_scribble_49 (by decide) (fun c_12 => ?_) (fun c_12 => ?_)
          · have hw := hw.1 c_12
            obtain ⟨x3_13, ex3_13⟩ : ∃ y : Int32, y = x3 + 1 := ⟨_, rfl⟩
            have hw := hw x3_13 ex3_13
            refine lv_iinc (v := x3_13) (lv' := [(3, .int x3_13), (0, .ref (g 0)), (1, .int x1), (2, .int x2)]) hx hb dX3_scribble_58 hl (k := 3) rfl (by rw [ex3_13]; rfl) (by decide) rfl (fun ls hl => ?_)
            refine lv_goto (tgt := 27) hx hb dX3_scribble_61 (by decide) ?_
            exact ih x1 x2 x3_13 mw mq mwt mn mt mth H locs hP hD hS ls (lv_sub hl [1, 2, 3, 0] rfl) hw
          · have hw := hw.2 c_12
            refine lv_aload_n hx hb dX3_scribble_52 rfl (lv_at hl 0 rfl) ?_
            refine lv_iconst (v := 2) hx hb dX3_scribble_53 (by decide) ?_
            refine icall (wr := []) (va_runV (As := [.int 2]) (rest := []) hC (c_X3_not l D g k mw mk ml mq mwt mn mt mcl mcr mth mkind msort mfirst mblk mfree mfnd mfm msn 2 _ hw H.size) (cwV 1 hts gX3_scribble_X3_not rfl rfl rfl (by decide +kernel) ⟨Nat.le_of_ble_eq_true rfl, Nat.le_of_ble_eq_true rfl⟩) (preV_m (va_recv hK hP (ci := 3) (q0 := 0) rfl rfl) hP hD hA hK hZ hS [0, 1, 2, 3, 4, 5, 6, 7, 8, 9, 10, 11, 12] rfl rfl (by decide)) rfl rfl hl.1 rfl (lv_room (Nat.le_of_ble_eq_true rfl)) dX3_scribble_54 ⟨Nat.le_of_ble_eq_true rfl, Nat.le_of_ble_eq_true rfl⟩) hP hD hA hS [0, 1, 2, 3, 4, 5, 6, 7, 8, 9, 10, 11, 12] [] rfl rfl (by decide) (by decide) (fun r_15 u' H locs hw hP hD hS => ?_)
            obtain ⟨mt_14, rfl⟩ : ∃ z, z = u' := ⟨_, rfl⟩
            try dsimp only at hw
            have hP : va_P D vwCl (xM g k mw mk ml mq mwt mn mt_14 mcl mcr mth mkind msort mfirst mblk mfree mfnd mfm msn) H := hP
            have hD : va_D A (xM g k mw mk ml mq mwt mn mt_14 mcl mcr mth mkind msort mfirst mblk mfree mfnd mfm msn) := hD
            obtain ⟨h_16, hw⟩ := hw
            exact hret _ _ _ (mw, mq, mwt, mn, mt_14, mth) _ _ hP hD hS dX3_scribble_57 h_16 hw
  unfold wX3_scribble at hw
  suffices main : ∀ (H : Heap) (locs : List Loc), va_P D vwCl (xM g k mw mk ml mq mwt mn mt mcl mcr mth mkind msort mfirst mblk mfree mfnd mfm msn) H → va_D A (xM g k mw mk ml mq mwt mn mt mcl mcr mth mkind msort mfirst mblk mfree mfnd mfm msn) → va_S A s.heap H locs → W p l e rmX3_scribble s m args below meth c H locs 0 0 Q (F0 m 0 ls []) from main _ _ hP hD hS
  intro H locs hP hD hS
  refine lv_aload_n hx hb dX3_scribble_0 rfl (lv_at hl 0 rfl) ?_
  refine lv_iconst (v := 0) hx hb dX3_scribble_1 (by decide) ?_
  refine va_put (D := D) (ci := 3) (v := .int 0) (ty := .int) (C := RX3) (T := TX3) (N := 18) hx hb hts hinX3 tyX3 tyX3_ok nmX3 hown hK hP hD hS 0 rfl rfl 9 (by decide) (hts (.fieldLink RX3 47 "SlabHeapModel" "thrown" "I") (by decide +kernel)) (fun _ h9 => h9) rfl (by decide +kernel) rfl rfl (Nat.le_of_ble_eq_true rfl) dX3_scribble_2 (fun H locs hP hD hS => ?_)
  have hP : va_P D vwCl (xM g k mw mk ml mq mwt mn mt mcl mcr 0 mkind msort mfirst mblk mfree mfnd mfm msn) H := hP
  have hD : va_D A (xM g k mw mk ml mq mwt mn mt mcl mcr 0 mkind msort mfirst mblk mfree mfnd mfm msn) := hD
  refine lv_aload_n hx hb dX3_scribble_5 rfl (lv_at hl 0 rfl) ?_
  refine lv_iload_n hx hb dX3_scribble_6 rfl (lv_at hl 1 rfl) ?_
  refine lv_bipush (v := 16) hx hb dX3_scribble_7 (by decide) ?_
  refine lv_sipush (v := 4095) hx hb dX3_scribble_9 (by decide) ?_
  refine pcall (va_runV (As := [.int x1, .int 16, .int 4095]) (rest := []) hC (c_X3_is l D g k mw mk ml mq mwt mn mt mcl mcr 0 mkind msort mfirst mblk mfree mfnd mfm msn x1 16 4095 _ hw H) (cwV 3 hts gX3_scribble_X3_is rfl rfl rfl (by decide +kernel) ⟨Nat.le_of_ble_eq_true rfl, Nat.le_of_ble_eq_true rfl⟩) (preV_p (va_recv hK hP (ci := 3) (q0 := 0) rfl rfl) hP hK hZ hS) rfl rfl hl.1 rfl (lv_room (Nat.le_of_ble_eq_true rfl)) dX3_scribble_12 ⟨Nat.le_of_ble_eq_true rfl, Nat.le_of_ble_eq_true rfl⟩) (fun r_1 hw => ?_)
  refine lv_if_ne (tgt := 24) hx hb dX3_scribble_15 (by decide) (fun c_2 => ?_) (fun c_2 => ?_)
  · have hw := hw.1 c_2
    refine lv_bipush (v := 16) hx hb dX3_scribble_24 (by decide) ?_
    refine lv_istore_n (lv' := [(3, .int 16), (0, .ref (g 0)), (1, .int x1), (2, .int x2)]) hx hb dX3_scribble_26 rfl hl (by decide) rfl (fun ls hl => ?_)
    obtain ⟨fu_17, hw⟩ := hw
    exact B27  fu_17 x1 x2 16 mw mq mwt mn mt 0 H locs hP hD hS ls (lv_sub hl [1, 2, 3, 0] rfl) hw
  · have hw := hw.2 c_2
    refine lv_aload_n hx hb dX3_scribble_18 rfl (lv_at hl 0 rfl) ?_
    refine lv_iconst (v := 3) hx hb dX3_scribble_19 (by decide) ?_
    refine icall (wr := []) (va_runV (As := [.int 3]) (rest := []) hC (c_X3_not l D g k mw mk ml mq mwt mn mt mcl mcr 0 mkind msort mfirst mblk mfree mfnd mfm msn 3 _ hw H.size) (cwV 1 hts gX3_scribble_X3_not rfl rfl rfl (by decide +kernel) ⟨Nat.le_of_ble_eq_true rfl, Nat.le_of_ble_eq_true rfl⟩) (preV_m (va_recv hK hP (ci := 3) (q0 := 0) rfl rfl) hP hD hA hK hZ hS [0, 1, 2, 3, 4, 5, 6, 7, 8, 9, 10, 11, 12] rfl rfl (by decide)) rfl rfl hl.1 rfl (lv_room (Nat.le_of_ble_eq_true rfl)) dX3_scribble_20 ⟨Nat.le_of_ble_eq_true rfl, Nat.le_of_ble_eq_true rfl⟩) hP hD hA hS [0, 1, 2, 3, 4, 5, 6, 7, 8, 9, 10, 11, 12] [] rfl rfl (by decide) (by decide) (fun r_19 u' H locs hw hP hD hS => ?_)
    obtain ⟨mt_18, rfl⟩ : ∃ z, z = u' := ⟨_, rfl⟩
    try dsimp only at hw
    have hP : va_P D vwCl (xM g k mw mk ml mq mwt mn mt_18 mcl mcr 0 mkind msort mfirst mblk mfree mfnd mfm msn) H := hP
    have hD : va_D A (xM g k mw mk ml mq mwt mn mt_18 mcl mcr 0 mkind msort mfirst mblk mfree mfnd mfm msn) := hD
    obtain ⟨h_20, hw⟩ := hw
    exact hret _ _ _ (mw, mq, mwt, mn, mt_18, 0) _ _ hP hD hS dX3_scribble_23 h_20 hw
-- X3_block
abbrev rmX3_block : Room := { frames := 2, cells := 0, slots := 0, locals := 45 }
set_option maxHeartbeats 4000000 in
set_option maxRecDepth 100000 in
theorem c_X3_block (l : Launch) (D : va_G) (g : Nat → Nat) (k : xC) (mw : Nat → Int32) (mk : Nat → Int32) (ml : Nat → Int32) (mq : Nat → Int32) (mwt : Nat → Int32) (mn : Int32) (mt : Int32) (mcl : Int32) (mcr : Int32) (mth : Int32) (mkind : Nat → Int32) (msort : Nat → Int32) (mfirst : Nat → Int32) (mblk : Nat → Int32) (mfree : Nat → Int32) (mfnd : Nat → Int32) (mfm : Int32) (msn : Nat → Int32) (x1 : Int32) (x2 : Int32) (post : Int32 → Int32 → Prop) (hw : wX3_block post mw ml mth x1 x2) : CMi l yX3_block wsX3_block rmX3_block D k [.ref (g 0), .int x1, .int x2] (fun v : Int32 => (xM g k mw mk ml mq mwt mn mt mcl mcr v mkind msort mfirst mblk mfree mfnd mfm msn)) mth (fun r v => post r v) := by
  refine met_mi (cc := cX3_block) (nL := 4) (by decide) rfl (Nat.le_of_ble_eq_true rfl) ?_
  intro p e s m args below meth c Q A ls hC hP hD hA hK hZ hS hl hret
  obtain ⟨hx, hb, hml, hown, hts⟩ := id hC
  have hC : CallFix p m c cX3_block 4 s args wsX3_block RX3 := hC
  have hown : s.vm.findClass RX3 = some m.cls := hown
  have hl : lv_has ls 4 [(0, .ref (g 0)), (1, .int x1), (2, .int x2)] := hl
  have hP : va_P D vwCl (xM g k mw mk ml mq mwt mn mt mcl mcr mth mkind msort mfirst mblk mfree mfnd mfm msn) s.heap := hP
  have hD : va_D A (xM g k mw mk ml mq mwt mn mt mcl mcr mth mkind msort mfirst mblk mfree mfnd mfm msn) := hD
  have hinX3 : ∀ w ∈ wsX30, w ∈ wsX3_block := fun _ h => List.mem_cons_of_mem _ (List.mem_append_right _ h)
  unfold wX3_block at hw
  suffices main : ∀ (H : Heap) (locs : List Loc), va_P D vwCl (xM g k mw mk ml mq mwt mn mt mcl mcr mth mkind msort mfirst mblk mfree mfnd mfm msn) H → va_D A (xM g k mw mk ml mq mwt mn mt mcl mcr mth mkind msort mfirst mblk mfree mfnd mfm msn) → va_S A s.heap H locs → W p l e rmX3_block s m args below meth c H locs 0 0 Q (F0 m 0 ls []) from main _ _ hP hD hS
  intro H locs hP hD hS
  refine lv_aload_n hx hb dX3_block_0 rfl (lv_at hl 0 rfl) ?_
  refine lv_iconst (v := 0) hx hb dX3_block_1 (by decide) ?_
  refine va_put (D := D) (ci := 3) (v := .int 0) (ty := .int) (C := RX3) (T := TX3) (N := 18) hx hb hts hinX3 tyX3 tyX3_ok nmX3 hown hK hP hD hS 0 rfl rfl 9 (by decide) (hts (.fieldLink RX3 47 "SlabHeapModel" "thrown" "I") (by decide +kernel)) (fun _ h9 => h9) rfl (by decide +kernel) rfl rfl (Nat.le_of_ble_eq_true rfl) dX3_block_2 (fun H locs hP hD hS => ?_)
  have hP : va_P D vwCl (xM g k mw mk ml mq mwt mn mt mcl mcr 0 mkind msort mfirst mblk mfree mfnd mfm msn) H := hP
  have hD : va_D A (xM g k mw mk ml mq mwt mn mt mcl mcr 0 mkind msort mfirst mblk mfree mfnd mfm msn) := hD
  refine lv_aload_n hx hb dX3_block_5 rfl (lv_at hl 0 rfl) ?_
  refine lv_iload_n hx hb dX3_block_6 rfl (lv_at hl 1 rfl) ?_
  refine pcall (va_runV (As := [.int x1]) (rest := []) hC (c_X3_isBlock l D g k mw mk ml mq mwt mn mt mcl mcr 0 mkind msort mfirst mblk mfree mfnd mfm msn x1 _ hw H) (cwV 1 hts gX3_block_X3_isBlock rfl rfl rfl (by decide +kernel) ⟨Nat.le_of_ble_eq_true rfl, Nat.le_of_ble_eq_true rfl⟩) (preV_p (va_recv hK hP (ci := 3) (q0 := 0) rfl rfl) hP hK hZ hS) rfl rfl hl.1 rfl (lv_room (Nat.le_of_ble_eq_true rfl)) dX3_block_7 ⟨Nat.le_of_ble_eq_true rfl, Nat.le_of_ble_eq_true rfl⟩) (fun r_1 hw => ?_)
  refine lv_if_ne (tgt := 15) hx hb dX3_block_10 (by decide) (fun c_2 => ?_) (fun c_2 => ?_)
  · have hw := hw.1 c_2
    refine lv_aload_n hx hb dX3_block_15 rfl (lv_at hl 0 rfl) ?_
    refine lv_iload_n hx hb dX3_block_16 rfl (lv_at hl 1 rfl) ?_
    refine pcall (va_runV (As := [.int x1]) (rest := []) hC (c_X3_sizeAt l D g k mw mk ml mq mwt mn mt mcl mcr 0 mkind msort mfirst mblk mfree mfnd mfm msn x1 _ hw H) (cwV 1 hts gX3_block_X3_sizeAt rfl rfl rfl (by decide +kernel) ⟨Nat.le_of_ble_eq_true rfl, Nat.le_of_ble_eq_true rfl⟩) (preV_p (va_recv hK hP (ci := 3) (q0 := 0) rfl rfl) hP hK hZ hS) rfl rfl hl.1 rfl (lv_room (Nat.le_of_ble_eq_true rfl)) dX3_block_17 ⟨Nat.le_of_ble_eq_true rfl, Nat.le_of_ble_eq_true rfl⟩) (fun r_3 hw => ?_)
    refine lv_iconst (v := 1) hx hb dX3_block_20 (by decide) ?_
    refine lv_iadd hx hb dX3_block_21 ?_
    refine lv_topi (fun x3_4 ex3_4 => ?_)
    have hw := hw x3_4 ex3_4
    refine lv_istore_n (lv' := [(3, .int x3_4), (0, .ref (g 0)), (1, .int x1), (2, .int x2)]) hx hb dX3_block_22 rfl hl (by decide) rfl (fun ls hl => ?_)
    refine lv_iload_n hx hb dX3_block_23 rfl (lv_at hl 3 rfl) ?_
    by_cases c_5 : x2 < 0
    · have hw := hw.1 c_5
      refine lv_tableOut (tgt := 98) hx hb dX3_block_24 (Or.inl (by rw [Int32.lt_iff_toInt_lt] at c_5; exact c_5)) (by decide) ?_
      refine lv_iconst (v := (-1)) hx hb dX3_block_98 (by decide) ?_
      exact hret _ _ _ 0 _ _ hP hD hS dX3_block_99 hw
    have hw := hw.2 c_5
    by_cases c_6 : 4 < x2
    · have hw := hw.1 c_6
      refine lv_tableOut (tgt := 98) hx hb dX3_block_24 (Or.inr (by rw [Int32.lt_iff_toInt_lt] at c_6; exact c_6)) (by decide) ?_
      refine lv_iconst (v := (-1)) hx hb dX3_block_98 (by decide) ?_
      exact hret _ _ _ 0 _ _ hP hD hS dX3_block_99 hw
    have hw := hw.2 c_6
    obtain ⟨j_7, hj_7, ej_7⟩ := nI_of2 (x := x2) (M := 4) (n := 4) rfl c_5 (Int32.not_lt.mp c_6)
    rcases (show j_7 = 0 ∨ j_7 = 1 ∨ j_7 = 2 ∨ j_7 = 3 ∨ j_7 = 4 by omega) with rfl | rfl | rfl | rfl | rfl
    · have hw := hw.1 ej_7
      refine lv_tableIn (tgt := 60) hx hb dX3_block_24 (by rw [ej_7]; decide) (by rw [ej_7]; decide) (by rw [ej_7]; rfl) (by decide) ?_
      refine lv_iload_n hx hb dX3_block_60 rfl (lv_at hl 0 rfl) ?_
      refine lv_iconst (v := 1) hx hb dX3_block_61 (by decide) ?_
      refine lv_isub hx hb dX3_block_62 ?_
      exact hret _ _ _ 0 _ _ hP hD hS dX3_block_63 hw
    · have hw := hw.2.1 ej_7
      refine lv_tableIn (tgt := 64) hx hb dX3_block_24 (by rw [ej_7]; decide) (by rw [ej_7]; decide) (by rw [ej_7]; rfl) (by decide) ?_
      refine lv_aload_n hx hb dX3_block_64 rfl (lv_at hl 1 rfl) ?_
      refine lv_iload_n hx hb dX3_block_65 rfl (lv_at hl 2 rfl) ?_
      refine pcall (va_runV (As := [.int x1]) (rest := []) hC (c_X3_refsAt l D g k mw mk ml mq mwt mn mt mcl mcr 0 mkind msort mfirst mblk mfree mfnd mfm msn x1 _ hw H) (cwV 1 hts gX3_block_X3_refsAt rfl rfl rfl (by decide +kernel) ⟨Nat.le_of_ble_eq_true rfl, Nat.le_of_ble_eq_true rfl⟩) (preV_p (va_recv hK hP (ci := 3) (q0 := 0) rfl rfl) hP hK hZ hS) rfl rfl hl.1 rfl (lv_room (Nat.le_of_ble_eq_true rfl)) dX3_block_66 ⟨Nat.le_of_ble_eq_true rfl, Nat.le_of_ble_eq_true rfl⟩) (fun r_8 hw => ?_)
      exact hret _ _ _ 0 _ _ hP hD hS dX3_block_69 hw
    · have hw := hw.2.2.1 ej_7
      refine lv_tableIn (tgt := 70) hx hb dX3_block_24 (by rw [ej_7]; decide) (by rw [ej_7]; decide) (by rw [ej_7]; rfl) (by decide) ?_
      refine lv_aload_n hx hb dX3_block_70 rfl (lv_at hl 1 rfl) ?_
      refine lv_iload_n hx hb dX3_block_71 rfl (lv_at hl 0 rfl) ?_
      refine pcall (va_runV (As := [.int x3_4]) (rest := []) hC (c_X3_classOf l D g k mw mk ml mq mwt mn mt mcl mcr 0 mkind msort mfirst mblk mfree mfnd mfm msn x3_4 _ hw H) (cwV 1 hts gX3_block_X3_classOf rfl rfl rfl (by decide +kernel) ⟨Nat.le_of_ble_eq_true rfl, Nat.le_of_ble_eq_true rfl⟩) (preV_p (va_recv hK hP (ci := 3) (q0 := 0) rfl rfl) hP hK hZ hS) rfl rfl hl.1 rfl (lv_room (Nat.le_of_ble_eq_true rfl)) dX3_block_72 ⟨Nat.le_of_ble_eq_true rfl, Nat.le_of_ble_eq_true rfl⟩) (fun r_9 hw => ?_)
      exact hret _ _ _ 0 _ _ hP hD hS dX3_block_75 hw
    · have hw := hw.2.2.2.1 ej_7
      refine lv_tableIn (tgt := 76) hx hb dX3_block_24 (by rw [ej_7]; decide) (by rw [ej_7]; decide) (by rw [ej_7]; rfl) (by decide) ?_
      refine lv_iload_n hx hb dX3_block_76 rfl (lv_at hl 0 rfl) ?_
      refine lv_bipush (v := 8) hx hb dX3_block_77 (by decide) ?_
      refine lv_icmp_le (tgt := 90) hx hb dX3_block_79 (by decide) (fun c_10 => ?_) (fun c_10 => ?_)
      · have hw := hw.1 c_10
        refine lv_iconst (v := (-1)) hx hb dX3_block_90 (by decide) ?_
        exact hret _ _ _ 0 _ _ hP hD hS dX3_block_91 hw
      · have hw := hw.2 c_10
        refine lv_aload_n hx hb dX3_block_82 rfl (lv_at hl 1 rfl) ?_
        refine lv_iload_n hx hb dX3_block_83 rfl (lv_at hl 0 rfl) ?_
        refine pcall (va_runV (As := [.int x3_4]) (rest := []) hC (c_X3_orderOf l D g k mw mk ml mq mwt mn mt mcl mcr 0 mkind msort mfirst mblk mfree mfnd mfm msn x3_4 _ hw H) (cwV 1 hts gX3_block_X3_orderOf rfl rfl rfl (by decide +kernel) ⟨Nat.le_of_ble_eq_true rfl, Nat.le_of_ble_eq_true rfl⟩) (preV_p (va_recv hK hP (ci := 3) (q0 := 0) rfl rfl) hP hK hZ hS) rfl rfl hl.1 rfl (lv_room (Nat.le_of_ble_eq_true rfl)) dX3_block_84 ⟨Nat.le_of_ble_eq_true rfl, Nat.le_of_ble_eq_true rfl⟩) (fun r_11 hw => ?_)
        refine lv_goto (tgt := 91) hx hb dX3_block_87 (by decide) ?_
        exact hret _ _ _ 0 _ _ hP hD hS dX3_block_91 hw
    · have hw := hw.2.2.2.2 ej_7
      refine lv_tableIn (tgt := 92) hx hb dX3_block_24 (by rw [ej_7]; decide) (by rw [ej_7]; decide) (by rw [ej_7]; rfl) (by decide) ?_
      refine lv_aload_n hx hb dX3_block_92 rfl (lv_at hl 1 rfl) ?_
      refine lv_iload_n hx hb dX3_block_93 rfl (lv_at hl 2 rfl) ?_
      refine pcall (va_runV (As := [.int x1]) (rest := []) hC (c_X3_leading l D g k mw mk ml mq mwt mn mt mcl mcr 0 mkind msort mfirst mblk mfree mfnd mfm msn x1 _ hw H) (cwV 1 hts gX3_block_X3_leading rfl rfl rfl (by decide +kernel) ⟨Nat.le_of_ble_eq_true rfl, Nat.le_of_ble_eq_true rfl⟩) (preV_p (va_recv hK hP (ci := 3) (q0 := 0) rfl rfl) hP hK hZ hS) rfl rfl hl.1 rfl (lv_room (Nat.le_of_ble_eq_true rfl)) dX3_block_94 ⟨Nat.le_of_ble_eq_true rfl, Nat.le_of_ble_eq_true rfl⟩) (fun r_12 hw => ?_)
      exact hret _ _ _ 0 _ _ hP hD hS dX3_block_97 hw
  · have hw := hw.2 c_2
    refine lv_iconst (v := (-1)) hx hb dX3_block_13 (by decide) ?_
    exact hret _ _ _ 0 _ _ hP hD hS dX3_block_14 hw
-- X3_live
abbrev rmX3_live : Room := { frames := 0, cells := 0, slots := 0, locals := 0 }
set_option maxHeartbeats 4000000 in
set_option maxRecDepth 100000 in
theorem c_X3_live (l : Launch) (D : va_G) (g : Nat → Nat) (k : xC) (mw : Nat → Int32) (mk : Nat → Int32) (ml : Nat → Int32) (mq : Nat → Int32) (mwt : Nat → Int32) (mn : Int32) (mt : Int32) (mcl : Int32) (mcr : Int32) (mth : Int32) (mkind : Nat → Int32) (msort : Nat → Int32) (mfirst : Nat → Int32) (mblk : Nat → Int32) (mfree : Nat → Int32) (mfnd : Nat → Int32) (mfm : Int32) (msn : Nat → Int32) (x1 : Int32) (post : Int32 → Int32 → Prop) (hw : wX3_live post ml mth x1) : CMi l yX3_live wsX3_live rmX3_live D k [.ref (g 0), .int x1] (fun v : Int32 => (xM g k mw mk ml mq mwt mn mt mcl mcr v mkind msort mfirst mblk mfree mfnd mfm msn)) mth (fun r v => post r v) := by
  refine met_mi (cc := cX3_live) (nL := 4) (by decide) rfl (Nat.le_of_ble_eq_true rfl) ?_
  intro p e s m args below meth c Q A ls hC hP hD hA hK hZ hS hl hret
  obtain ⟨hx, hb, hml, hown, hts⟩ := id hC
  have hC : CallFix p m c cX3_live 4 s args wsX3_live RX3 := hC
  have hown : s.vm.findClass RX3 = some m.cls := hown
  have hl : lv_has ls 4 [(0, .ref (g 0)), (1, .int x1)] := hl
  have hP : va_P D vwCl (xM g k mw mk ml mq mwt mn mt mcl mcr mth mkind msort mfirst mblk mfree mfnd mfm msn) s.heap := hP
  have hD : va_D A (xM g k mw mk ml mq mwt mn mt mcl mcr mth mkind msort mfirst mblk mfree mfnd mfm msn) := hD
  have hinX3 : ∀ w ∈ wsX30, w ∈ wsX3_live := fun _ h => List.mem_cons_of_mem _ (List.mem_append_right _ h)
  have B10 : ∀ (fu : Nat), ∀ (x2 : Int32), ∀ (x3 : Int32), ∀ (mth : Int32), ∀ (H : Heap) (locs : List Loc), va_P D vwCl (xM g k mw mk ml mq mwt mn mt mcl mcr mth mkind msort mfirst mblk mfree mfnd mfm msn) H → va_D A (xM g k mw mk ml mq mwt mn mt mcl mcr mth mkind msort mfirst mblk mfree mfnd mfm msn) → va_S A s.heap H locs → ∀ (ls : Array Slot), lv_has ls 4 [(0, .ref (g 0)), (2, .int x2), (3, .int x3)] → wX3_live_10 post ml fu x2 x3 mth → W p l e rmX3_live s m args below meth c H locs 0 0 Q (F0 m 10 ls []) := by
    intro  fu
    induction fu with
    | zero =>
      intro x2 x3 mth H locs hP hD hS ls hl hw
      exact absurd hw (by unfold wX3_live_10; exact fun q => q)
    | succ n ih =>
      intro x2 x3 mth H locs hP hD hS ls hl hw
      unfold wX3_live_10 at hw
      refine lv_iload_n hx hb dX3_live_10 rfl (lv_at hl 2 rfl) ?_
      refine lv_sipush (v := 4096) hx hb dX3_live_11 (by decide) ?_
      refine lv_icmp_ge (tgt := 48) hx hb dX3_live_14 (by decide) (fun c_1 => ?_) (fun c_1 => ?_)
      · have hw := hw.1 c_1
        refine lv_iconst (v := (-1)) hx hb dX3_live_48 (by decide) ?_
        exact hret _ _ _ mth _ _ hP hD hS dX3_live_49 hw
      · have hw := hw.2 c_1
        refine lv_iload_n hx hb dX3_live_17 rfl (lv_at hl 1 rfl) ?_
        refine lv_if_lt (tgt := 48) hx hb dX3_live_18 (by decide) (fun c_2 => ?_) (fun c_2 => ?_)
        · have hw := hw.1 c_2
          refine lv_iconst (v := (-1)) hx hb dX3_live_48 (by decide) ?_
          exact hret _ _ _ mth _ _ hP hD hS dX3_live_49 hw
        · have hw := hw.2 c_2
          refine lv_aload_n hx hb dX3_live_21 rfl (lv_at hl 0 rfl) ?_
          refine va_get (D := D) (ci := 3) (v := .ref (g 3)) (C := RX3) (T := TX3) (N := 18) hx hb hts hinX3 hown hK hP 0 rfl rfl 2 (by decide) (hts (.fieldLink RX3 16 "SlabHeapModel" "isLive" "[Z") (by decide +kernel)) (fun _ h9 => h9) rfl dX3_live_22 ?_
          refine lv_iload_n hx hb dX3_live_25 rfl (lv_at hl 2 rfl) ?_
          obtain ⟨h_3, hw⟩ := hw
          refine va_zald hx hb hK hP 3 1 rfl rfl h_3 dX3_live_26 ?_
          refine lv_if_ne (tgt := 33) hx hb dX3_live_27 (by decide) (fun c_4 => ?_) (fun c_4 => ?_)
          · have hw := hw.1 c_4
            refine lv_iload_n hx hb dX3_live_33 rfl (lv_at hl 1 rfl) ?_
            refine lv_if_ne (tgt := 39) hx hb dX3_live_34 (by decide) (fun c_5 => ?_) (fun c_5 => ?_)
            · have hw := hw.1 c_5
              obtain ⟨x2_6, ex2_6⟩ : ∃ y : Int32, y = x2 + (-1) := ⟨_, rfl⟩
              have hw := hw x2_6 ex2_6
              refine lv_iinc (v := x2_6) (lv' := [(2, .int x2_6), (0, .ref (g 0)), (3, .int x3)]) hx hb dX3_live_39 hl (k := 1) rfl (by rw [ex2_6]; rfl) (by decide) rfl (fun ls hl => ?_)
              obtain ⟨x3_7, ex3_7⟩ : ∃ y : Int32, y = x3 + 1 := ⟨_, rfl⟩
              have hw := hw x3_7 ex3_7
              refine lv_iinc (v := x3_7) (lv' := [(3, .int x3_7), (2, .int x2_6), (0, .ref (g 0))]) hx hb dX3_live_42 hl (k := 2) rfl (by rw [ex3_7]; rfl) (by decide) rfl (fun ls hl => ?_)
              refine lv_goto (tgt := 10) hx hb dX3_live_45 (by decide) ?_
              exact ih x2_6 x3_7 mth H locs hP hD hS ls (lv_sub hl [2, 1, 0] rfl) hw
            · have hw := hw.2 c_5
              refine lv_iload_n hx hb dX3_live_37 rfl (lv_at hl 2 rfl) ?_
              exact hret _ _ _ mth _ _ hP hD hS dX3_live_38 hw
          · have hw := hw.2 c_4
            refine lv_goto (tgt := 42) hx hb dX3_live_30 (by decide) ?_
            obtain ⟨x3_8, ex3_8⟩ : ∃ y : Int32, y = x3 + 1 := ⟨_, rfl⟩
            have hw := hw x3_8 ex3_8
            refine lv_iinc (v := x3_8) (lv' := [(3, .int x3_8), (0, .ref (g 0)), (2, .int x2)]) hx hb dX3_live_42 hl (k := 2) rfl (by rw [ex3_8]; rfl) (by decide) rfl (fun ls hl => ?_)
            refine lv_goto (tgt := 10) hx hb dX3_live_45 (by decide) ?_
            exact ih x2 x3_8 mth H locs hP hD hS ls (lv_sub hl [1, 2, 0] rfl) hw
  unfold wX3_live at hw
  suffices main : ∀ (H : Heap) (locs : List Loc), va_P D vwCl (xM g k mw mk ml mq mwt mn mt mcl mcr mth mkind msort mfirst mblk mfree mfnd mfm msn) H → va_D A (xM g k mw mk ml mq mwt mn mt mcl mcr mth mkind msort mfirst mblk mfree mfnd mfm msn) → va_S A s.heap H locs → W p l e rmX3_live s m args below meth c H locs 0 0 Q (F0 m 0 ls []) from main _ _ hP hD hS
  intro H locs hP hD hS
  refine lv_aload_n hx hb dX3_live_0 rfl (lv_at hl 0 rfl) ?_
  refine lv_iconst (v := 0) hx hb dX3_live_1 (by decide) ?_
  refine va_put (D := D) (ci := 3) (v := .int 0) (ty := .int) (C := RX3) (T := TX3) (N := 18) hx hb hts hinX3 tyX3 tyX3_ok nmX3 hown hK hP hD hS 0 rfl rfl 9 (by decide) (hts (.fieldLink RX3 47 "SlabHeapModel" "thrown" "I") (by decide +kernel)) (fun _ h9 => h9) rfl (by decide +kernel) rfl rfl (Nat.le_of_ble_eq_true rfl) dX3_live_2 (fun H locs hP hD hS => ?_)
  have hP : va_P D vwCl (xM g k mw mk ml mq mwt mn mt mcl mcr 0 mkind msort mfirst mblk mfree mfnd mfm msn) H := hP
  have hD : va_D A (xM g k mw mk ml mq mwt mn mt mcl mcr 0 mkind msort mfirst mblk mfree mfnd mfm msn) := hD
  refine lv_iload_n hx hb dX3_live_5 rfl (lv_at hl 1 rfl) ?_
  refine lv_istore_n (lv' := [(2, .int x1), (0, .ref (g 0)), (1, .int x1)]) hx hb dX3_live_6 rfl hl (by decide) rfl (fun ls hl => ?_)
  refine lv_bipush (v := 16) hx hb dX3_live_7 (by decide) ?_
  refine lv_istore_n (lv' := [(3, .int 16), (2, .int x1), (0, .ref (g 0)), (1, .int x1)]) hx hb dX3_live_9 rfl hl (by decide) rfl (fun ls hl => ?_)
  obtain ⟨fu_9, hw⟩ := hw
  exact B10  fu_9 x1 16 0 H locs hP hD hS ls (lv_sub hl [2, 1, 0] rfl) hw
-- X3_page
abbrev rmX3_page : Room := { frames := 2, cells := 0, slots := 0, locals := 48 }
set_option maxHeartbeats 4000000 in
set_option maxRecDepth 100000 in
theorem c_X3_page (l : Launch) (D : va_G) (g : Nat → Nat) (k : xC) (mw : Nat → Int32) (mk : Nat → Int32) (ml : Nat → Int32) (mq : Nat → Int32) (mwt : Nat → Int32) (mn : Int32) (mt : Int32) (mcl : Int32) (mcr : Int32) (mth : Int32) (mkind : Nat → Int32) (msort : Nat → Int32) (mfirst : Nat → Int32) (mblk : Nat → Int32) (mfree : Nat → Int32) (mfnd : Nat → Int32) (mfm : Int32) (msn : Nat → Int32) (x1 : Int32) (x2 : Int32) (post : Int32 → Int32 → (Nat → Int32) → (Nat → Int32) → (Nat → Int32) → (Nat → Int32) → (Nat → Int32) → Prop) (hw : wX3_page post mw ml mth mkind msort mfirst mblk mfree x1 x2) : CMi l yX3_page wsX3_page rmX3_page D k [.ref (g 0), .int x1, .int x2] (fun v : Int32 × (Nat → Int32) × (Nat → Int32) × (Nat → Int32) × (Nat → Int32) × (Nat → Int32) => (xM g k mw mk ml mq mwt mn mt mcl mcr (v.1) (v.2.1) (v.2.2.1) (v.2.2.2.1) (v.2.2.2.2.1) (v.2.2.2.2.2) mfnd mfm msn)) (mth, mkind, msort, mfirst, mblk, mfree) (fun r v => post r (v.1) (v.2.1) (v.2.2.1) (v.2.2.2.1) (v.2.2.2.2.1) (v.2.2.2.2.2)) := by
  refine met_mi (cc := cX3_page) (nL := 3) (by decide) rfl (Nat.le_of_ble_eq_true rfl) ?_
  intro p e s m args below meth c Q A ls hC hP hD hA hK hZ hS hl hret
  obtain ⟨hx, hb, hml, hown, hts⟩ := id hC
  have hC : CallFix p m c cX3_page 3 s args wsX3_page RX3 := hC
  have hown : s.vm.findClass RX3 = some m.cls := hown
  have hl : lv_has ls 3 [(0, .ref (g 0)), (1, .int x1), (2, .int x2)] := hl
  have hP : va_P D vwCl (xM g k mw mk ml mq mwt mn mt mcl mcr mth mkind msort mfirst mblk mfree mfnd mfm msn) s.heap := hP
  have hD : va_D A (xM g k mw mk ml mq mwt mn mt mcl mcr mth mkind msort mfirst mblk mfree mfnd mfm msn) := hD
  have hinX3 : ∀ w ∈ wsX30, w ∈ wsX3_page := fun _ h => List.mem_cons_of_mem _ (List.mem_append_right _ h)
  unfold wX3_page at hw
  suffices main : ∀ (H : Heap) (locs : List Loc), va_P D vwCl (xM g k mw mk ml mq mwt mn mt mcl mcr mth mkind msort mfirst mblk mfree mfnd mfm msn) H → va_D A (xM g k mw mk ml mq mwt mn mt mcl mcr mth mkind msort mfirst mblk mfree mfnd mfm msn) → va_S A s.heap H locs → W p l e rmX3_page s m args below meth c H locs 0 0 Q (F0 m 0 ls []) from main _ _ hP hD hS
  intro H locs hP hD hS
  refine lv_aload_n hx hb dX3_page_0 rfl (lv_at hl 0 rfl) ?_
  refine lv_iconst (v := 0) hx hb dX3_page_1 (by decide) ?_
  refine va_put (D := D) (ci := 3) (v := .int 0) (ty := .int) (C := RX3) (T := TX3) (N := 18) hx hb hts hinX3 tyX3 tyX3_ok nmX3 hown hK hP hD hS 0 rfl rfl 9 (by decide) (hts (.fieldLink RX3 47 "SlabHeapModel" "thrown" "I") (by decide +kernel)) (fun _ h9 => h9) rfl (by decide +kernel) rfl rfl (Nat.le_of_ble_eq_true rfl) dX3_page_2 (fun H locs hP hD hS => ?_)
  have hP : va_P D vwCl (xM g k mw mk ml mq mwt mn mt mcl mcr 0 mkind msort mfirst mblk mfree mfnd mfm msn) H := hP
  have hD : va_D A (xM g k mw mk ml mq mwt mn mt mcl mcr 0 mkind msort mfirst mblk mfree mfnd mfm msn) := hD
  refine lv_aload_n hx hb dX3_page_5 rfl (lv_at hl 0 rfl) ?_
  refine lv_iload_n hx hb dX3_page_6 rfl (lv_at hl 1 rfl) ?_
  refine lv_iconst (v := 0) hx hb dX3_page_7 (by decide) ?_
  refine lv_sipush (v := 255) hx hb dX3_page_8 (by decide) ?_
  refine pcall (va_runV (As := [.int x1, .int 0, .int 255]) (rest := []) hC (c_X3_is l D g k mw mk ml mq mwt mn mt mcl mcr 0 mkind msort mfirst mblk mfree mfnd mfm msn x1 0 255 _ hw H) (cwV 3 hts gX3_page_X3_is rfl rfl rfl (by decide +kernel) ⟨Nat.le_of_ble_eq_true rfl, Nat.le_of_ble_eq_true rfl⟩) (preV_p (va_recv hK hP (ci := 3) (q0 := 0) rfl rfl) hP hK hZ hS) rfl rfl hl.1 rfl (lv_room (Nat.le_of_ble_eq_true rfl)) dX3_page_11 ⟨Nat.le_of_ble_eq_true rfl, Nat.le_of_ble_eq_true rfl⟩) (fun r_1 hw => ?_)
  refine lv_if_ne (tgt := 19) hx hb dX3_page_14 (by decide) (fun c_2 => ?_) (fun c_2 => ?_)
  · have hw := hw.1 c_2
    refine lv_aload_n hx hb dX3_page_19 rfl (lv_at hl 0 rfl) ?_
    refine vcall (wr := []) (va_runV (As := []) (rest := []) hC (c_X3_map l D g k mw mk ml mq mwt mn mt mcl mcr 0 mkind msort mfirst mblk mfree mfnd mfm msn _ hw H.size) (cwV 0 hts gX3_page_X3_map rfl rfl rfl (by decide +kernel) ⟨Nat.le_of_ble_eq_true rfl, Nat.le_of_ble_eq_true rfl⟩) (preV_m (va_recv hK hP (ci := 3) (q0 := 0) rfl rfl) hP hD hA hK hZ hS [0, 1, 2, 3, 4, 5, 6, 7, 8, 9, 10, 11, 12] rfl rfl (by decide)) rfl rfl hl.1 rfl (lv_room (Nat.le_of_ble_eq_true rfl)) dX3_page_20 ⟨Nat.le_of_ble_eq_true rfl, Nat.le_of_ble_eq_true rfl⟩) hP hD hA hS [0, 1, 2, 3, 4, 5, 6, 7, 8, 9, 10, 11, 12] [] rfl rfl (by decide) (by decide) (fun u' H locs hw hP hD hS => ?_)
    obtain ⟨mkind_3, msort_4, mfirst_5, mblk_6, mfree_7⟩ := u'
    try dsimp only at hw
    have hP : va_P D vwCl (xM g k mw mk ml mq mwt mn mt mcl mcr 0 mkind_3 msort_4 mfirst_5 mblk_6 mfree_7 mfnd mfm msn) H := hP
    have hD : va_D A (xM g k mw mk ml mq mwt mn mt mcl mcr 0 mkind_3 msort_4 mfirst_5 mblk_6 mfree_7 mfnd mfm msn) := hD
    refine lv_iload_n hx hb dX3_page_23 rfl (lv_at hl 2 rfl) ?_
    by_cases c_8 : x2 < 0
    · have hw := hw.1 c_8
      refine lv_tableOut (tgt := 84) hx hb dX3_page_24 (Or.inl (by rw [Int32.lt_iff_toInt_lt] at c_8; exact c_8)) (by decide) ?_
      refine lv_iconst (v := (-1)) hx hb dX3_page_84 (by decide) ?_
      exact hret _ _ _ (0, mkind_3, msort_4, mfirst_5, mblk_6, mfree_7) _ _ hP hD hS dX3_page_85 hw
    have hw := hw.2 c_8
    by_cases c_9 : 3 < x2
    · have hw := hw.1 c_9
      refine lv_tableOut (tgt := 84) hx hb dX3_page_24 (Or.inr (by rw [Int32.lt_iff_toInt_lt] at c_9; exact c_9)) (by decide) ?_
      refine lv_iconst (v := (-1)) hx hb dX3_page_84 (by decide) ?_
      exact hret _ _ _ (0, mkind_3, msort_4, mfirst_5, mblk_6, mfree_7) _ _ hP hD hS dX3_page_85 hw
    have hw := hw.2 c_9
    obtain ⟨j_10, hj_10, ej_10⟩ := nI_of2 (x := x2) (M := 3) (n := 3) rfl c_8 (Int32.not_lt.mp c_9)
    rcases (show j_10 = 0 ∨ j_10 = 1 ∨ j_10 = 2 ∨ j_10 = 3 by omega) with rfl | rfl | rfl | rfl
    · have hw := hw.1 ej_10
      refine lv_tableIn (tgt := 56) hx hb dX3_page_24 (by rw [ej_10]; decide) (by rw [ej_10]; decide) (by rw [ej_10]; rfl) (by decide) ?_
      refine lv_aload_n hx hb dX3_page_56 rfl (lv_at hl 0 rfl) ?_
      refine va_get (D := D) (ci := 3) (v := .ref (g 6)) (C := RX3) (T := TX3) (N := 18) hx hb hts hinX3 hown hK hP 0 rfl rfl 10 (by decide) (hts (.fieldLink RX3 26 "SlabHeapModel" "kind" "[I") (by decide +kernel)) (fun _ h9 => h9) rfl dX3_page_57 ?_
      refine lv_iload_n hx hb dX3_page_60 rfl (lv_at hl 1 rfl) ?_
      obtain ⟨h_11, hw⟩ := hw
      refine va_iald hx hb hK hP 6 0 rfl rfl h_11 dX3_page_61 ?_
      exact hret _ _ _ (0, mkind_3, msort_4, mfirst_5, mblk_6, mfree_7) _ _ hP hD hS dX3_page_62 hw
    · have hw := hw.2.1 ej_10
      refine lv_tableIn (tgt := 63) hx hb dX3_page_24 (by rw [ej_10]; decide) (by rw [ej_10]; decide) (by rw [ej_10]; rfl) (by decide) ?_
      refine lv_aload_n hx hb dX3_page_63 rfl (lv_at hl 0 rfl) ?_
      refine va_get (D := D) (ci := 3) (v := .ref (g 7)) (C := RX3) (T := TX3) (N := 18) hx hb hts hinX3 hown hK hP 0 rfl rfl 11 (by decide) (hts (.fieldLink RX3 29 "SlabHeapModel" "sort" "[I") (by decide +kernel)) (fun _ h9 => h9) rfl dX3_page_64 ?_
      refine lv_iload_n hx hb dX3_page_67 rfl (lv_at hl 1 rfl) ?_
      obtain ⟨h_12, hw⟩ := hw
      refine va_iald hx hb hK hP 7 0 rfl rfl h_12 dX3_page_68 ?_
      exact hret _ _ _ (0, mkind_3, msort_4, mfirst_5, mblk_6, mfree_7) _ _ hP hD hS dX3_page_69 hw
    · have hw := hw.2.2.1 ej_10
      refine lv_tableIn (tgt := 70) hx hb dX3_page_24 (by rw [ej_10]; decide) (by rw [ej_10]; decide) (by rw [ej_10]; rfl) (by decide) ?_
      refine lv_aload_n hx hb dX3_page_70 rfl (lv_at hl 0 rfl) ?_
      refine va_get (D := D) (ci := 3) (v := .ref (g 9)) (C := RX3) (T := TX3) (N := 18) hx hb hts hinX3 hown hK hP 0 rfl rfl 13 (by decide) (hts (.fieldLink RX3 35 "SlabHeapModel" "blocks" "[I") (by decide +kernel)) (fun _ h9 => h9) rfl dX3_page_71 ?_
      refine lv_iload_n hx hb dX3_page_74 rfl (lv_at hl 1 rfl) ?_
      obtain ⟨h_13, hw⟩ := hw
      refine va_iald hx hb hK hP 9 0 rfl rfl h_13 dX3_page_75 ?_
      exact hret _ _ _ (0, mkind_3, msort_4, mfirst_5, mblk_6, mfree_7) _ _ hP hD hS dX3_page_76 hw
    · have hw := hw.2.2.2 ej_10
      refine lv_tableIn (tgt := 77) hx hb dX3_page_24 (by rw [ej_10]; decide) (by rw [ej_10]; decide) (by rw [ej_10]; rfl) (by decide) ?_
      refine lv_aload_n hx hb dX3_page_77 rfl (lv_at hl 0 rfl) ?_
      refine va_get (D := D) (ci := 3) (v := .ref (g 8)) (C := RX3) (T := TX3) (N := 18) hx hb hts hinX3 hown hK hP 0 rfl rfl 12 (by decide) (hts (.fieldLink RX3 32 "SlabHeapModel" "first" "[I") (by decide +kernel)) (fun _ h9 => h9) rfl dX3_page_78 ?_
      refine lv_iload_n hx hb dX3_page_81 rfl (lv_at hl 1 rfl) ?_
      obtain ⟨h_14, hw⟩ := hw
      refine va_iald hx hb hK hP 8 0 rfl rfl h_14 dX3_page_82 ?_
      exact hret _ _ _ (0, mkind_3, msort_4, mfirst_5, mblk_6, mfree_7) _ _ hP hD hS dX3_page_83 hw
  · have hw := hw.2 c_2
    refine lv_iconst (v := (-1)) hx hb dX3_page_17 (by decide) ?_
    exact hret _ _ _ (0, mkind, msort, mfirst, mblk, mfree) _ _ hP hD hS dX3_page_18 hw
-- X3_extents
abbrev rmX3_extents : Room := { frames := 2, cells := 0, slots := 0, locals := 48 }
set_option maxHeartbeats 4000000 in
set_option maxRecDepth 100000 in
theorem c_X3_extents (l : Launch) (D : va_G) (g : Nat → Nat) (k : xC) (mw : Nat → Int32) (mk : Nat → Int32) (ml : Nat → Int32) (mq : Nat → Int32) (mwt : Nat → Int32) (mn : Int32) (mt : Int32) (mcl : Int32) (mcr : Int32) (mth : Int32) (mkind : Nat → Int32) (msort : Nat → Int32) (mfirst : Nat → Int32) (mblk : Nat → Int32) (mfree : Nat → Int32) (mfnd : Nat → Int32) (mfm : Int32) (msn : Nat → Int32) (x1 : Int32) (post : Int32 → Int32 → (Nat → Int32) → (Nat → Int32) → (Nat → Int32) → (Nat → Int32) → (Nat → Int32) → Prop) (hw : wX3_extents post mw ml mth mkind msort mfirst mblk mfree x1) : CMi l yX3_extents wsX3_extents rmX3_extents D k [.ref (g 0), .int x1] (fun v : Int32 × (Nat → Int32) × (Nat → Int32) × (Nat → Int32) × (Nat → Int32) × (Nat → Int32) => (xM g k mw mk ml mq mwt mn mt mcl mcr (v.1) (v.2.1) (v.2.2.1) (v.2.2.2.1) (v.2.2.2.2.1) (v.2.2.2.2.2) mfnd mfm msn)) (mth, mkind, msort, mfirst, mblk, mfree) (fun r v => post r (v.1) (v.2.1) (v.2.2.1) (v.2.2.2.1) (v.2.2.2.2.1) (v.2.2.2.2.2)) := by
  refine met_mi (cc := cX3_extents) (nL := 4) (by decide) rfl (Nat.le_of_ble_eq_true rfl) ?_
  intro p e s m args below meth c Q A ls hC hP hD hA hK hZ hS hl hret
  obtain ⟨hx, hb, hml, hown, hts⟩ := id hC
  have hC : CallFix p m c cX3_extents 4 s args wsX3_extents RX3 := hC
  have hown : s.vm.findClass RX3 = some m.cls := hown
  have hl : lv_has ls 4 [(0, .ref (g 0)), (1, .int x1)] := hl
  have hP : va_P D vwCl (xM g k mw mk ml mq mwt mn mt mcl mcr mth mkind msort mfirst mblk mfree mfnd mfm msn) s.heap := hP
  have hD : va_D A (xM g k mw mk ml mq mwt mn mt mcl mcr mth mkind msort mfirst mblk mfree mfnd mfm msn) := hD
  have hinX3 : ∀ w ∈ wsX30, w ∈ wsX3_extents := fun _ h => List.mem_cons_of_mem _ (List.mem_append_right _ h)
  have B26 : ∀ (fu : Nat), ∀ (x1 : Int32), ∀ (x2 : Int32), ∀ (x3 : Int32), ∀ (mth : Int32), ∀ (mkind : Nat → Int32), ∀ (msort : Nat → Int32), ∀ (mfirst : Nat → Int32), ∀ (mblk : Nat → Int32), ∀ (mfree : Nat → Int32), ∀ (H : Heap) (locs : List Loc), va_P D vwCl (xM g k mw mk ml mq mwt mn mt mcl mcr mth mkind msort mfirst mblk mfree mfnd mfm msn) H → va_D A (xM g k mw mk ml mq mwt mn mt mcl mcr mth mkind msort mfirst mblk mfree mfnd mfm msn) → va_S A s.heap H locs → ∀ (ls : Array Slot), lv_has ls 4 [(0, .ref (g 0)), (1, .int x1), (2, .int x2), (3, .int x3)] → wX3_extents_26 post mw ml fu x1 x2 x3 mth mkind msort mfirst mblk mfree → W p l e rmX3_extents s m args below meth c H locs 0 0 Q (F0 m 26 ls []) := by
    intro  fu
    induction fu with
    | zero =>
      intro x1 x2 x3 mth mkind msort mfirst mblk mfree H locs hP hD hS ls hl hw
      exact absurd hw (by unfold wX3_extents_26; exact fun q => q)
    | succ n ih =>
      intro x1 x2 x3 mth mkind msort mfirst mblk mfree H locs hP hD hS ls hl hw
      unfold wX3_extents_26 at hw
      refine lv_iload_n hx hb dX3_extents_26 rfl (lv_at hl 3 rfl) ?_
      refine lv_sipush (v := 256) hx hb dX3_extents_27 (by decide) ?_
      refine lv_icmp_ge (tgt := 67) hx hb dX3_extents_30 (by decide) (fun c_8 => ?_) (fun c_8 => ?_)
      · have hw := hw.1 c_8
        refine lv_iload_n hx hb dX3_extents_67 rfl (lv_at hl 2 rfl) ?_
        exact hret _ _ _ (mth, mkind, msort, mfirst, mblk, mfree) _ _ hP hD hS dX3_extents_68 hw
      · have hw := hw.2 c_8
        refine lv_iload_n hx hb dX3_extents_33 rfl (lv_at hl 2 rfl) ?_
        refine lv_aload_n hx hb dX3_extents_34 rfl (lv_at hl 0 rfl) ?_
        refine va_get (D := D) (ci := 3) (v := .ref (g 10)) (C := RX3) (T := TX3) (N := 18) hx hb hts hinX3 hown hK hP 0 rfl rfl 14 (by decide) (hts (.fieldLink RX3 38 "SlabHeapModel" "free" "[I") (by decide +kernel)) (fun _ h9 => h9) rfl dX3_extents_35 ?_
        refine lv_iload_n hx hb dX3_extents_38 rfl (lv_at hl 3 rfl) ?_
        obtain ⟨h_9, hw⟩ := hw
        refine va_iald hx hb hK hP 10 0 rfl rfl h_9 dX3_extents_39 ?_
        refine lv_iload_n hx hb dX3_extents_40 rfl (lv_at hl 1 rfl) ?_
        refine lv_icmp_ne (tgt := 58) hx hb dX3_extents_41 (by decide) (fun c_10 => ?_) (fun c_10 => ?_)
        · have hw := hw.1 c_10
          refine lv_iconst (v := 0) hx hb dX3_extents_58 (by decide) ?_
          refine lv_iadd hx hb dX3_extents_59 ?_
          refine lv_topi (fun x2_11 ex2_11 => ?_)
          have hw := hw x2_11 ex2_11
          refine lv_istore_n (lv' := [(2, .int x2_11), (0, .ref (g 0)), (1, .int x1), (3, .int x3)]) hx hb dX3_extents_60 rfl hl (by decide) rfl (fun ls hl => ?_)
          obtain ⟨x3_12, ex3_12⟩ : ∃ y : Int32, y = x3 + 1 := ⟨_, rfl⟩
          have hw := hw x3_12 ex3_12
          refine lv_iinc (v := x3_12) (lv' := [(3, .int x3_12), (2, .int x2_11), (0, .ref (g 0)), (1, .int x1)]) hx hb dX3_extents_61 hl (k := 3) rfl (by rw [ex3_12]; rfl) (by decide) rfl (fun ls hl => ?_)
          refine lv_goto (tgt := 26) hx hb dX3_extents_64 (by decide) ?_
          exact ih x1 x2_11 x3_12 mth mkind msort mfirst mblk mfree H locs hP hD hS ls (lv_sub hl [2, 3, 1, 0] rfl) hw
        · have hw := hw.2 c_10
          refine lv_aload_n hx hb dX3_extents_44 rfl (lv_at hl 0 rfl) ?_
          refine va_get (D := D) (ci := 3) (v := .ref (g 8)) (C := RX3) (T := TX3) (N := 18) hx hb hts hinX3 hown hK hP 0 rfl rfl 12 (by decide) (hts (.fieldLink RX3 32 "SlabHeapModel" "first" "[I") (by decide +kernel)) (fun _ h9 => h9) rfl dX3_extents_45 ?_
          refine lv_iload_n hx hb dX3_extents_48 rfl (lv_at hl 3 rfl) ?_
          obtain ⟨h_13, hw⟩ := hw
          refine va_iald hx hb hK hP 8 0 rfl rfl h_13 dX3_extents_49 ?_
          refine lv_iload_n hx hb dX3_extents_50 rfl (lv_at hl 3 rfl) ?_
          refine lv_icmp_ne (tgt := 58) hx hb dX3_extents_51 (by decide) (fun c_14 => ?_) (fun c_14 => ?_)
          · have hw := hw.1 c_14
            refine lv_iconst (v := 0) hx hb dX3_extents_58 (by decide) ?_
            refine lv_iadd hx hb dX3_extents_59 ?_
            refine lv_topi (fun x2_15 ex2_15 => ?_)
            have hw := hw x2_15 ex2_15
            refine lv_istore_n (lv' := [(2, .int x2_15), (0, .ref (g 0)), (1, .int x1), (3, .int x3)]) hx hb dX3_extents_60 rfl hl (by decide) rfl (fun ls hl => ?_)
            obtain ⟨x3_16, ex3_16⟩ : ∃ y : Int32, y = x3 + 1 := ⟨_, rfl⟩
            have hw := hw x3_16 ex3_16
            refine lv_iinc (v := x3_16) (lv' := [(3, .int x3_16), (2, .int x2_15), (0, .ref (g 0)), (1, .int x1)]) hx hb dX3_extents_61 hl (k := 3) rfl (by rw [ex3_16]; rfl) (by decide) rfl (fun ls hl => ?_)
            refine lv_goto (tgt := 26) hx hb dX3_extents_64 (by decide) ?_
            exact ih x1 x2_15 x3_16 mth mkind msort mfirst mblk mfree H locs hP hD hS ls (lv_sub hl [2, 3, 1, 0] rfl) hw
          · have hw := hw.2 c_14
            refine lv_iconst (v := 1) hx hb dX3_extents_54 (by decide) ?_
            refine lv_goto (tgt := 59) hx hb dX3_extents_55 (by decide) ?_
            refine lv_iadd hx hb dX3_extents_59 ?_
            refine lv_topi (fun x2_17 ex2_17 => ?_)
            have hw := hw x2_17 ex2_17
            refine lv_istore_n (lv' := [(2, .int x2_17), (0, .ref (g 0)), (1, .int x1), (3, .int x3)]) hx hb dX3_extents_60 rfl hl (by decide) rfl (fun ls hl => ?_)
            obtain ⟨x3_18, ex3_18⟩ : ∃ y : Int32, y = x3 + 1 := ⟨_, rfl⟩
            have hw := hw x3_18 ex3_18
            refine lv_iinc (v := x3_18) (lv' := [(3, .int x3_18), (2, .int x2_17), (0, .ref (g 0)), (1, .int x1)]) hx hb dX3_extents_61 hl (k := 3) rfl (by rw [ex3_18]; rfl) (by decide) rfl (fun ls hl => ?_)
            refine lv_goto (tgt := 26) hx hb dX3_extents_64 (by decide) ?_
            exact ih x1 x2_17 x3_18 mth mkind msort mfirst mblk mfree H locs hP hD hS ls (lv_sub hl [2, 3, 1, 0] rfl) hw
  unfold wX3_extents at hw
  suffices main : ∀ (H : Heap) (locs : List Loc), va_P D vwCl (xM g k mw mk ml mq mwt mn mt mcl mcr mth mkind msort mfirst mblk mfree mfnd mfm msn) H → va_D A (xM g k mw mk ml mq mwt mn mt mcl mcr mth mkind msort mfirst mblk mfree mfnd mfm msn) → va_S A s.heap H locs → W p l e rmX3_extents s m args below meth c H locs 0 0 Q (F0 m 0 ls []) from main _ _ hP hD hS
  intro H locs hP hD hS
  refine lv_aload_n hx hb dX3_extents_0 rfl (lv_at hl 0 rfl) ?_
  refine lv_iconst (v := 0) hx hb dX3_extents_1 (by decide) ?_
  refine va_put (D := D) (ci := 3) (v := .int 0) (ty := .int) (C := RX3) (T := TX3) (N := 18) hx hb hts hinX3 tyX3 tyX3_ok nmX3 hown hK hP hD hS 0 rfl rfl 9 (by decide) (hts (.fieldLink RX3 47 "SlabHeapModel" "thrown" "I") (by decide +kernel)) (fun _ h9 => h9) rfl (by decide +kernel) rfl rfl (Nat.le_of_ble_eq_true rfl) dX3_extents_2 (fun H locs hP hD hS => ?_)
  have hP : va_P D vwCl (xM g k mw mk ml mq mwt mn mt mcl mcr 0 mkind msort mfirst mblk mfree mfnd mfm msn) H := hP
  have hD : va_D A (xM g k mw mk ml mq mwt mn mt mcl mcr 0 mkind msort mfirst mblk mfree mfnd mfm msn) := hD
  refine lv_aload_n hx hb dX3_extents_5 rfl (lv_at hl 0 rfl) ?_
  refine lv_iload_n hx hb dX3_extents_6 rfl (lv_at hl 1 rfl) ?_
  refine lv_iconst (v := 0) hx hb dX3_extents_7 (by decide) ?_
  refine lv_bipush (v := 8) hx hb dX3_extents_8 (by decide) ?_
  refine pcall (va_runV (As := [.int x1, .int 0, .int 8]) (rest := []) hC (c_X3_is l D g k mw mk ml mq mwt mn mt mcl mcr 0 mkind msort mfirst mblk mfree mfnd mfm msn x1 0 8 _ hw H) (cwV 3 hts gX3_extents_X3_is rfl rfl rfl (by decide +kernel) ⟨Nat.le_of_ble_eq_true rfl, Nat.le_of_ble_eq_true rfl⟩) (preV_p (va_recv hK hP (ci := 3) (q0 := 0) rfl rfl) hP hK hZ hS) rfl rfl hl.1 rfl (lv_room (Nat.le_of_ble_eq_true rfl)) dX3_extents_10 ⟨Nat.le_of_ble_eq_true rfl, Nat.le_of_ble_eq_true rfl⟩) (fun r_1 hw => ?_)
  refine lv_if_ne (tgt := 18) hx hb dX3_extents_13 (by decide) (fun c_2 => ?_) (fun c_2 => ?_)
  · have hw := hw.1 c_2
    refine lv_aload_n hx hb dX3_extents_18 rfl (lv_at hl 0 rfl) ?_
    refine vcall (wr := []) (va_runV (As := []) (rest := []) hC (c_X3_map l D g k mw mk ml mq mwt mn mt mcl mcr 0 mkind msort mfirst mblk mfree mfnd mfm msn _ hw H.size) (cwV 0 hts gX3_extents_X3_map rfl rfl rfl (by decide +kernel) ⟨Nat.le_of_ble_eq_true rfl, Nat.le_of_ble_eq_true rfl⟩) (preV_m (va_recv hK hP (ci := 3) (q0 := 0) rfl rfl) hP hD hA hK hZ hS [0, 1, 2, 3, 4, 5, 6, 7, 8, 9, 10, 11, 12] rfl rfl (by decide)) rfl rfl hl.1 rfl (lv_room (Nat.le_of_ble_eq_true rfl)) dX3_extents_19 ⟨Nat.le_of_ble_eq_true rfl, Nat.le_of_ble_eq_true rfl⟩) hP hD hA hS [0, 1, 2, 3, 4, 5, 6, 7, 8, 9, 10, 11, 12] [] rfl rfl (by decide) (by decide) (fun u' H locs hw hP hD hS => ?_)
    obtain ⟨mkind_3, msort_4, mfirst_5, mblk_6, mfree_7⟩ := u'
    try dsimp only at hw
    have hP : va_P D vwCl (xM g k mw mk ml mq mwt mn mt mcl mcr 0 mkind_3 msort_4 mfirst_5 mblk_6 mfree_7 mfnd mfm msn) H := hP
    have hD : va_D A (xM g k mw mk ml mq mwt mn mt mcl mcr 0 mkind_3 msort_4 mfirst_5 mblk_6 mfree_7 mfnd mfm msn) := hD
    refine lv_iconst (v := 0) hx hb dX3_extents_22 (by decide) ?_
    refine lv_istore_n (lv' := [(2, .int 0), (0, .ref (g 0)), (1, .int x1)]) hx hb dX3_extents_23 rfl hl (by decide) rfl (fun ls hl => ?_)
    refine lv_iconst (v := 0) hx hb dX3_extents_24 (by decide) ?_
    refine lv_istore_n (lv' := [(3, .int 0), (2, .int 0), (0, .ref (g 0)), (1, .int x1)]) hx hb dX3_extents_25 rfl hl (by decide) rfl (fun ls hl => ?_)
    obtain ⟨fu_19, hw⟩ := hw
    exact B26  fu_19 x1 0 0 0 mkind_3 msort_4 mfirst_5 mblk_6 mfree_7 H locs hP hD hS ls (lv_sub hl [2, 3, 1, 0] rfl) hw
  · have hw := hw.2 c_2
    refine lv_iconst (v := (-1)) hx hb dX3_extents_16 (by decide) ?_
    exact hret _ _ _ (0, mkind, msort, mfirst, mblk, mfree) _ _ hP hD hS dX3_extents_17 hw
-- X3_next
abbrev rmX3_next : Room := { frames := 2, cells := 0, slots := 0, locals := 48 }
set_option maxHeartbeats 4000000 in
set_option maxRecDepth 100000 in
theorem c_X3_next (l : Launch) (D : va_G) (g : Nat → Nat) (k : xC) (mw : Nat → Int32) (mk : Nat → Int32) (ml : Nat → Int32) (mq : Nat → Int32) (mwt : Nat → Int32) (mn : Int32) (mt : Int32) (mcl : Int32) (mcr : Int32) (mth : Int32) (mkind : Nat → Int32) (msort : Nat → Int32) (mfirst : Nat → Int32) (mblk : Nat → Int32) (mfree : Nat → Int32) (mfnd : Nat → Int32) (mfm : Int32) (msn : Nat → Int32) (x1 : Int32) (post : Int32 → Int32 → (Nat → Int32) → (Nat → Int32) → (Nat → Int32) → (Nat → Int32) → (Nat → Int32) → Prop) (hw : wX3_next post mw ml mth mkind msort mfirst mblk mfree x1) : CMi l yX3_next wsX3_next rmX3_next D k [.ref (g 0), .int x1] (fun v : Int32 × (Nat → Int32) × (Nat → Int32) × (Nat → Int32) × (Nat → Int32) × (Nat → Int32) => (xM g k mw mk ml mq mwt mn mt mcl mcr (v.1) (v.2.1) (v.2.2.1) (v.2.2.2.1) (v.2.2.2.2.1) (v.2.2.2.2.2) mfnd mfm msn)) (mth, mkind, msort, mfirst, mblk, mfree) (fun r v => post r (v.1) (v.2.1) (v.2.2.1) (v.2.2.2.1) (v.2.2.2.2.1) (v.2.2.2.2.2)) := by
  refine met_mi (cc := cX3_next) (nL := 2) (by decide) rfl (Nat.le_of_ble_eq_true rfl) ?_
  intro p e s m args below meth c Q A ls hC hP hD hA hK hZ hS hl hret
  obtain ⟨hx, hb, hml, hown, hts⟩ := id hC
  have hC : CallFix p m c cX3_next 2 s args wsX3_next RX3 := hC
  have hown : s.vm.findClass RX3 = some m.cls := hown
  have hl : lv_has ls 2 [(0, .ref (g 0)), (1, .int x1)] := hl
  have hP : va_P D vwCl (xM g k mw mk ml mq mwt mn mt mcl mcr mth mkind msort mfirst mblk mfree mfnd mfm msn) s.heap := hP
  have hD : va_D A (xM g k mw mk ml mq mwt mn mt mcl mcr mth mkind msort mfirst mblk mfree mfnd mfm msn) := hD
  have hinX3 : ∀ w ∈ wsX30, w ∈ wsX3_next := fun _ h => List.mem_cons_of_mem _ (List.mem_append_right _ h)
  unfold wX3_next at hw
  suffices main : ∀ (H : Heap) (locs : List Loc), va_P D vwCl (xM g k mw mk ml mq mwt mn mt mcl mcr mth mkind msort mfirst mblk mfree mfnd mfm msn) H → va_D A (xM g k mw mk ml mq mwt mn mt mcl mcr mth mkind msort mfirst mblk mfree mfnd mfm msn) → va_S A s.heap H locs → W p l e rmX3_next s m args below meth c H locs 0 0 Q (F0 m 0 ls []) from main _ _ hP hD hS
  intro H locs hP hD hS
  refine lv_aload_n hx hb dX3_next_0 rfl (lv_at hl 0 rfl) ?_
  refine lv_iconst (v := 0) hx hb dX3_next_1 (by decide) ?_
  refine va_put (D := D) (ci := 3) (v := .int 0) (ty := .int) (C := RX3) (T := TX3) (N := 18) hx hb hts hinX3 tyX3 tyX3_ok nmX3 hown hK hP hD hS 0 rfl rfl 9 (by decide) (hts (.fieldLink RX3 47 "SlabHeapModel" "thrown" "I") (by decide +kernel)) (fun _ h9 => h9) rfl (by decide +kernel) rfl rfl (Nat.le_of_ble_eq_true rfl) dX3_next_2 (fun H locs hP hD hS => ?_)
  have hP : va_P D vwCl (xM g k mw mk ml mq mwt mn mt mcl mcr 0 mkind msort mfirst mblk mfree mfnd mfm msn) H := hP
  have hD : va_D A (xM g k mw mk ml mq mwt mn mt mcl mcr 0 mkind msort mfirst mblk mfree mfnd mfm msn) := hD
  refine lv_aload_n hx hb dX3_next_5 rfl (lv_at hl 0 rfl) ?_
  refine lv_iload_n hx hb dX3_next_6 rfl (lv_at hl 1 rfl) ?_
  refine lv_iconst (v := 0) hx hb dX3_next_7 (by decide) ?_
  refine lv_bipush (v := 8) hx hb dX3_next_8 (by decide) ?_
  refine pcall (va_runV (As := [.int x1, .int 0, .int 8]) (rest := []) hC (c_X3_is l D g k mw mk ml mq mwt mn mt mcl mcr 0 mkind msort mfirst mblk mfree mfnd mfm msn x1 0 8 _ hw H) (cwV 3 hts gX3_next_X3_is rfl rfl rfl (by decide +kernel) ⟨Nat.le_of_ble_eq_true rfl, Nat.le_of_ble_eq_true rfl⟩) (preV_p (va_recv hK hP (ci := 3) (q0 := 0) rfl rfl) hP hK hZ hS) rfl rfl hl.1 rfl (lv_room (Nat.le_of_ble_eq_true rfl)) dX3_next_10 ⟨Nat.le_of_ble_eq_true rfl, Nat.le_of_ble_eq_true rfl⟩) (fun r_1 hw => ?_)
  refine lv_if_ne (tgt := 18) hx hb dX3_next_13 (by decide) (fun c_2 => ?_) (fun c_2 => ?_)
  · have hw := hw.1 c_2
    refine lv_aload_n hx hb dX3_next_18 rfl (lv_at hl 0 rfl) ?_
    refine vcall (wr := []) (va_runV (As := []) (rest := []) hC (c_X3_map l D g k mw mk ml mq mwt mn mt mcl mcr 0 mkind msort mfirst mblk mfree mfnd mfm msn _ hw H.size) (cwV 0 hts gX3_next_X3_map rfl rfl rfl (by decide +kernel) ⟨Nat.le_of_ble_eq_true rfl, Nat.le_of_ble_eq_true rfl⟩) (preV_m (va_recv hK hP (ci := 3) (q0 := 0) rfl rfl) hP hD hA hK hZ hS [0, 1, 2, 3, 4, 5, 6, 7, 8, 9, 10, 11, 12] rfl rfl (by decide)) rfl rfl hl.1 rfl (lv_room (Nat.le_of_ble_eq_true rfl)) dX3_next_19 ⟨Nat.le_of_ble_eq_true rfl, Nat.le_of_ble_eq_true rfl⟩) hP hD hA hS [0, 1, 2, 3, 4, 5, 6, 7, 8, 9, 10, 11, 12] [] rfl rfl (by decide) (by decide) (fun u' H locs hw hP hD hS => ?_)
    obtain ⟨mkind_3, msort_4, mfirst_5, mblk_6, mfree_7⟩ := u'
    try dsimp only at hw
    have hP : va_P D vwCl (xM g k mw mk ml mq mwt mn mt mcl mcr 0 mkind_3 msort_4 mfirst_5 mblk_6 mfree_7 mfnd mfm msn) H := hP
    have hD : va_D A (xM g k mw mk ml mq mwt mn mt mcl mcr 0 mkind_3 msort_4 mfirst_5 mblk_6 mfree_7 mfnd mfm msn) := hD
    refine lv_aload_n hx hb dX3_next_22 rfl (lv_at hl 0 rfl) ?_
    refine lv_iload_n hx hb dX3_next_23 rfl (lv_at hl 1 rfl) ?_
    refine pcall (va_runV (As := [.int x1]) (rest := []) hC (c_X3_taken l D g k mw mk ml mq mwt mn mt mcl mcr 0 mkind_3 msort_4 mfirst_5 mblk_6 mfree_7 mfnd mfm msn x1 _ hw H) (cwV 1 hts gX3_next_X3_taken rfl rfl rfl (by decide +kernel) ⟨Nat.le_of_ble_eq_true rfl, Nat.le_of_ble_eq_true rfl⟩) (preV_p (va_recv hK hP (ci := 3) (q0 := 0) rfl rfl) hP hK hZ hS) rfl rfl hl.1 rfl (lv_room (Nat.le_of_ble_eq_true rfl)) dX3_next_24 ⟨Nat.le_of_ble_eq_true rfl, Nat.le_of_ble_eq_true rfl⟩) (fun r_8 hw => ?_)
    exact hret _ _ _ (0, mkind_3, msort_4, mfirst_5, mblk_6, mfree_7) _ _ hP hD hS dX3_next_27 hw
  · have hw := hw.2 c_2
    refine lv_iconst (v := (-1)) hx hb dX3_next_16 (by decide) ?_
    exact hret _ _ _ (0, mkind, msort, mfirst, mblk, mfree) _ _ hP hD hS dX3_next_17 hw
-- X3_count
abbrev rmX3_count : Room := { frames := 2, cells := 0, slots := 0, locals := 48 }
set_option maxHeartbeats 4000000 in
set_option maxRecDepth 100000 in
theorem c_X3_count (l : Launch) (D : va_G) (g : Nat → Nat) (k : xC) (mw : Nat → Int32) (mk : Nat → Int32) (ml : Nat → Int32) (mq : Nat → Int32) (mwt : Nat → Int32) (mn : Int32) (mt : Int32) (mcl : Int32) (mcr : Int32) (mth : Int32) (mkind : Nat → Int32) (msort : Nat → Int32) (mfirst : Nat → Int32) (mblk : Nat → Int32) (mfree : Nat → Int32) (mfnd : Nat → Int32) (mfm : Int32) (msn : Nat → Int32) (x1 : Int32) (post : Int32 → Int32 → (Nat → Int32) → (Nat → Int32) → (Nat → Int32) → (Nat → Int32) → (Nat → Int32) → Prop) (hw : wX3_count post mw ml mn mcl mcr mth mkind msort mfirst mblk mfree x1) : CMi l yX3_count wsX3_count rmX3_count D k [.ref (g 0), .int x1] (fun v : Int32 × (Nat → Int32) × (Nat → Int32) × (Nat → Int32) × (Nat → Int32) × (Nat → Int32) => (xM g k mw mk ml mq mwt mn mt mcl mcr (v.1) (v.2.1) (v.2.2.1) (v.2.2.2.1) (v.2.2.2.2.1) (v.2.2.2.2.2) mfnd mfm msn)) (mth, mkind, msort, mfirst, mblk, mfree) (fun r v => post r (v.1) (v.2.1) (v.2.2.1) (v.2.2.2.1) (v.2.2.2.2.1) (v.2.2.2.2.2)) := by
  refine met_mi (cc := cX3_count) (nL := 4) (by decide) rfl (Nat.le_of_ble_eq_true rfl) ?_
  intro p e s m args below meth c Q A ls hC hP hD hA hK hZ hS hl hret
  obtain ⟨hx, hb, hml, hown, hts⟩ := id hC
  have hC : CallFix p m c cX3_count 4 s args wsX3_count RX3 := hC
  have hown : s.vm.findClass RX3 = some m.cls := hown
  have hl : lv_has ls 4 [(0, .ref (g 0)), (1, .int x1)] := hl
  have hP : va_P D vwCl (xM g k mw mk ml mq mwt mn mt mcl mcr mth mkind msort mfirst mblk mfree mfnd mfm msn) s.heap := hP
  have hD : va_D A (xM g k mw mk ml mq mwt mn mt mcl mcr mth mkind msort mfirst mblk mfree mfnd mfm msn) := hD
  have hinX3 : ∀ w ∈ wsX30, w ∈ wsX3_count := fun _ h => List.mem_cons_of_mem _ (List.mem_append_right _ h)
  have B63 : ∀ (fu : Nat), ∀ (x2 : Int32), ∀ (x3 : Int32), ∀ (mth : Int32), ∀ (mkind : Nat → Int32), ∀ (msort : Nat → Int32), ∀ (mfirst : Nat → Int32), ∀ (mblk : Nat → Int32), ∀ (mfree : Nat → Int32), ∀ (H : Heap) (locs : List Loc), va_P D vwCl (xM g k mw mk ml mq mwt mn mt mcl mcr mth mkind msort mfirst mblk mfree mfnd mfm msn) H → va_D A (xM g k mw mk ml mq mwt mn mt mcl mcr mth mkind msort mfirst mblk mfree mfnd mfm msn) → va_S A s.heap H locs → ∀ (ls : Array Slot), lv_has ls 4 [(0, .ref (g 0)), (2, .int x2), (3, .int x3)] → wX3_count_63 post mw ml mn mcl mcr fu x2 x3 mth mkind msort mfirst mblk mfree → W p l e rmX3_count s m args below meth c H locs 0 0 Q (F0 m 63 ls []) := by
    intro  fu
    induction fu with
    | zero =>
      intro x2 x3 mth mkind msort mfirst mblk mfree H locs hP hD hS ls hl hw
      exact absurd hw (by unfold wX3_count_63; exact fun q => q)
    | succ n ih =>
      intro x2 x3 mth mkind msort mfirst mblk mfree H locs hP hD hS ls hl hw
      unfold wX3_count_63 at hw
      refine lv_iload_n hx hb dX3_count_63 rfl (lv_at hl 2 rfl) ?_
      refine lv_sipush (v := 4096) hx hb dX3_count_64 (by decide) ?_
      refine lv_icmp_ge (tgt := 93) hx hb dX3_count_67 (by decide) (fun c_9 => ?_) (fun c_9 => ?_)
      · have hw := hw.1 c_9
        refine lv_iload_n hx hb dX3_count_93 rfl (lv_at hl 1 rfl) ?_
        exact hret _ _ _ (mth, mkind, msort, mfirst, mblk, mfree) _ _ hP hD hS dX3_count_94 hw
      · have hw := hw.2 c_9
        refine lv_iload_n hx hb dX3_count_70 rfl (lv_at hl 1 rfl) ?_
        refine lv_aload_n hx hb dX3_count_71 rfl (lv_at hl 0 rfl) ?_
        refine va_get (D := D) (ci := 3) (v := .ref (g 3)) (C := RX3) (T := TX3) (N := 18) hx hb hts hinX3 hown hK hP 0 rfl rfl 2 (by decide) (hts (.fieldLink RX3 16 "SlabHeapModel" "isLive" "[Z") (by decide +kernel)) (fun _ h9 => h9) rfl dX3_count_72 ?_
        refine lv_iload_n hx hb dX3_count_75 rfl (lv_at hl 2 rfl) ?_
        obtain ⟨h_10, hw⟩ := hw
        refine va_zald hx hb hK hP 3 1 rfl rfl h_10 dX3_count_76 ?_
        refine lv_if_eq (tgt := 84) hx hb dX3_count_77 (by decide) (fun c_11 => ?_) (fun c_11 => ?_)
        · have hw := hw.1 c_11
          refine lv_iconst (v := 0) hx hb dX3_count_84 (by decide) ?_
          refine lv_iadd hx hb dX3_count_85 ?_
          refine lv_topi (fun x2_12 ex2_12 => ?_)
          have hw := hw x2_12 ex2_12
          refine lv_istore_n (lv' := [(2, .int x2_12), (0, .ref (g 0)), (3, .int x3)]) hx hb dX3_count_86 rfl hl (by decide) rfl (fun ls hl => ?_)
          obtain ⟨x3_13, ex3_13⟩ : ∃ y : Int32, y = x3 + 1 := ⟨_, rfl⟩
          have hw := hw x3_13 ex3_13
          refine lv_iinc (v := x3_13) (lv' := [(3, .int x3_13), (2, .int x2_12), (0, .ref (g 0))]) hx hb dX3_count_87 hl (k := 2) rfl (by rw [ex3_13]; rfl) (by decide) rfl (fun ls hl => ?_)
          refine lv_goto (tgt := 63) hx hb dX3_count_90 (by decide) ?_
          exact ih x2_12 x3_13 mth mkind msort mfirst mblk mfree H locs hP hD hS ls (lv_sub hl [2, 1, 0] rfl) hw
        · have hw := hw.2 c_11
          refine lv_iconst (v := 1) hx hb dX3_count_80 (by decide) ?_
          refine lv_goto (tgt := 85) hx hb dX3_count_81 (by decide) ?_
          refine lv_iadd hx hb dX3_count_85 ?_
          refine lv_topi (fun x2_14 ex2_14 => ?_)
          have hw := hw x2_14 ex2_14
          refine lv_istore_n (lv' := [(2, .int x2_14), (0, .ref (g 0)), (3, .int x3)]) hx hb dX3_count_86 rfl hl (by decide) rfl (fun ls hl => ?_)
          obtain ⟨x3_15, ex3_15⟩ : ∃ y : Int32, y = x3 + 1 := ⟨_, rfl⟩
          have hw := hw x3_15 ex3_15
          refine lv_iinc (v := x3_15) (lv' := [(3, .int x3_15), (2, .int x2_14), (0, .ref (g 0))]) hx hb dX3_count_87 hl (k := 2) rfl (by rw [ex3_15]; rfl) (by decide) rfl (fun ls hl => ?_)
          refine lv_goto (tgt := 63) hx hb dX3_count_90 (by decide) ?_
          exact ih x2_14 x3_15 mth mkind msort mfirst mblk mfree H locs hP hD hS ls (lv_sub hl [2, 1, 0] rfl) hw
  have B97 : ∀ (fu : Nat), ∀ (x2 : Int32), ∀ (x3 : Int32), ∀ (mth : Int32), ∀ (mkind : Nat → Int32), ∀ (msort : Nat → Int32), ∀ (mfirst : Nat → Int32), ∀ (mblk : Nat → Int32), ∀ (mfree : Nat → Int32), ∀ (H : Heap) (locs : List Loc), va_P D vwCl (xM g k mw mk ml mq mwt mn mt mcl mcr mth mkind msort mfirst mblk mfree mfnd mfm msn) H → va_D A (xM g k mw mk ml mq mwt mn mt mcl mcr mth mkind msort mfirst mblk mfree mfnd mfm msn) → va_S A s.heap H locs → ∀ (ls : Array Slot), lv_has ls 4 [(0, .ref (g 0)), (2, .int x2), (3, .int x3)] → wX3_count_97 post mw ml mn mcl mcr fu x2 x3 mth mkind msort mfirst mblk mfree → W p l e rmX3_count s m args below meth c H locs 0 0 Q (F0 m 97 ls []) := by
    intro  fu
    induction fu with
    | zero =>
      intro x2 x3 mth mkind msort mfirst mblk mfree H locs hP hD hS ls hl hw
      exact absurd hw (by unfold wX3_count_97; exact fun q => q)
    | succ n ih =>
      intro x2 x3 mth mkind msort mfirst mblk mfree H locs hP hD hS ls hl hw
      unfold wX3_count_97 at hw
      refine lv_iload_n hx hb dX3_count_97 rfl (lv_at hl 2 rfl) ?_
      refine lv_sipush (v := 256) hx hb dX3_count_98 (by decide) ?_
      refine lv_icmp_ge (tgt := 127) hx hb dX3_count_101 (by decide) (fun c_17 => ?_) (fun c_17 => ?_)
      · have hw := hw.1 c_17
        refine lv_iload_n hx hb dX3_count_127 rfl (lv_at hl 1 rfl) ?_
        exact hret _ _ _ (mth, mkind, msort, mfirst, mblk, mfree) _ _ hP hD hS dX3_count_128 hw
      · have hw := hw.2 c_17
        refine lv_iload_n hx hb dX3_count_104 rfl (lv_at hl 1 rfl) ?_
        refine lv_aload_n hx hb dX3_count_105 rfl (lv_at hl 0 rfl) ?_
        refine va_get (D := D) (ci := 3) (v := .ref (g 6)) (C := RX3) (T := TX3) (N := 18) hx hb hts hinX3 hown hK hP 0 rfl rfl 10 (by decide) (hts (.fieldLink RX3 26 "SlabHeapModel" "kind" "[I") (by decide +kernel)) (fun _ h9 => h9) rfl dX3_count_106 ?_
        refine lv_iload_n hx hb dX3_count_109 rfl (lv_at hl 2 rfl) ?_
        obtain ⟨h_18, hw⟩ := hw
        refine va_iald hx hb hK hP 6 0 rfl rfl h_18 dX3_count_110 ?_
        refine lv_if_ne (tgt := 118) hx hb dX3_count_111 (by decide) (fun c_19 => ?_) (fun c_19 => ?_)
        · have hw := hw.1 c_19
          refine lv_iconst (v := 0) hx hb dX3_count_118 (by decide) ?_
          refine lv_iadd hx hb dX3_count_119 ?_
          refine lv_topi (fun x2_20 ex2_20 => ?_)
          have hw := hw x2_20 ex2_20
          refine lv_istore_n (lv' := [(2, .int x2_20), (0, .ref (g 0)), (3, .int x3)]) hx hb dX3_count_120 rfl hl (by decide) rfl (fun ls hl => ?_)
          obtain ⟨x3_21, ex3_21⟩ : ∃ y : Int32, y = x3 + 1 := ⟨_, rfl⟩
          have hw := hw x3_21 ex3_21
          refine lv_iinc (v := x3_21) (lv' := [(3, .int x3_21), (2, .int x2_20), (0, .ref (g 0))]) hx hb dX3_count_121 hl (k := 2) rfl (by rw [ex3_21]; rfl) (by decide) rfl (fun ls hl => ?_)
          refine lv_goto (tgt := 97) hx hb dX3_count_124 (by decide) ?_
          exact ih x2_20 x3_21 mth mkind msort mfirst mblk mfree H locs hP hD hS ls (lv_sub hl [2, 1, 0] rfl) hw
        · have hw := hw.2 c_19
          refine lv_iconst (v := 1) hx hb dX3_count_114 (by decide) ?_
          refine lv_goto (tgt := 119) hx hb dX3_count_115 (by decide) ?_
          refine lv_iadd hx hb dX3_count_119 ?_
          refine lv_topi (fun x2_22 ex2_22 => ?_)
          have hw := hw x2_22 ex2_22
          refine lv_istore_n (lv' := [(2, .int x2_22), (0, .ref (g 0)), (3, .int x3)]) hx hb dX3_count_120 rfl hl (by decide) rfl (fun ls hl => ?_)
          obtain ⟨x3_23, ex3_23⟩ : ∃ y : Int32, y = x3 + 1 := ⟨_, rfl⟩
          have hw := hw x3_23 ex3_23
          refine lv_iinc (v := x3_23) (lv' := [(3, .int x3_23), (2, .int x2_22), (0, .ref (g 0))]) hx hb dX3_count_121 hl (k := 2) rfl (by rw [ex3_23]; rfl) (by decide) rfl (fun ls hl => ?_)
          refine lv_goto (tgt := 97) hx hb dX3_count_124 (by decide) ?_
          exact ih x2_22 x3_23 mth mkind msort mfirst mblk mfree H locs hP hD hS ls (lv_sub hl [2, 1, 0] rfl) hw
  have B131 : ∀ (fu : Nat), ∀ (x2 : Int32), ∀ (x3 : Int32), ∀ (mth : Int32), ∀ (mkind : Nat → Int32), ∀ (msort : Nat → Int32), ∀ (mfirst : Nat → Int32), ∀ (mblk : Nat → Int32), ∀ (mfree : Nat → Int32), ∀ (H : Heap) (locs : List Loc), va_P D vwCl (xM g k mw mk ml mq mwt mn mt mcl mcr mth mkind msort mfirst mblk mfree mfnd mfm msn) H → va_D A (xM g k mw mk ml mq mwt mn mt mcl mcr mth mkind msort mfirst mblk mfree mfnd mfm msn) → va_S A s.heap H locs → ∀ (ls : Array Slot), lv_has ls 4 [(0, .ref (g 0)), (2, .int x2), (3, .int x3)] → wX3_count_131 post mw ml mn mcl mcr fu x2 x3 mth mkind msort mfirst mblk mfree → W p l e rmX3_count s m args below meth c H locs 0 0 Q (F0 m 131 ls []) := by
    intro  fu
    induction fu with
    | zero =>
      intro x2 x3 mth mkind msort mfirst mblk mfree H locs hP hD hS ls hl hw
      exact absurd hw (by unfold wX3_count_131; exact fun q => q)
    | succ n ih =>
      intro x2 x3 mth mkind msort mfirst mblk mfree H locs hP hD hS ls hl hw
      unfold wX3_count_131 at hw
      refine lv_iload_n hx hb dX3_count_131 rfl (lv_at hl 2 rfl) ?_
      refine lv_sipush (v := 256) hx hb dX3_count_132 (by decide) ?_
      refine lv_icmp_ge (tgt := 162) hx hb dX3_count_135 (by decide) (fun c_25 => ?_) (fun c_25 => ?_)
      · have hw := hw.1 c_25
        refine lv_iload_n hx hb dX3_count_162 rfl (lv_at hl 1 rfl) ?_
        exact hret _ _ _ (mth, mkind, msort, mfirst, mblk, mfree) _ _ hP hD hS dX3_count_163 hw
      · have hw := hw.2 c_25
        refine lv_iload_n hx hb dX3_count_138 rfl (lv_at hl 1 rfl) ?_
        refine lv_aload_n hx hb dX3_count_139 rfl (lv_at hl 0 rfl) ?_
        refine va_get (D := D) (ci := 3) (v := .ref (g 6)) (C := RX3) (T := TX3) (N := 18) hx hb hts hinX3 hown hK hP 0 rfl rfl 10 (by decide) (hts (.fieldLink RX3 26 "SlabHeapModel" "kind" "[I") (by decide +kernel)) (fun _ h9 => h9) rfl dX3_count_140 ?_
        refine lv_iload_n hx hb dX3_count_143 rfl (lv_at hl 2 rfl) ?_
        obtain ⟨h_26, hw⟩ := hw
        refine va_iald hx hb hK hP 6 0 rfl rfl h_26 dX3_count_144 ?_
        refine lv_iconst (v := 1) hx hb dX3_count_145 (by decide) ?_
        refine lv_icmp_ne (tgt := 153) hx hb dX3_count_146 (by decide) (fun c_27 => ?_) (fun c_27 => ?_)
        · have hw := hw.1 c_27
          refine lv_iconst (v := 0) hx hb dX3_count_153 (by decide) ?_
          refine lv_iadd hx hb dX3_count_154 ?_
          refine lv_topi (fun x2_28 ex2_28 => ?_)
          have hw := hw x2_28 ex2_28
          refine lv_istore_n (lv' := [(2, .int x2_28), (0, .ref (g 0)), (3, .int x3)]) hx hb dX3_count_155 rfl hl (by decide) rfl (fun ls hl => ?_)
          obtain ⟨x3_29, ex3_29⟩ : ∃ y : Int32, y = x3 + 1 := ⟨_, rfl⟩
          have hw := hw x3_29 ex3_29
          refine lv_iinc (v := x3_29) (lv' := [(3, .int x3_29), (2, .int x2_28), (0, .ref (g 0))]) hx hb dX3_count_156 hl (k := 2) rfl (by rw [ex3_29]; rfl) (by decide) rfl (fun ls hl => ?_)
          refine lv_goto (tgt := 131) hx hb dX3_count_159 (by decide) ?_
          exact ih x2_28 x3_29 mth mkind msort mfirst mblk mfree H locs hP hD hS ls (lv_sub hl [2, 1, 0] rfl) hw
        · have hw := hw.2 c_27
          refine lv_iconst (v := 1) hx hb dX3_count_149 (by decide) ?_
          refine lv_goto (tgt := 154) hx hb dX3_count_150 (by decide) ?_
          refine lv_iadd hx hb dX3_count_154 ?_
          refine lv_topi (fun x2_30 ex2_30 => ?_)
          have hw := hw x2_30 ex2_30
          refine lv_istore_n (lv' := [(2, .int x2_30), (0, .ref (g 0)), (3, .int x3)]) hx hb dX3_count_155 rfl hl (by decide) rfl (fun ls hl => ?_)
          obtain ⟨x3_31, ex3_31⟩ : ∃ y : Int32, y = x3 + 1 := ⟨_, rfl⟩
          have hw := hw x3_31 ex3_31
          refine lv_iinc (v := x3_31) (lv' := [(3, .int x3_31), (2, .int x2_30), (0, .ref (g 0))]) hx hb dX3_count_156 hl (k := 2) rfl (by rw [ex3_31]; rfl) (by decide) rfl (fun ls hl => ?_)
          refine lv_goto (tgt := 131) hx hb dX3_count_159 (by decide) ?_
          exact ih x2_30 x3_31 mth mkind msort mfirst mblk mfree H locs hP hD hS ls (lv_sub hl [2, 1, 0] rfl) hw
  have B166 : ∀ (fu : Nat), ∀ (x2 : Int32), ∀ (x3 : Int32), ∀ (mth : Int32), ∀ (mkind : Nat → Int32), ∀ (msort : Nat → Int32), ∀ (mfirst : Nat → Int32), ∀ (mblk : Nat → Int32), ∀ (mfree : Nat → Int32), ∀ (H : Heap) (locs : List Loc), va_P D vwCl (xM g k mw mk ml mq mwt mn mt mcl mcr mth mkind msort mfirst mblk mfree mfnd mfm msn) H → va_D A (xM g k mw mk ml mq mwt mn mt mcl mcr mth mkind msort mfirst mblk mfree mfnd mfm msn) → va_S A s.heap H locs → ∀ (ls : Array Slot), lv_has ls 4 [(0, .ref (g 0)), (2, .int x2), (3, .int x3)] → wX3_count_166 post mw ml mn mcl mcr fu x2 x3 mth mkind msort mfirst mblk mfree → W p l e rmX3_count s m args below meth c H locs 0 0 Q (F0 m 166 ls []) := by
    intro  fu
    induction fu with
    | zero =>
      intro x2 x3 mth mkind msort mfirst mblk mfree H locs hP hD hS ls hl hw
      exact absurd hw (by unfold wX3_count_166; exact fun q => q)
    | succ n ih =>
      intro x2 x3 mth mkind msort mfirst mblk mfree H locs hP hD hS ls hl hw
      unfold wX3_count_166 at hw
      refine lv_iload_n hx hb dX3_count_166 rfl (lv_at hl 2 rfl) ?_
      refine lv_sipush (v := 256) hx hb dX3_count_167 (by decide) ?_
      refine lv_icmp_ge (tgt := 208) hx hb dX3_count_170 (by decide) (fun c_33 => ?_) (fun c_33 => ?_)
      · have hw := hw.1 c_33
        refine lv_iload_n hx hb dX3_count_208 rfl (lv_at hl 1 rfl) ?_
        exact hret _ _ _ (mth, mkind, msort, mfirst, mblk, mfree) _ _ hP hD hS dX3_count_209 hw
      · have hw := hw.2 c_33
        refine lv_iload_n hx hb dX3_count_173 rfl (lv_at hl 1 rfl) ?_
        refine lv_aload_n hx hb dX3_count_174 rfl (lv_at hl 0 rfl) ?_
        refine va_get (D := D) (ci := 3) (v := .ref (g 6)) (C := RX3) (T := TX3) (N := 18) hx hb hts hinX3 hown hK hP 0 rfl rfl 10 (by decide) (hts (.fieldLink RX3 26 "SlabHeapModel" "kind" "[I") (by decide +kernel)) (fun _ h9 => h9) rfl dX3_count_175 ?_
        refine lv_iload_n hx hb dX3_count_178 rfl (lv_at hl 2 rfl) ?_
        obtain ⟨h_34, hw⟩ := hw
        refine va_iald hx hb hK hP 6 0 rfl rfl h_34 dX3_count_179 ?_
        refine lv_iconst (v := 1) hx hb dX3_count_180 (by decide) ?_
        refine lv_icmp_ne (tgt := 199) hx hb dX3_count_181 (by decide) (fun c_35 => ?_) (fun c_35 => ?_)
        · have hw := hw.1 c_35
          refine lv_iconst (v := 0) hx hb dX3_count_199 (by decide) ?_
          refine lv_iadd hx hb dX3_count_200 ?_
          refine lv_topi (fun x2_36 ex2_36 => ?_)
          have hw := hw x2_36 ex2_36
          refine lv_istore_n (lv' := [(2, .int x2_36), (0, .ref (g 0)), (3, .int x3)]) hx hb dX3_count_201 rfl hl (by decide) rfl (fun ls hl => ?_)
          obtain ⟨x3_37, ex3_37⟩ : ∃ y : Int32, y = x3 + 1 := ⟨_, rfl⟩
          have hw := hw x3_37 ex3_37
          refine lv_iinc (v := x3_37) (lv' := [(3, .int x3_37), (2, .int x2_36), (0, .ref (g 0))]) hx hb dX3_count_202 hl (k := 2) rfl (by rw [ex3_37]; rfl) (by decide) rfl (fun ls hl => ?_)
          refine lv_goto (tgt := 166) hx hb dX3_count_205 (by decide) ?_
          exact ih x2_36 x3_37 mth mkind msort mfirst mblk mfree H locs hP hD hS ls (lv_sub hl [2, 1, 0] rfl) hw
        · have hw := hw.2 c_35
          refine lv_aload_n hx hb dX3_count_184 rfl (lv_at hl 0 rfl) ?_
          refine lv_iload_n hx hb dX3_count_185 rfl (lv_at hl 2 rfl) ?_
          refine pcall (va_runV (As := [.int x3]) (rest := [.int x2]) hC (c_X3_slots l D g k mw mk ml mq mwt mn mt mcl mcr mth mkind msort mfirst mblk mfree mfnd mfm msn x3 _ hw H) (cwV 1 hts gX3_count_X3_slots rfl rfl rfl (by decide +kernel) ⟨Nat.le_of_ble_eq_true rfl, Nat.le_of_ble_eq_true rfl⟩) (preV_p (va_recv hK hP (ci := 3) (q0 := 0) rfl rfl) hP hK hZ hS) rfl rfl hl.1 rfl (lv_room (Nat.le_of_ble_eq_true rfl)) dX3_count_186 ⟨Nat.le_of_ble_eq_true rfl, Nat.le_of_ble_eq_true rfl⟩) (fun r_38 hw => ?_)
          refine lv_aload_n hx hb dX3_count_189 rfl (lv_at hl 0 rfl) ?_
          refine va_get (D := D) (ci := 3) (v := .ref (g 9)) (C := RX3) (T := TX3) (N := 18) hx hb hts hinX3 hown hK hP 0 rfl rfl 13 (by decide) (hts (.fieldLink RX3 35 "SlabHeapModel" "blocks" "[I") (by decide +kernel)) (fun _ h9 => h9) rfl dX3_count_190 ?_
          refine lv_iload_n hx hb dX3_count_193 rfl (lv_at hl 2 rfl) ?_
          obtain ⟨h_39, hw⟩ := hw
          refine va_iald hx hb hK hP 9 0 rfl rfl h_39 dX3_count_194 ?_
          refine lv_isub hx hb dX3_count_195 ?_
          refine lv_goto (tgt := 200) hx hb dX3_count_196 (by decide) ?_
          refine lv_iadd hx hb dX3_count_200 ?_
          refine lv_topi (fun x2_40 ex2_40 => ?_)
          have hw := hw x2_40 ex2_40
          refine lv_istore_n (lv' := [(2, .int x2_40), (0, .ref (g 0)), (3, .int x3)]) hx hb dX3_count_201 rfl hl (by decide) rfl (fun ls hl => ?_)
          obtain ⟨x3_41, ex3_41⟩ : ∃ y : Int32, y = x3 + 1 := ⟨_, rfl⟩
          have hw := hw x3_41 ex3_41
          refine lv_iinc (v := x3_41) (lv' := [(3, .int x3_41), (2, .int x2_40), (0, .ref (g 0))]) hx hb dX3_count_202 hl (k := 2) rfl (by rw [ex3_41]; rfl) (by decide) rfl (fun ls hl => ?_)
          refine lv_goto (tgt := 166) hx hb dX3_count_205 (by decide) ?_
          exact ih x2_40 x3_41 mth mkind msort mfirst mblk mfree H locs hP hD hS ls (lv_sub hl [2, 1, 0] rfl) hw
  have B223 : ∀ (fu : Nat), ∀ (x2 : Int32), ∀ (x3 : Int32), ∀ (mth : Int32), ∀ (mkind : Nat → Int32), ∀ (msort : Nat → Int32), ∀ (mfirst : Nat → Int32), ∀ (mblk : Nat → Int32), ∀ (mfree : Nat → Int32), ∀ (H : Heap) (locs : List Loc), va_P D vwCl (xM g k mw mk ml mq mwt mn mt mcl mcr mth mkind msort mfirst mblk mfree mfnd mfm msn) H → va_D A (xM g k mw mk ml mq mwt mn mt mcl mcr mth mkind msort mfirst mblk mfree mfnd mfm msn) → va_S A s.heap H locs → ∀ (ls : Array Slot), lv_has ls 4 [(0, .ref (g 0)), (2, .int x2), (3, .int x3)] → wX3_count_223 post mw ml mn mcl mcr fu x2 x3 mth mkind msort mfirst mblk mfree → W p l e rmX3_count s m args below meth c H locs 0 0 Q (F0 m 223 ls []) := by
    intro  fu
    induction fu with
    | zero =>
      intro x2 x3 mth mkind msort mfirst mblk mfree H locs hP hD hS ls hl hw
      exact absurd hw (by unfold wX3_count_223; exact fun q => q)
    | succ n ih =>
      intro x2 x3 mth mkind msort mfirst mblk mfree H locs hP hD hS ls hl hw
      unfold wX3_count_223 at hw
      refine lv_iload_n hx hb dX3_count_223 rfl (lv_at hl 2 rfl) ?_
      refine lv_sipush (v := 4096) hx hb dX3_count_224 (by decide) ?_
      refine lv_icmp_ge (tgt := 259) hx hb dX3_count_227 (by decide) (fun c_43 => ?_) (fun c_43 => ?_)
      · have hw := hw.1 c_43
        refine lv_iload_n hx hb dX3_count_259 rfl (lv_at hl 1 rfl) ?_
        exact hret _ _ _ (mth, mkind, msort, mfirst, mblk, mfree) _ _ hP hD hS dX3_count_260 hw
      · have hw := hw.2 c_43
        refine lv_iload_n hx hb dX3_count_230 rfl (lv_at hl 1 rfl) ?_
        refine lv_aload_n hx hb dX3_count_231 rfl (lv_at hl 0 rfl) ?_
        refine va_get (D := D) (ci := 3) (v := .ref (g 3)) (C := RX3) (T := TX3) (N := 18) hx hb hts hinX3 hown hK hP 0 rfl rfl 2 (by decide) (hts (.fieldLink RX3 16 "SlabHeapModel" "isLive" "[Z") (by decide +kernel)) (fun _ h9 => h9) rfl dX3_count_232 ?_
        refine lv_iload_n hx hb dX3_count_235 rfl (lv_at hl 2 rfl) ?_
        obtain ⟨h_44, hw⟩ := hw
        refine va_zald hx hb hK hP 3 1 rfl rfl h_44 dX3_count_236 ?_
        refine lv_if_eq (tgt := 250) hx hb dX3_count_237 (by decide) (fun c_45 => ?_) (fun c_45 => ?_)
        · have hw := hw.1 c_45
          refine lv_iconst (v := 0) hx hb dX3_count_250 (by decide) ?_
          refine lv_iadd hx hb dX3_count_251 ?_
          refine lv_topi (fun x2_46 ex2_46 => ?_)
          have hw := hw x2_46 ex2_46
          refine lv_istore_n (lv' := [(2, .int x2_46), (0, .ref (g 0)), (3, .int x3)]) hx hb dX3_count_252 rfl hl (by decide) rfl (fun ls hl => ?_)
          obtain ⟨x3_47, ex3_47⟩ : ∃ y : Int32, y = x3 + 1 := ⟨_, rfl⟩
          have hw := hw x3_47 ex3_47
          refine lv_iinc (v := x3_47) (lv' := [(3, .int x3_47), (2, .int x2_46), (0, .ref (g 0))]) hx hb dX3_count_253 hl (k := 2) rfl (by rw [ex3_47]; rfl) (by decide) rfl (fun ls hl => ?_)
          refine lv_goto (tgt := 223) hx hb dX3_count_256 (by decide) ?_
          exact ih x2_46 x3_47 mth mkind msort mfirst mblk mfree H locs hP hD hS ls (lv_sub hl [2, 1, 0] rfl) hw
        · have hw := hw.2 c_45
          refine lv_aload_n hx hb dX3_count_240 rfl (lv_at hl 0 rfl) ?_
          refine lv_iload_n hx hb dX3_count_241 rfl (lv_at hl 2 rfl) ?_
          refine pcall (va_runV (As := [.int x3]) (rest := [.int x2]) hC (c_X3_sizeAt l D g k mw mk ml mq mwt mn mt mcl mcr mth mkind msort mfirst mblk mfree mfnd mfm msn x3 _ hw H) (cwV 1 hts gX3_count_X3_sizeAt rfl rfl rfl (by decide +kernel) ⟨Nat.le_of_ble_eq_true rfl, Nat.le_of_ble_eq_true rfl⟩) (preV_p (va_recv hK hP (ci := 3) (q0 := 0) rfl rfl) hP hK hZ hS) rfl rfl hl.1 rfl (lv_room (Nat.le_of_ble_eq_true rfl)) dX3_count_242 ⟨Nat.le_of_ble_eq_true rfl, Nat.le_of_ble_eq_true rfl⟩) (fun r_48 hw => ?_)
          refine lv_iconst (v := 1) hx hb dX3_count_245 (by decide) ?_
          refine lv_iadd hx hb dX3_count_246 ?_
          refine lv_goto (tgt := 251) hx hb dX3_count_247 (by decide) ?_
          refine lv_iadd hx hb dX3_count_251 ?_
          refine lv_topi (fun x2_49 ex2_49 => ?_)
          have hw := hw x2_49 ex2_49
          refine lv_istore_n (lv' := [(2, .int x2_49), (0, .ref (g 0)), (3, .int x3)]) hx hb dX3_count_252 rfl hl (by decide) rfl (fun ls hl => ?_)
          obtain ⟨x3_50, ex3_50⟩ : ∃ y : Int32, y = x3 + 1 := ⟨_, rfl⟩
          have hw := hw x3_50 ex3_50
          refine lv_iinc (v := x3_50) (lv' := [(3, .int x3_50), (2, .int x2_49), (0, .ref (g 0))]) hx hb dX3_count_253 hl (k := 2) rfl (by rw [ex3_50]; rfl) (by decide) rfl (fun ls hl => ?_)
          refine lv_goto (tgt := 223) hx hb dX3_count_256 (by decide) ?_
          exact ih x2_49 x3_50 mth mkind msort mfirst mblk mfree H locs hP hD hS ls (lv_sub hl [2, 1, 0] rfl) hw
  unfold wX3_count at hw
  suffices main : ∀ (H : Heap) (locs : List Loc), va_P D vwCl (xM g k mw mk ml mq mwt mn mt mcl mcr mth mkind msort mfirst mblk mfree mfnd mfm msn) H → va_D A (xM g k mw mk ml mq mwt mn mt mcl mcr mth mkind msort mfirst mblk mfree mfnd mfm msn) → va_S A s.heap H locs → W p l e rmX3_count s m args below meth c H locs 0 0 Q (F0 m 0 ls []) from main _ _ hP hD hS
  intro H locs hP hD hS
  refine lv_aload_n hx hb dX3_count_0 rfl (lv_at hl 0 rfl) ?_
  refine lv_iconst (v := 0) hx hb dX3_count_1 (by decide) ?_
  refine va_put (D := D) (ci := 3) (v := .int 0) (ty := .int) (C := RX3) (T := TX3) (N := 18) hx hb hts hinX3 tyX3 tyX3_ok nmX3 hown hK hP hD hS 0 rfl rfl 9 (by decide) (hts (.fieldLink RX3 47 "SlabHeapModel" "thrown" "I") (by decide +kernel)) (fun _ h9 => h9) rfl (by decide +kernel) rfl rfl (Nat.le_of_ble_eq_true rfl) dX3_count_2 (fun H locs hP hD hS => ?_)
  have hP : va_P D vwCl (xM g k mw mk ml mq mwt mn mt mcl mcr 0 mkind msort mfirst mblk mfree mfnd mfm msn) H := hP
  have hD : va_D A (xM g k mw mk ml mq mwt mn mt mcl mcr 0 mkind msort mfirst mblk mfree mfnd mfm msn) := hD
  refine lv_aload_n hx hb dX3_count_5 rfl (lv_at hl 0 rfl) ?_
  refine vcall (wr := []) (va_runV (As := []) (rest := []) hC (c_X3_map l D g k mw mk ml mq mwt mn mt mcl mcr 0 mkind msort mfirst mblk mfree mfnd mfm msn _ hw H.size) (cwV 0 hts gX3_count_X3_map rfl rfl rfl (by decide +kernel) ⟨Nat.le_of_ble_eq_true rfl, Nat.le_of_ble_eq_true rfl⟩) (preV_m (va_recv hK hP (ci := 3) (q0 := 0) rfl rfl) hP hD hA hK hZ hS [0, 1, 2, 3, 4, 5, 6, 7, 8, 9, 10, 11, 12] rfl rfl (by decide)) rfl rfl hl.1 rfl (lv_room (Nat.le_of_ble_eq_true rfl)) dX3_count_6 ⟨Nat.le_of_ble_eq_true rfl, Nat.le_of_ble_eq_true rfl⟩) hP hD hA hS [0, 1, 2, 3, 4, 5, 6, 7, 8, 9, 10, 11, 12] [] rfl rfl (by decide) (by decide) (fun u' H locs hw hP hD hS => ?_)
  obtain ⟨mkind_1, msort_2, mfirst_3, mblk_4, mfree_5⟩ := u'
  try dsimp only at hw
  have hP : va_P D vwCl (xM g k mw mk ml mq mwt mn mt mcl mcr 0 mkind_1 msort_2 mfirst_3 mblk_4 mfree_5 mfnd mfm msn) H := hP
  have hD : va_D A (xM g k mw mk ml mq mwt mn mt mcl mcr 0 mkind_1 msort_2 mfirst_3 mblk_4 mfree_5 mfnd mfm msn) := hD
  refine lv_iconst (v := 0) hx hb dX3_count_9 (by decide) ?_
  refine lv_istore_n (lv' := [(2, .int 0), (0, .ref (g 0)), (1, .int x1)]) hx hb dX3_count_10 rfl hl (by decide) rfl (fun ls hl => ?_)
  refine lv_iload_n hx hb dX3_count_11 rfl (lv_at hl 2 rfl) ?_
  by_cases c_6 : x1 < 0
  · have hw := hw.1 c_6
    refine lv_tableOut (tgt := 266) hx hb dX3_count_12 (Or.inl (by rw [Int32.lt_iff_toInt_lt] at c_6; exact c_6)) (by decide) ?_
    refine lv_iconst (v := (-1)) hx hb dX3_count_266 (by decide) ?_
    exact hret _ _ _ (0, mkind_1, msort_2, mfirst_3, mblk_4, mfree_5) _ _ hP hD hS dX3_count_267 hw
  have hw := hw.2 c_6
  by_cases c_7 : 7 < x1
  · have hw := hw.1 c_7
    refine lv_tableOut (tgt := 266) hx hb dX3_count_12 (Or.inr (by rw [Int32.lt_iff_toInt_lt] at c_7; exact c_7)) (by decide) ?_
    refine lv_iconst (v := (-1)) hx hb dX3_count_266 (by decide) ?_
    exact hret _ _ _ (0, mkind_1, msort_2, mfirst_3, mblk_4, mfree_5) _ _ hP hD hS dX3_count_267 hw
  have hw := hw.2 c_7
  obtain ⟨j_8, hj_8, ej_8⟩ := nI_of2 (x := x1) (M := 7) (n := 7) rfl c_6 (Int32.not_lt.mp c_7)
  rcases (show j_8 = 0 ∨ j_8 = 1 ∨ j_8 = 2 ∨ j_8 = 3 ∨ j_8 = 4 ∨ j_8 = 5 ∨ j_8 = 6 ∨ j_8 = 7 by omega) with rfl | rfl | rfl | rfl | rfl | rfl | rfl | rfl
  · have hw := hw.1 ej_8
    refine lv_tableIn (tgt := 60) hx hb dX3_count_12 (by rw [ej_8]; decide) (by rw [ej_8]; decide) (by rw [ej_8]; rfl) (by decide) ?_
    refine lv_bipush (v := 16) hx hb dX3_count_60 (by decide) ?_
    refine lv_istore_n (lv' := [(3, .int 16), (2, .int 0), (0, .ref (g 0)), (1, .int x1)]) hx hb dX3_count_62 rfl hl (by decide) rfl (fun ls hl => ?_)
    obtain ⟨fu_16, hw⟩ := hw
    exact B63  fu_16 0 16 0 mkind_1 msort_2 mfirst_3 mblk_4 mfree_5 H locs hP hD hS ls (lv_sub hl [2, 1, 0] rfl) hw
  · have hw := hw.2.1 ej_8
    refine lv_tableIn (tgt := 95) hx hb dX3_count_12 (by rw [ej_8]; decide) (by rw [ej_8]; decide) (by rw [ej_8]; rfl) (by decide) ?_
    refine lv_iconst (v := 0) hx hb dX3_count_95 (by decide) ?_
    refine lv_istore_n (lv' := [(3, .int 0), (2, .int 0), (0, .ref (g 0)), (1, .int x1)]) hx hb dX3_count_96 rfl hl (by decide) rfl (fun ls hl => ?_)
    obtain ⟨fu_24, hw⟩ := hw
    exact B97  fu_24 0 0 0 mkind_1 msort_2 mfirst_3 mblk_4 mfree_5 H locs hP hD hS ls (lv_sub hl [2, 1, 0] rfl) hw
  · have hw := hw.2.2.1 ej_8
    refine lv_tableIn (tgt := 129) hx hb dX3_count_12 (by rw [ej_8]; decide) (by rw [ej_8]; decide) (by rw [ej_8]; rfl) (by decide) ?_
    refine lv_iconst (v := 0) hx hb dX3_count_129 (by decide) ?_
    refine lv_istore_n (lv' := [(3, .int 0), (2, .int 0), (0, .ref (g 0)), (1, .int x1)]) hx hb dX3_count_130 rfl hl (by decide) rfl (fun ls hl => ?_)
    obtain ⟨fu_32, hw⟩ := hw
    exact B131  fu_32 0 0 0 mkind_1 msort_2 mfirst_3 mblk_4 mfree_5 H locs hP hD hS ls (lv_sub hl [2, 1, 0] rfl) hw
  · have hw := hw.2.2.2.1 ej_8
    refine lv_tableIn (tgt := 164) hx hb dX3_count_12 (by rw [ej_8]; decide) (by rw [ej_8]; decide) (by rw [ej_8]; rfl) (by decide) ?_
    refine lv_iconst (v := 0) hx hb dX3_count_164 (by decide) ?_
    refine lv_istore_n (lv' := [(3, .int 0), (2, .int 0), (0, .ref (g 0)), (1, .int x1)]) hx hb dX3_count_165 rfl hl (by decide) rfl (fun ls hl => ?_)
    obtain ⟨fu_42, hw⟩ := hw
    exact B166  fu_42 0 0 0 mkind_1 msort_2 mfirst_3 mblk_4 mfree_5 H locs hP hD hS ls (lv_sub hl [2, 1, 0] rfl) hw
  · have hw := hw.2.2.2.2.1 ej_8
    refine lv_tableIn (tgt := 210) hx hb dX3_count_12 (by rw [ej_8]; decide) (by rw [ej_8]; decide) (by rw [ej_8]; rfl) (by decide) ?_
    refine lv_aload_n hx hb dX3_count_210 rfl (lv_at hl 1 rfl) ?_
    refine va_get (D := D) (ci := 3) (v := .int mn) (C := RX3) (T := TX3) (N := 18) hx hb hts hinX3 hown hK hP 0 rfl rfl 5 (by decide) (hts (.fieldLink RX3 54 "SlabHeapModel" "waits" "I") (by decide +kernel)) (fun _ h9 => h9) rfl dX3_count_211 ?_
    exact hret _ _ _ (0, mkind_1, msort_2, mfirst_3, mblk_4, mfree_5) _ _ hP hD hS dX3_count_214 hw
  · have hw := hw.2.2.2.2.2.1 ej_8
    refine lv_tableIn (tgt := 215) hx hb dX3_count_12 (by rw [ej_8]; decide) (by rw [ej_8]; decide) (by rw [ej_8]; rfl) (by decide) ?_
    refine lv_aload_n hx hb dX3_count_215 rfl (lv_at hl 1 rfl) ?_
    refine va_get (D := D) (ci := 3) (v := .int mcl) (C := RX3) (T := TX3) (N := 18) hx hb hts hinX3 hown hK hP 0 rfl rfl 7 (by decide) (hts (.fieldLink RX3 125 "SlabHeapModel" "cleared" "I") (by decide +kernel)) (fun _ h9 => h9) rfl dX3_count_216 ?_
    exact hret _ _ _ (0, mkind_1, msort_2, mfirst_3, mblk_4, mfree_5) _ _ hP hD hS dX3_count_219 hw
  · have hw := hw.2.2.2.2.2.2.1 ej_8
    refine lv_tableIn (tgt := 220) hx hb dX3_count_12 (by rw [ej_8]; decide) (by rw [ej_8]; decide) (by rw [ej_8]; rfl) (by decide) ?_
    refine lv_bipush (v := 16) hx hb dX3_count_220 (by decide) ?_
    refine lv_istore_n (lv' := [(3, .int 16), (2, .int 0), (0, .ref (g 0)), (1, .int x1)]) hx hb dX3_count_222 rfl hl (by decide) rfl (fun ls hl => ?_)
    obtain ⟨fu_51, hw⟩ := hw
    exact B223  fu_51 0 16 0 mkind_1 msort_2 mfirst_3 mblk_4 mfree_5 H locs hP hD hS ls (lv_sub hl [2, 1, 0] rfl) hw
  · have hw := hw.2.2.2.2.2.2.2 ej_8
    refine lv_tableIn (tgt := 261) hx hb dX3_count_12 (by rw [ej_8]; decide) (by rw [ej_8]; decide) (by rw [ej_8]; rfl) (by decide) ?_
    refine lv_aload_n hx hb dX3_count_261 rfl (lv_at hl 1 rfl) ?_
    refine va_get (D := D) (ci := 3) (v := .int mcr) (C := RX3) (T := TX3) (N := 18) hx hb hts hinX3 hown hK hP 0 rfl rfl 8 (by decide) (hts (.fieldLink RX3 122 "SlabHeapModel" "crashes" "I") (by decide +kernel)) (fun _ h9 => h9) rfl dX3_count_262 ?_
    exact hret _ _ _ (0, mkind_1, msort_2, mfirst_3, mblk_4, mfree_5) _ _ hP hD hS dX3_count_265 hw
-- X3_head
abbrev rmX3_head : Room := { frames := 1, cells := 0, slots := 0, locals := 24 }
set_option maxHeartbeats 4000000 in
set_option maxRecDepth 100000 in
theorem c_X3_head (l : Launch) (D : va_G) (g : Nat → Nat) (k : xC) (mw : Nat → Int32) (mk : Nat → Int32) (ml : Nat → Int32) (mq : Nat → Int32) (mwt : Nat → Int32) (mn : Int32) (mt : Int32) (mcl : Int32) (mcr : Int32) (mth : Int32) (mkind : Nat → Int32) (msort : Nat → Int32) (mfirst : Nat → Int32) (mblk : Nat → Int32) (mfree : Nat → Int32) (mfnd : Nat → Int32) (mfm : Int32) (msn : Nat → Int32) (x1 : Int32) (x2 : Int32) (x3 : Int32) (post : Int32 → Int32 → Prop) (hw : wX3_head post mth x1 x2 x3) : CMi l yX3_head wsX3_head rmX3_head D k [.ref (g 0), .int x1, .int x2, .int x3] (fun v : Int32 => (xM g k mw mk ml mq mwt mn mt mcl mcr v mkind msort mfirst mblk mfree mfnd mfm msn)) mth (fun r v => post r v) := by
  refine met_mi (cc := cX3_head) (nL := 4) (by decide) rfl (Nat.le_of_ble_eq_true rfl) ?_
  intro p e s m args below meth c Q A ls hC hP hD hA hK hZ hS hl hret
  obtain ⟨hx, hb, hml, hown, hts⟩ := id hC
  have hC : CallFix p m c cX3_head 4 s args wsX3_head RX3 := hC
  have hown : s.vm.findClass RX3 = some m.cls := hown
  have hl : lv_has ls 4 [(0, .ref (g 0)), (1, .int x1), (2, .int x2), (3, .int x3)] := hl
  have hP : va_P D vwCl (xM g k mw mk ml mq mwt mn mt mcl mcr mth mkind msort mfirst mblk mfree mfnd mfm msn) s.heap := hP
  have hD : va_D A (xM g k mw mk ml mq mwt mn mt mcl mcr mth mkind msort mfirst mblk mfree mfnd mfm msn) := hD
  have hinX3 : ∀ w ∈ wsX30, w ∈ wsX3_head := fun _ h => List.mem_cons_of_mem _ (List.mem_append_right _ h)
  unfold wX3_head at hw
  suffices main : ∀ (H : Heap) (locs : List Loc), va_P D vwCl (xM g k mw mk ml mq mwt mn mt mcl mcr mth mkind msort mfirst mblk mfree mfnd mfm msn) H → va_D A (xM g k mw mk ml mq mwt mn mt mcl mcr mth mkind msort mfirst mblk mfree mfnd mfm msn) → va_S A s.heap H locs → W p l e rmX3_head s m args below meth c H locs 0 0 Q (F0 m 0 ls []) from main _ _ hP hD hS
  intro H locs hP hD hS
  refine lv_aload_n hx hb dX3_head_0 rfl (lv_at hl 0 rfl) ?_
  refine lv_iconst (v := 0) hx hb dX3_head_1 (by decide) ?_
  refine va_put (D := D) (ci := 3) (v := .int 0) (ty := .int) (C := RX3) (T := TX3) (N := 18) hx hb hts hinX3 tyX3 tyX3_ok nmX3 hown hK hP hD hS 0 rfl rfl 9 (by decide) (hts (.fieldLink RX3 47 "SlabHeapModel" "thrown" "I") (by decide +kernel)) (fun _ h9 => h9) rfl (by decide +kernel) rfl rfl (Nat.le_of_ble_eq_true rfl) dX3_head_2 (fun H locs hP hD hS => ?_)
  have hP : va_P D vwCl (xM g k mw mk ml mq mwt mn mt mcl mcr 0 mkind msort mfirst mblk mfree mfnd mfm msn) H := hP
  have hD : va_D A (xM g k mw mk ml mq mwt mn mt mcl mcr 0 mkind msort mfirst mblk mfree mfnd mfm msn) := hD
  refine lv_aload_n hx hb dX3_head_5 rfl (lv_at hl 0 rfl) ?_
  refine lv_iload_n hx hb dX3_head_6 rfl (lv_at hl 1 rfl) ?_
  refine lv_bipush (v := 16) hx hb dX3_head_7 (by decide) ?_
  refine lv_sipush (v := 4095) hx hb dX3_head_9 (by decide) ?_
  refine pcall (va_runV (As := [.int x1, .int 16, .int 4095]) (rest := []) hC (c_X3_is l D g k mw mk ml mq mwt mn mt mcl mcr 0 mkind msort mfirst mblk mfree mfnd mfm msn x1 16 4095 _ hw H) (cwV 3 hts gX3_head_X3_is rfl rfl rfl (by decide +kernel) ⟨Nat.le_of_ble_eq_true rfl, Nat.le_of_ble_eq_true rfl⟩) (preV_p (va_recv hK hP (ci := 3) (q0 := 0) rfl rfl) hP hK hZ hS) rfl rfl hl.1 rfl (lv_room (Nat.le_of_ble_eq_true rfl)) dX3_head_12 ⟨Nat.le_of_ble_eq_true rfl, Nat.le_of_ble_eq_true rfl⟩) (fun r_1 hw => ?_)
  refine lv_if_eq (tgt := 50) hx hb dX3_head_15 (by decide) (fun c_2 => ?_) (fun c_2 => ?_)
  · have hw := hw.1 c_2
    refine lv_iconst (v := 0) hx hb dX3_head_50 (by decide) ?_
    exact hret _ _ _ 0 _ _ hP hD hS dX3_head_51 hw
  · have hw := hw.2 c_2
    refine lv_aload_n hx hb dX3_head_18 rfl (lv_at hl 0 rfl) ?_
    refine lv_iload_n hx hb dX3_head_19 rfl (lv_at hl 2 rfl) ?_
    refine lv_iconst (v := 1) hx hb dX3_head_20 (by decide) ?_
    refine lv_sipush (v := 2047) hx hb dX3_head_21 (by decide) ?_
    refine pcall (va_runV (As := [.int x2, .int 1, .int 2047]) (rest := []) hC (c_X3_is l D g k mw mk ml mq mwt mn mt mcl mcr 0 mkind msort mfirst mblk mfree mfnd mfm msn x2 1 2047 _ hw H) (cwV 3 hts gX3_head_X3_is rfl rfl rfl (by decide +kernel) ⟨Nat.le_of_ble_eq_true rfl, Nat.le_of_ble_eq_true rfl⟩) (preV_p (va_recv hK hP (ci := 3) (q0 := 0) rfl rfl) hP hK hZ hS) rfl rfl hl.1 rfl (lv_room (Nat.le_of_ble_eq_true rfl)) dX3_head_24 ⟨Nat.le_of_ble_eq_true rfl, Nat.le_of_ble_eq_true rfl⟩) (fun r_3 hw => ?_)
    refine lv_if_eq (tgt := 50) hx hb dX3_head_27 (by decide) (fun c_4 => ?_) (fun c_4 => ?_)
    · have hw := hw.1 c_4
      refine lv_iconst (v := 0) hx hb dX3_head_50 (by decide) ?_
      exact hret _ _ _ 0 _ _ hP hD hS dX3_head_51 hw
    · have hw := hw.2 c_4
      refine lv_aload_n hx hb dX3_head_30 rfl (lv_at hl 0 rfl) ?_
      refine lv_iload_n hx hb dX3_head_31 rfl (lv_at hl 3 rfl) ?_
      refine lv_iconst (v := 0) hx hb dX3_head_32 (by decide) ?_
      refine lv_iload_n hx hb dX3_head_33 rfl (lv_at hl 2 rfl) ?_
      refine pcall (va_runV (As := [.int x3, .int 0, .int x2]) (rest := []) hC (c_X3_is l D g k mw mk ml mq mwt mn mt mcl mcr 0 mkind msort mfirst mblk mfree mfnd mfm msn x3 0 x2 _ hw H) (cwV 3 hts gX3_head_X3_is rfl rfl rfl (by decide +kernel) ⟨Nat.le_of_ble_eq_true rfl, Nat.le_of_ble_eq_true rfl⟩) (preV_p (va_recv hK hP (ci := 3) (q0 := 0) rfl rfl) hP hK hZ hS) rfl rfl hl.1 rfl (lv_room (Nat.le_of_ble_eq_true rfl)) dX3_head_34 ⟨Nat.le_of_ble_eq_true rfl, Nat.le_of_ble_eq_true rfl⟩) (fun r_5 hw => ?_)
      refine lv_if_eq (tgt := 50) hx hb dX3_head_37 (by decide) (fun c_6 => ?_) (fun c_6 => ?_)
      · have hw := hw.1 c_6
        refine lv_iconst (v := 0) hx hb dX3_head_50 (by decide) ?_
        exact hret _ _ _ 0 _ _ hP hD hS dX3_head_51 hw
      · have hw := hw.2 c_6
        refine lv_aload_n hx hb dX3_head_40 rfl (lv_at hl 0 rfl) ?_
        refine lv_iload_n hx hb dX3_head_41 rfl (lv_at hl 1 rfl) ?_
        refine lv_iload_n hx hb dX3_head_42 rfl (lv_at hl 2 rfl) ?_
        refine lv_iload_n hx hb dX3_head_43 rfl (lv_at hl 3 rfl) ?_
        refine pcall (va_runV (As := [.int x1, .int x2, .int x3]) (rest := []) hC (c_X3_headOf l D g k mw mk ml mq mwt mn mt mcl mcr 0 mkind msort mfirst mblk mfree mfnd mfm msn x1 x2 x3 _ hw H) (cwV 3 hts gX3_head_X3_headOf rfl rfl rfl (by decide +kernel) ⟨Nat.le_of_ble_eq_true rfl, Nat.le_of_ble_eq_true rfl⟩) (preV_p (va_recv hK hP (ci := 3) (q0 := 0) rfl rfl) hP hK hZ hS) rfl rfl hl.1 rfl (lv_room (Nat.le_of_ble_eq_true rfl)) dX3_head_44 ⟨Nat.le_of_ble_eq_true rfl, Nat.le_of_ble_eq_true rfl⟩) (fun r_7 hw => ?_)
        refine lv_goto (tgt := 51) hx hb dX3_head_47 (by decide) ?_
        exact hret _ _ _ 0 _ _ hP hD hS dX3_head_51 hw
-- X3_waits
abbrev rmX3_waits : Room := { frames := 1, cells := 0, slots := 0, locals := 23 }
set_option maxHeartbeats 4000000 in
set_option maxRecDepth 100000 in
theorem c_X3_waits (l : Launch) (D : va_G) (g : Nat → Nat) (k : xC) (mw : Nat → Int32) (mk : Nat → Int32) (ml : Nat → Int32) (mq : Nat → Int32) (mwt : Nat → Int32) (mn : Int32) (mt : Int32) (mcl : Int32) (mcr : Int32) (mth : Int32) (mkind : Nat → Int32) (msort : Nat → Int32) (mfirst : Nat → Int32) (mblk : Nat → Int32) (mfree : Nat → Int32) (mfnd : Nat → Int32) (mfm : Int32) (msn : Nat → Int32) (x1 : Int32) (post : Int32 → Int32 → Prop) (hw : wX3_waits post mwt mn mth x1) : CMi l yX3_waits wsX3_waits rmX3_waits D k [.ref (g 0), .int x1] (fun v : Int32 => (xM g k mw mk ml mq mwt mn mt mcl mcr v mkind msort mfirst mblk mfree mfnd mfm msn)) mth (fun r v => post r v) := by
  refine met_mi (cc := cX3_waits) (nL := 2) (by decide) rfl (Nat.le_of_ble_eq_true rfl) ?_
  intro p e s m args below meth c Q A ls hC hP hD hA hK hZ hS hl hret
  obtain ⟨hx, hb, hml, hown, hts⟩ := id hC
  have hC : CallFix p m c cX3_waits 2 s args wsX3_waits RX3 := hC
  have hown : s.vm.findClass RX3 = some m.cls := hown
  have hl : lv_has ls 2 [(0, .ref (g 0)), (1, .int x1)] := hl
  have hP : va_P D vwCl (xM g k mw mk ml mq mwt mn mt mcl mcr mth mkind msort mfirst mblk mfree mfnd mfm msn) s.heap := hP
  have hD : va_D A (xM g k mw mk ml mq mwt mn mt mcl mcr mth mkind msort mfirst mblk mfree mfnd mfm msn) := hD
  have hinX3 : ∀ w ∈ wsX30, w ∈ wsX3_waits := fun _ h => List.mem_cons_of_mem _ (List.mem_append_right _ h)
  unfold wX3_waits at hw
  suffices main : ∀ (H : Heap) (locs : List Loc), va_P D vwCl (xM g k mw mk ml mq mwt mn mt mcl mcr mth mkind msort mfirst mblk mfree mfnd mfm msn) H → va_D A (xM g k mw mk ml mq mwt mn mt mcl mcr mth mkind msort mfirst mblk mfree mfnd mfm msn) → va_S A s.heap H locs → W p l e rmX3_waits s m args below meth c H locs 0 0 Q (F0 m 0 ls []) from main _ _ hP hD hS
  intro H locs hP hD hS
  refine lv_aload_n hx hb dX3_waits_0 rfl (lv_at hl 0 rfl) ?_
  refine lv_iconst (v := 0) hx hb dX3_waits_1 (by decide) ?_
  refine va_put (D := D) (ci := 3) (v := .int 0) (ty := .int) (C := RX3) (T := TX3) (N := 18) hx hb hts hinX3 tyX3 tyX3_ok nmX3 hown hK hP hD hS 0 rfl rfl 9 (by decide) (hts (.fieldLink RX3 47 "SlabHeapModel" "thrown" "I") (by decide +kernel)) (fun _ h9 => h9) rfl (by decide +kernel) rfl rfl (Nat.le_of_ble_eq_true rfl) dX3_waits_2 (fun H locs hP hD hS => ?_)
  have hP : va_P D vwCl (xM g k mw mk ml mq mwt mn mt mcl mcr 0 mkind msort mfirst mblk mfree mfnd mfm msn) H := hP
  have hD : va_D A (xM g k mw mk ml mq mwt mn mt mcl mcr 0 mkind msort mfirst mblk mfree mfnd mfm msn) := hD
  refine lv_aload_n hx hb dX3_waits_5 rfl (lv_at hl 0 rfl) ?_
  refine lv_iload_n hx hb dX3_waits_6 rfl (lv_at hl 1 rfl) ?_
  refine lv_iconst (v := 0) hx hb dX3_waits_7 (by decide) ?_
  refine lv_aload_n hx hb dX3_waits_8 rfl (lv_at hl 0 rfl) ?_
  refine va_get (D := D) (ci := 3) (v := .int mn) (C := RX3) (T := TX3) (N := 18) hx hb hts hinX3 hown hK hP 0 rfl rfl 5 (by decide) (hts (.fieldLink RX3 54 "SlabHeapModel" "waits" "I") (by decide +kernel)) (fun _ h9 => h9) rfl dX3_waits_9 ?_
  refine lv_iconst (v := 1) hx hb dX3_waits_12 (by decide) ?_
  refine lv_isub hx hb dX3_waits_13 ?_
  refine pcall (va_runV (As := [.int x1, .int 0, .int (mn - 1)]) (rest := []) hC (c_X3_is l D g k mw mk ml mq mwt mn mt mcl mcr 0 mkind msort mfirst mblk mfree mfnd mfm msn x1 0 (mn - 1) _ hw H) (cwV 3 hts gX3_waits_X3_is rfl rfl rfl (by decide +kernel) ⟨Nat.le_of_ble_eq_true rfl, Nat.le_of_ble_eq_true rfl⟩) (preV_p (va_recv hK hP (ci := 3) (q0 := 0) rfl rfl) hP hK hZ hS) rfl rfl hl.1 rfl (lv_room (Nat.le_of_ble_eq_true rfl)) dX3_waits_14 ⟨Nat.le_of_ble_eq_true rfl, Nat.le_of_ble_eq_true rfl⟩) (fun r_1 hw => ?_)
  refine lv_if_eq (tgt := 29) hx hb dX3_waits_17 (by decide) (fun c_2 => ?_) (fun c_2 => ?_)
  · have hw := hw.1 c_2
    refine lv_iconst (v := (-1)) hx hb dX3_waits_29 (by decide) ?_
    exact hret _ _ _ 0 _ _ hP hD hS dX3_waits_30 hw
  · have hw := hw.2 c_2
    refine lv_aload_n hx hb dX3_waits_20 rfl (lv_at hl 0 rfl) ?_
    refine va_get (D := D) (ci := 3) (v := .ref (g 5)) (C := RX3) (T := TX3) (N := 18) hx hb hts hinX3 hown hK hP 0 rfl rfl 4 (by decide) (hts (.fieldLink RX3 23 "SlabHeapModel" "waiting" "[I") (by decide +kernel)) (fun _ h9 => h9) rfl dX3_waits_21 ?_
    refine lv_iload_n hx hb dX3_waits_24 rfl (lv_at hl 1 rfl) ?_
    obtain ⟨h_3, hw⟩ := hw
    refine va_iald hx hb hK hP 5 0 rfl rfl h_3 dX3_waits_25 ?_
    refine lv_goto (tgt := 30) hx hb dX3_waits_26 (by decide) ?_
    exact hret _ _ _ 0 _ _ hP hD hS dX3_waits_30 hw
-- X3_trouble
abbrev rmX3_trouble : Room := { frames := 0, cells := 0, slots := 0, locals := 0 }
set_option maxHeartbeats 4000000 in
set_option maxRecDepth 100000 in
theorem c_X3_trouble (l : Launch) (D : va_G) (g : Nat → Nat) (k : xC) (mw : Nat → Int32) (mk : Nat → Int32) (ml : Nat → Int32) (mq : Nat → Int32) (mwt : Nat → Int32) (mn : Int32) (mt : Int32) (mcl : Int32) (mcr : Int32) (mth : Int32) (mkind : Nat → Int32) (msort : Nat → Int32) (mfirst : Nat → Int32) (mblk : Nat → Int32) (mfree : Nat → Int32) (mfnd : Nat → Int32) (mfm : Int32) (msn : Nat → Int32)  (post : Int32 → Int32 → Prop) (hw : wX3_trouble post mt mth) : CMi l yX3_trouble wsX3_trouble rmX3_trouble D k [.ref (g 0)] (fun v : Int32 => (xM g k mw mk ml mq mwt mn mt mcl mcr v mkind msort mfirst mblk mfree mfnd mfm msn)) mth (fun r v => post r v) := by
  refine met_mi (cc := cX3_trouble) (nL := 1) (by decide) rfl (Nat.le_of_ble_eq_true rfl) ?_
  intro p e s m args below meth c Q A ls hC hP hD hA hK hZ hS hl hret
  obtain ⟨hx, hb, hml, hown, hts⟩ := id hC
  have hC : CallFix p m c cX3_trouble 1 s args wsX3_trouble RX3 := hC
  have hown : s.vm.findClass RX3 = some m.cls := hown
  have hl : lv_has ls 1 [(0, .ref (g 0))] := hl
  have hP : va_P D vwCl (xM g k mw mk ml mq mwt mn mt mcl mcr mth mkind msort mfirst mblk mfree mfnd mfm msn) s.heap := hP
  have hD : va_D A (xM g k mw mk ml mq mwt mn mt mcl mcr mth mkind msort mfirst mblk mfree mfnd mfm msn) := hD
  have hinX3 : ∀ w ∈ wsX30, w ∈ wsX3_trouble := fun _ h => List.mem_cons_of_mem _ (List.mem_append_right _ h)
  unfold wX3_trouble at hw
  suffices main : ∀ (H : Heap) (locs : List Loc), va_P D vwCl (xM g k mw mk ml mq mwt mn mt mcl mcr mth mkind msort mfirst mblk mfree mfnd mfm msn) H → va_D A (xM g k mw mk ml mq mwt mn mt mcl mcr mth mkind msort mfirst mblk mfree mfnd mfm msn) → va_S A s.heap H locs → W p l e rmX3_trouble s m args below meth c H locs 0 0 Q (F0 m 0 ls []) from main _ _ hP hD hS
  intro H locs hP hD hS
  refine lv_aload_n hx hb dX3_trouble_0 rfl (lv_at hl 0 rfl) ?_
  refine lv_iconst (v := 0) hx hb dX3_trouble_1 (by decide) ?_
  refine va_put (D := D) (ci := 3) (v := .int 0) (ty := .int) (C := RX3) (T := TX3) (N := 18) hx hb hts hinX3 tyX3 tyX3_ok nmX3 hown hK hP hD hS 0 rfl rfl 9 (by decide) (hts (.fieldLink RX3 47 "SlabHeapModel" "thrown" "I") (by decide +kernel)) (fun _ h9 => h9) rfl (by decide +kernel) rfl rfl (Nat.le_of_ble_eq_true rfl) dX3_trouble_2 (fun H locs hP hD hS => ?_)
  have hP : va_P D vwCl (xM g k mw mk ml mq mwt mn mt mcl mcr 0 mkind msort mfirst mblk mfree mfnd mfm msn) H := hP
  have hD : va_D A (xM g k mw mk ml mq mwt mn mt mcl mcr 0 mkind msort mfirst mblk mfree mfnd mfm msn) := hD
  refine lv_aload_n hx hb dX3_trouble_5 rfl (lv_at hl 0 rfl) ?_
  refine va_get (D := D) (ci := 3) (v := .int mt) (C := RX3) (T := TX3) (N := 18) hx hb hts hinX3 hown hK hP 0 rfl rfl 6 (by decide) (hts (.fieldLink RX3 51 "SlabHeapModel" "trouble" "I") (by decide +kernel)) (fun _ h9 => h9) rfl dX3_trouble_6 ?_
  exact hret _ _ _ 0 _ _ hP hD hS dX3_trouble_9 hw
