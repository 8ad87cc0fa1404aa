-- J7_fill_53178
abbrev rmJ7_fill_53178 : Room := { frames := 0, cells := 0, slots := 0, locals := 0 }
set_option maxHeartbeats 4000000 in
set_option maxRecDepth 100000 in
theorem c_J7_fill_53178 (l : Launch) (D : va_G) (g : Nat → Nat) (k : xC) (af : Nat → Int32) (x1 : Int32) (post : (Nat → Int32) → Prop) (hw : wJ7_fill_53178 post af x1) : CMv l yJ7_fill_53178 wsJ7_fill_53178 rmJ7_fill_53178 D k [.ref (g 0), .int x1] (fun v : (Nat → Int32) => (xF g k v)) af (fun v => post v) := by
  refine met_mv (cc := cJ7_fill_53178) (nL := 4) (by decide) rfl (Nat.le_of_ble_eq_true rfl) ?_
  intro p e s m args below meth c Q A ls hC hP hD hA hK hZ hS hl hret
  obtain ⟨hx, hb, hml, hown, hts⟩ := id hC
  have hC : CallFix p m c cJ7_fill_53178 4 s args wsJ7_fill_53178 RJ7 := hC
  have hown : s.vm.findClass RJ7 = some m.cls := hown
  have hl : lv_has ls 4 [(0, .ref (g 0)), (1, .int x1)] := hl
  have hP : va_P D vwCl (xF g k af) s.heap := hP
  have hD : va_D A (xF g k af) := hD
  have B5 : ∀ (fu : Nat), ∀ (x1 : Int32), ∀ (x2 : Int32), ∀ (x3 : Int32), ∀ (af : Nat → Int32), ∀ (H : Heap) (locs : List Loc), va_P D vwCl (xF g k af) H → va_D A (xF g k af) → va_S A s.heap H locs → ∀ (ls : Array Slot), lv_has ls 4 [(0, .ref (g 0)), (1, .int x1), (2, .int x2), (3, .int x3)] → wJ7_fill_53178_5 post fu x1 x2 x3 af → W p l e rmJ7_fill_53178 s m args below meth c H locs 0 0 Q (F0 m 5 ls []) := by
    intro  fu
    induction fu with
    | zero =>
      intro x1 x2 x3 af H locs hP hD hS ls hl hw
      exact absurd hw (by unfold wJ7_fill_53178_5; exact fun q => q)
    | succ n ih =>
      intro x1 x2 x3 af H locs hP hD hS ls hl hw
      unfold wJ7_fill_53178_5 at hw
      refine lv_iload_n hx hb dJ7_fill_53178_5 rfl (lv_at hl 2 rfl) ?_
      refine lv_iload_n hx hb dJ7_fill_53178_6 rfl (lv_at hl 3 rfl) ?_
      refine lv_icmp_ge (tgt := 20) hx hb dJ7_fill_53178_7 (by decide) (fun c_1 => ?_) (fun c_1 => ?_)
      · have hw := hw.1 c_1
        exact hret _ _ af _ _ hP hD hS dJ7_fill_53178_20 hw
      · have hw := hw.2 c_1
        refine lv_aload_n hx hb dJ7_fill_53178_10 rfl (lv_at hl 0 rfl) ?_
        refine lv_iload_n hx hb dJ7_fill_53178_11 rfl (lv_at hl 2 rfl) ?_
        refine lv_iload_n hx hb dJ7_fill_53178_12 rfl (lv_at hl 1 rfl) ?_
        obtain ⟨h_2, hw⟩ := hw
        refine va_iast hx hb hK hP hD hS 0 0 rfl rfl h_2 dJ7_fill_53178_13 (fun H locs hP hD hS => ?_)
        have hP : va_P D vwCl (xF g k (upd af x2.toNatClampNeg x1)) H := hP
        have hD : va_D A (xF g k (upd af x2.toNatClampNeg x1)) := hD
        obtain ⟨x2_3, ex2_3⟩ : ∃ y : Int32, y = x2 + 1 := ⟨_, rfl⟩
        have hw := hw x2_3 ex2_3
        refine lv_iinc (v := x2_3) (lv' := [(2, .int x2_3), (0, .ref (g 0)), (1, .int x1), (3, .int x3)]) hx hb dJ7_fill_53178_14 hl (k := 2) rfl (by rw [ex2_3]; rfl) (by decide) rfl (fun ls hl => ?_)
        refine lv_goto (tgt := 5) hx hb dJ7_fill_53178_17 (by decide) ?_
        exact ih x1 x2_3 x3 (upd af x2.toNatClampNeg x1) H locs hP hD hS ls (lv_sub hl [1, 2, 0, 3] rfl) hw
  unfold wJ7_fill_53178 at hw
  suffices main : ∀ (H : Heap) (locs : List Loc), va_P D vwCl (xF g k af) H → va_D A (xF g k af) → va_S A s.heap H locs → W p l e rmJ7_fill_53178 s m args below meth c H locs 0 0 Q (F0 m 0 ls []) from main _ _ hP hD hS
  intro H locs hP hD hS
  refine lv_iconst (v := 0) hx hb dJ7_fill_53178_0 (by decide) ?_
  refine lv_istore_n (lv' := [(2, .int 0), (0, .ref (g 0)), (1, .int x1)]) hx hb dJ7_fill_53178_1 rfl hl (by decide) rfl (fun ls hl => ?_)
  refine lv_aload_n hx hb dJ7_fill_53178_2 rfl (lv_at hl 1 rfl) ?_
  refine va_alen (v := 256) hx hb hK hP 0 0 rfl rfl rfl dJ7_fill_53178_3 ?_
  refine lv_istore_n (lv' := [(3, .int 256), (2, .int 0), (0, .ref (g 0)), (1, .int x1)]) hx hb dJ7_fill_53178_4 rfl hl (by decide) rfl (fun ls hl => ?_)
  obtain ⟨fu_4, hw⟩ := hw
  exact B5  fu_4 x1 0 256 af H locs hP hD hS ls (lv_sub hl [2, 3, 1, 0] rfl) hw
-- J6_bitCount_0f7a4
abbrev rmJ6_bitCount_0f7a4 : Room := { frames := 0, cells := 0, slots := 0, locals := 0 }
set_option maxHeartbeats 4000000 in
set_option maxRecDepth 100000 in
theorem c_J6_bitCount_0f7a4 (l : Launch) (D : va_G) (k : xC)  (x0 : Int32) (post : Int32 → Prop) (hw : wJ6_bitCount_0f7a4 post x0) : CPi l yJ6_bitCount_0f7a4 wsJ6_bitCount_0f7a4 rmJ6_bitCount_0f7a4 D k [.int x0] [] post := by
  refine met_pi (cc := cJ6_bitCount_0f7a4) (nL := 1) (by decide) rfl (Nat.le_of_ble_eq_true rfl) ?_
  intro p e s m args below meth c Q ls hC hP hK hZ hS hl hret
  obtain ⟨hx, hb, hml, hown, hts⟩ := id hC
  have hC : CallFix p m c cJ6_bitCount_0f7a4 1 s args wsJ6_bitCount_0f7a4 RJ6 := hC
  have hown : s.vm.findClass RJ6 = some m.cls := hown
  have hl : lv_has ls 1 [(0, .int x0)] := hl
  unfold wJ6_bitCount_0f7a4 at hw
  refine lv_iload_n hx hb dJ6_bitCount_0f7a4_0 rfl (lv_at hl 0 rfl) ?_
  refine lv_iload_n hx hb dJ6_bitCount_0f7a4_1 rfl (lv_at hl 0 rfl) ?_
  refine lv_iconst (v := 1) hx hb dJ6_bitCount_0f7a4_2 (by decide) ?_
  refine lv_iushr (v := (x0.toUInt32 >>> (Int32.toUInt32 1 &&& Int32.toUInt32 31)).toInt32) hx hb dJ6_bitCount_0f7a4_3 rfl ?_
  refine lv_ldcw (v := 1431655765) hx hb hown (hts (.constant RJ6 265 1431655765) (by decide +kernel)) dJ6_bitCount_0f7a4_4 ?_
  refine lv_iand hx hb dJ6_bitCount_0f7a4_7 ?_
  refine lv_isub hx hb dJ6_bitCount_0f7a4_8 ?_
  refine lv_topi (fun x0_1 ex0_1 => ?_)
  have hw := hw x0_1 ex0_1
  refine lv_istore_n (lv' := [(0, .int x0_1)]) hx hb dJ6_bitCount_0f7a4_9 rfl hl (by decide) rfl (fun ls hl => ?_)
  refine lv_iload_n hx hb dJ6_bitCount_0f7a4_10 rfl (lv_at hl 0 rfl) ?_
  refine lv_ldcw (v := 858993459) hx hb hown (hts (.constant RJ6 266 858993459) (by decide +kernel)) dJ6_bitCount_0f7a4_11 ?_
  refine lv_iand hx hb dJ6_bitCount_0f7a4_14 ?_
  refine lv_iload_n hx hb dJ6_bitCount_0f7a4_15 rfl (lv_at hl 0 rfl) ?_
  refine lv_iconst (v := 2) hx hb dJ6_bitCount_0f7a4_16 (by decide) ?_
  refine lv_iushr (v := (x0_1.toUInt32 >>> (Int32.toUInt32 2 &&& Int32.toUInt32 31)).toInt32) hx hb dJ6_bitCount_0f7a4_17 rfl ?_
  refine lv_ldcw (v := 858993459) hx hb hown (hts (.constant RJ6 266 858993459) (by decide +kernel)) dJ6_bitCount_0f7a4_18 ?_
  refine lv_iand hx hb dJ6_bitCount_0f7a4_21 ?_
  refine lv_iadd hx hb dJ6_bitCount_0f7a4_22 ?_
  refine lv_topi (fun x0_2 ex0_2 => ?_)
  have hw := hw x0_2 ex0_2
  refine lv_istore_n (lv' := [(0, .int x0_2)]) hx hb dJ6_bitCount_0f7a4_23 rfl hl (by decide) rfl (fun ls hl => ?_)
  refine lv_iload_n hx hb dJ6_bitCount_0f7a4_24 rfl (lv_at hl 0 rfl) ?_
  refine lv_iload_n hx hb dJ6_bitCount_0f7a4_25 rfl (lv_at hl 0 rfl) ?_
  refine lv_iconst (v := 4) hx hb dJ6_bitCount_0f7a4_26 (by decide) ?_
  refine lv_iushr (v := (x0_2.toUInt32 >>> (Int32.toUInt32 4 &&& Int32.toUInt32 31)).toInt32) hx hb dJ6_bitCount_0f7a4_27 rfl ?_
  refine lv_iadd hx hb dJ6_bitCount_0f7a4_28 ?_
  refine lv_ldcw (v := 252645135) hx hb hown (hts (.constant RJ6 267 252645135) (by decide +kernel)) dJ6_bitCount_0f7a4_29 ?_
  refine lv_iand hx hb dJ6_bitCount_0f7a4_32 ?_
  refine lv_topi (fun x0_3 ex0_3 => ?_)
  have hw := hw x0_3 ex0_3
  refine lv_istore_n (lv' := [(0, .int x0_3)]) hx hb dJ6_bitCount_0f7a4_33 rfl hl (by decide) rfl (fun ls hl => ?_)
  refine lv_iload_n hx hb dJ6_bitCount_0f7a4_34 rfl (lv_at hl 0 rfl) ?_
  refine lv_iload_n hx hb dJ6_bitCount_0f7a4_35 rfl (lv_at hl 0 rfl) ?_
  refine lv_bipush (v := 8) hx hb dJ6_bitCount_0f7a4_36 (by decide) ?_
  refine lv_iushr (v := (x0_3.toUInt32 >>> (Int32.toUInt32 8 &&& Int32.toUInt32 31)).toInt32) hx hb dJ6_bitCount_0f7a4_38 rfl ?_
  refine lv_iadd hx hb dJ6_bitCount_0f7a4_39 ?_
  refine lv_topi (fun x0_4 ex0_4 => ?_)
  have hw := hw x0_4 ex0_4
  refine lv_istore_n (lv' := [(0, .int x0_4)]) hx hb dJ6_bitCount_0f7a4_40 rfl hl (by decide) rfl (fun ls hl => ?_)
  refine lv_iload_n hx hb dJ6_bitCount_0f7a4_41 rfl (lv_at hl 0 rfl) ?_
  refine lv_iload_n hx hb dJ6_bitCount_0f7a4_42 rfl (lv_at hl 0 rfl) ?_
  refine lv_bipush (v := 16) hx hb dJ6_bitCount_0f7a4_43 (by decide) ?_
  refine lv_iushr (v := (x0_4.toUInt32 >>> (Int32.toUInt32 16 &&& Int32.toUInt32 31)).toInt32) hx hb dJ6_bitCount_0f7a4_45 rfl ?_
  refine lv_iadd hx hb dJ6_bitCount_0f7a4_46 ?_
  refine lv_topi (fun x0_5 ex0_5 => ?_)
  have hw := hw x0_5 ex0_5
  refine lv_istore_n (lv' := [(0, .int x0_5)]) hx hb dJ6_bitCount_0f7a4_47 rfl hl (by decide) rfl (fun ls hl => ?_)
  refine lv_iload_n hx hb dJ6_bitCount_0f7a4_48 rfl (lv_at hl 0 rfl) ?_
  refine lv_bipush (v := 63) hx hb dJ6_bitCount_0f7a4_49 (by decide) ?_
  refine lv_iand hx hb dJ6_bitCount_0f7a4_51 ?_
  exact hret _ _ _ dJ6_bitCount_0f7a4_52 hw
-- J9_floorMod_7cf53
abbrev rmJ9_floorMod_7cf53 : Room := { frames := 0, cells := 0, slots := 0, locals := 0 }
set_option maxHeartbeats 4000000 in
set_option maxRecDepth 100000 in
theorem c_J9_floorMod_7cf53 (l : Launch) (D : va_G) (k : xC)  (x0 : Int32) (x1 : Int32) (post : Int32 → Prop) (hw : wJ9_floorMod_7cf53 post x0 x1) : CPi l yJ9_floorMod_7cf53 wsJ9_floorMod_7cf53 rmJ9_floorMod_7cf53 D k [.int x0, .int x1] [] post := by
  refine met_pj (cc := cJ9_floorMod_7cf53) (nL := 3) (by decide +kernel) rfl (Nat.le_of_ble_eq_true rfl) ?_
  intro p e s m args below meth c Q ls hC hP hK hZ hS hl hret
  obtain ⟨hx, hb, hml, hown, hts⟩ := id hC
  have hC : CallFix p m c cJ9_floorMod_7cf53 3 s args wsJ9_floorMod_7cf53 RJ9 := hC
  have hown : s.vm.findClass RJ9 = some m.cls := hown
  have hl : lv_has ls 3 [(0, .int x0), (1, .int x1)] := hl
  unfold wJ9_floorMod_7cf53 at hw
  refine lv_iload_n hx hb dJ9_floorMod_7cf53_0 rfl (lv_at hl 0 rfl) ?_
  refine lv_iload_n hx hb dJ9_floorMod_7cf53_1 rfl (lv_at hl 1 rfl) ?_
  obtain ⟨h_1, hw⟩ := hw
  refine lv_irem hx hb dJ9_floorMod_7cf53_2 h_1 ?_
  refine lv_topi (fun x2_2 ex2_2 => ?_)
  have hw := hw x2_2 ex2_2
  refine lv_istore_n (lv' := [(2, .int x2_2), (0, .int x0), (1, .int x1)]) hx hb dJ9_floorMod_7cf53_3 rfl hl (by decide) rfl (fun ls hl => ?_)
  refine lv_iload_n hx hb dJ9_floorMod_7cf53_4 rfl (lv_at hl 1 rfl) ?_
  refine lv_iload_n hx hb dJ9_floorMod_7cf53_5 rfl (lv_at hl 2 rfl) ?_
  refine lv_ixor hx hb dJ9_floorMod_7cf53_6 ?_
  refine lv_if_ge (tgt := 18) hx hb dJ9_floorMod_7cf53_7 (by decide) (fun c_3 => ?_) (fun c_3 => ?_)
  · have hw := hw.1 c_3
    refine lv_iload_n hx hb dJ9_floorMod_7cf53_18 rfl (lv_at hl 0 rfl) ?_
    exact hret _ _ _ dJ9_floorMod_7cf53_19 hw
  · have hw := hw.2 c_3
    refine lv_iload_n hx hb dJ9_floorMod_7cf53_10 rfl (lv_at hl 0 rfl) ?_
    refine lv_if_eq (tgt := 18) hx hb dJ9_floorMod_7cf53_11 (by decide) (fun c_4 => ?_) (fun c_4 => ?_)
    · have hw := hw.1 c_4
      refine lv_iload_n hx hb dJ9_floorMod_7cf53_18 rfl (lv_at hl 0 rfl) ?_
      exact hret _ _ _ dJ9_floorMod_7cf53_19 hw
    · have hw := hw.2 c_4
      refine lv_iload_n hx hb dJ9_floorMod_7cf53_14 rfl (lv_at hl 0 rfl) ?_
      refine lv_iload_n hx hb dJ9_floorMod_7cf53_15 rfl (lv_at hl 2 rfl) ?_
      refine lv_iadd hx hb dJ9_floorMod_7cf53_16 ?_
      exact hret _ _ _ dJ9_floorMod_7cf53_17 hw
-- X2_isPage
abbrev rmX2_isPage : Room := { frames := 0, cells := 0, slots := 0, locals := 0 }
set_option maxHeartbeats 4000000 in
set_option maxRecDepth 100000 in
theorem c_X2_isPage (l : Launch) (D : va_G) (k : xC)  (x0 : Int32) (post : Int32 → Prop) (hw : wX2_isPage post x0) : CPi l yX2_isPage wsX2_isPage rmX2_isPage D k [.int x0] [] post := by
  refine met_pz (cc := cX2_isPage) (nL := 1) (by decide) rfl (Nat.le_of_ble_eq_true rfl) ?_
  intro p e s m args below meth c Q ls hC hP hK hZ hS hl hret
  obtain ⟨hx, hb, hml, hown, hts⟩ := id hC
  have hC : CallFix p m c cX2_isPage 1 s args wsX2_isPage RX2 := hC
  have hown : s.vm.findClass RX2 = some m.cls := hown
  have hl : lv_has ls 1 [(0, .int x0)] := hl
  unfold wX2_isPage at hw
  refine lv_iload_n hx hb dX2_isPage_0 rfl (lv_at hl 0 rfl) ?_
  refine lv_if_lt (tgt := 15) hx hb dX2_isPage_1 (by decide) (fun c_1 => ?_) (fun c_1 => ?_)
  · have hw := hw.1 c_1
    refine lv_iconst (v := 0) hx hb dX2_isPage_15 (by decide) ?_
    exact hret _ _ _ dX2_isPage_16 nb_0 hw
  · have hw := hw.2 c_1
    refine lv_iload_n hx hb dX2_isPage_4 rfl (lv_at hl 0 rfl) ?_
    refine lv_sipush (v := 256) hx hb dX2_isPage_5 (by decide) ?_
    refine lv_icmp_ge (tgt := 15) hx hb dX2_isPage_8 (by decide) (fun c_2 => ?_) (fun c_2 => ?_)
    · have hw := hw.1 c_2
      refine lv_iconst (v := 0) hx hb dX2_isPage_15 (by decide) ?_
      exact hret _ _ _ dX2_isPage_16 nb_0 hw
    · have hw := hw.2 c_2
      refine lv_iconst (v := 1) hx hb dX2_isPage_11 (by decide) ?_
      refine lv_goto (tgt := 16) hx hb dX2_isPage_12 (by decide) ?_
      exact hret _ _ _ dX2_isPage_16 nb_1 hw
-- X2_isOrder
abbrev rmX2_isOrder : Room := { frames := 0, cells := 0, slots := 0, locals := 0 }
set_option maxHeartbeats 4000000 in
set_option maxRecDepth 100000 in
theorem c_X2_isOrder (l : Launch) (D : va_G) (k : xC)  (x0 : Int32) (post : Int32 → Prop) (hw : wX2_isOrder post x0) : CPi l yX2_isOrder wsX2_isOrder rmX2_isOrder D k [.int x0] [] post := by
  refine met_pz (cc := cX2_isOrder) (nL := 1) (by decide) rfl (Nat.le_of_ble_eq_true rfl) ?_
  intro p e s m args below meth c Q ls hC hP hK hZ hS hl hret
  obtain ⟨hx, hb, hml, hown, hts⟩ := id hC
  have hC : CallFix p m c cX2_isOrder 1 s args wsX2_isOrder RX2 := hC
  have hown : s.vm.findClass RX2 = some m.cls := hown
  have hl : lv_has ls 1 [(0, .int x0)] := hl
  unfold wX2_isOrder at hw
  refine lv_iload_n hx hb dX2_isOrder_0 rfl (lv_at hl 0 rfl) ?_
  refine lv_if_lt (tgt := 14) hx hb dX2_isOrder_1 (by decide) (fun c_1 => ?_) (fun c_1 => ?_)
  · have hw := hw.1 c_1
    refine lv_iconst (v := 0) hx hb dX2_isOrder_14 (by decide) ?_
    exact hret _ _ _ dX2_isOrder_15 nb_0 hw
  · have hw := hw.2 c_1
    refine lv_iload_n hx hb dX2_isOrder_4 rfl (lv_at hl 0 rfl) ?_
    refine lv_bipush (v := 8) hx hb dX2_isOrder_5 (by decide) ?_
    refine lv_icmp_gt (tgt := 14) hx hb dX2_isOrder_7 (by decide) (fun c_2 => ?_) (fun c_2 => ?_)
    · have hw := hw.1 c_2
      refine lv_iconst (v := 0) hx hb dX2_isOrder_14 (by decide) ?_
      exact hret _ _ _ dX2_isOrder_15 nb_0 hw
    · have hw := hw.2 c_2
      refine lv_iconst (v := 1) hx hb dX2_isOrder_10 (by decide) ?_
      refine lv_goto (tgt := 15) hx hb dX2_isOrder_11 (by decide) ?_
      exact hret _ _ _ dX2_isOrder_15 nb_1 hw
-- X2_classFor
abbrev rmX2_classFor : Room := { frames := 0, cells := 0, slots := 0, locals := 0 }
set_option maxHeartbeats 4000000 in
set_option maxRecDepth 100000 in
theorem c_X2_classFor (l : Launch) (D : va_G) (k : xC)  (x0 : Int32) (post : Int32 → Prop) (hw : wX2_classFor post x0) : CPi l yX2_classFor wsX2_classFor rmX2_classFor D k [.int x0] [] post := by
  refine met_pi (cc := cX2_classFor) (nL := 5) (by decide) rfl (Nat.le_of_ble_eq_true rfl) ?_
  intro p e s m args below meth c Q ls hC hP hK hZ hS hl hret
  obtain ⟨hx, hb, hml, hown, hts⟩ := id hC
  have hC : CallFix p m c cX2_classFor 5 s args wsX2_classFor RX2 := hC
  have hown : s.vm.findClass RX2 = some m.cls := hown
  have hl : lv_has ls 5 [(0, .int x0)] := hl
  obtain ⟨⟨tC, hZc, hT⟩, hNs⟩ := id hZ
  have B9 : ∀ (fu : Nat), ∀ (x0 : Int32), ∀ (x2 : Int32), ∀ (x3 : Int32), ∀ (ls : Array Slot), lv_has ls 5 [(0, .int x0), (1, .ref tC), (2, .int x2), (3, .int x3)] → wX2_classFor_9 post fu x0 x2 x3 → W p l e rmX2_classFor s m args below meth c s.heap [] 0 0 Q (F0 m 9 ls []) := by
    intro  fu
    induction fu with
    | zero =>
      intro x0 x2 x3 ls hl hw
      exact absurd hw (by unfold wX2_classFor_9; exact fun q => q)
    | succ n ih =>
      intro x0 x2 x3 ls hl hw
      unfold wX2_classFor_9 at hw
      refine lv_iload_n hx hb dX2_classFor_9 rfl (lv_at hl 3 rfl) ?_
      refine lv_iload_n hx hb dX2_classFor_10 rfl (lv_at hl 2 rfl) ?_
      refine lv_icmp_ge (tgt := 36) hx hb dX2_classFor_11 (by decide) (fun c_1 => ?_) (fun c_1 => ?_)
      · have hw := hw.1 c_1
        refine lv_iconst (v := 0) hx hb dX2_classFor_36 (by decide) ?_
        exact hret _ _ _ dX2_classFor_37 hw
      · have hw := hw.2 c_1
        refine lv_aload_n hx hb dX2_classFor_14 rfl (lv_at hl 1 rfl) ?_
        refine lv_iload_n hx hb dX2_classFor_15 rfl (lv_at hl 3 rfl) ?_
        obtain ⟨h_2, hw⟩ := hw
        refine va_ti (v := .int (clF x3.toNatClampNeg)) hx hb hT hS h_2 rfl dX2_classFor_16 ?_
        refine lv_topi (fun x4_3 ex4_3 => ?_)
        have hw := hw x4_3 ex4_3
        refine lv_istore (lv' := [(4, .int x4_3), (0, .int x0), (1, .ref tC), (2, .int x2), (3, .int x3)]) hx hb dX2_classFor_17 hl (by decide) rfl (fun ls hl => ?_)
        refine lv_iload_n hx hb dX2_classFor_19 rfl (lv_at hl 1 rfl) ?_
        refine lv_iconst (v := 1) hx hb dX2_classFor_20 (by decide) ?_
        refine lv_iadd hx hb dX2_classFor_21 ?_
        refine lv_iload hx hb dX2_classFor_22 (lv_at hl 0 rfl) ?_
        refine lv_icmp_gt (tgt := 30) hx hb dX2_classFor_24 (by decide) (fun c_4 => ?_) (fun c_4 => ?_)
        · have hw := hw.1 c_4
          obtain ⟨x3_5, ex3_5⟩ : ∃ y : Int32, y = x3 + 1 := ⟨_, rfl⟩
          have hw := hw x3_5 ex3_5
          refine lv_iinc (v := x3_5) (lv' := [(3, .int x3_5), (4, .int x4_3), (0, .int x0), (1, .ref tC), (2, .int x2)]) hx hb dX2_classFor_30 hl (k := 4) rfl (by rw [ex3_5]; rfl) (by decide) rfl (fun ls hl => ?_)
          refine lv_goto (tgt := 9) hx hb dX2_classFor_33 (by decide) ?_
          exact ih x0 x2 x3_5 ls (lv_sub hl [2, 3, 4, 0] rfl) hw
        · have hw := hw.2 c_4
          refine lv_iload hx hb dX2_classFor_27 (lv_at hl 0 rfl) ?_
          exact hret _ _ _ dX2_classFor_29 hw
  unfold wX2_classFor at hw
  refine va_gets (v := .ref tC) hx hb hZc hS hown (hts (.fieldLink RX2 177 "SlabHeap" "CLASSES" "[I") (by decide +kernel)) (fun _ h9 => h9) dX2_classFor_0 ?_
  refine lv_astore_n (lv' := [(1, .ref tC), (0, .int x0)]) hx hb dX2_classFor_3 rfl hl (by decide) rfl (fun ls hl => ?_)
  refine lv_aload_n hx hb dX2_classFor_4 rfl (lv_at hl 0 rfl) ?_
  refine va_tlen (v := 5) hx hb hT hS rfl dX2_classFor_5 ?_
  refine lv_istore_n (lv' := [(2, .int 5), (1, .ref tC), (0, .int x0)]) hx hb dX2_classFor_6 rfl hl (by decide) rfl (fun ls hl => ?_)
  refine lv_iconst (v := 0) hx hb dX2_classFor_7 (by decide) ?_
  refine lv_istore_n (lv' := [(3, .int 0), (2, .int 5), (1, .ref tC), (0, .int x0)]) hx hb dX2_classFor_8 rfl hl (by decide) rfl (fun ls hl => ?_)
  obtain ⟨fu_6, hw⟩ := hw
  exact B9  fu_6 x0 5 0 ls (lv_sub hl [3, 2, 1, 0] rfl) hw
-- X2_orderFor
abbrev rmX2_orderFor : Room := { frames := 1, cells := 0, slots := 0, locals := 24 }
set_option maxHeartbeats 4000000 in
set_option maxRecDepth 100000 in
theorem c_X2_orderFor (l : Launch) (D : va_G) (k : xC)  (x0 : Int32) (post : Int32 → Prop) (hw : wX2_orderFor post x0) : CPi l yX2_orderFor wsX2_orderFor rmX2_orderFor D k [.int x0] [] post := by
  refine met_pi (cc := cX2_orderFor) (nL := 2) (by decide) rfl (Nat.le_of_ble_eq_true rfl) ?_
  intro p e s m args below meth c Q ls hC hP hK hZ hS hl hret
  obtain ⟨hx, hb, hml, hown, hts⟩ := id hC
  have hC : CallFix p m c cX2_orderFor 2 s args wsX2_orderFor RX2 := hC
  have hown : s.vm.findClass RX2 = some m.cls := hown
  have hl : lv_has ls 2 [(0, .int x0)] := hl
  have B11 : ∀ (fu : Nat), ∀ (x0 : Int32), ∀ (x1 : Int32), ∀ (ls : Array Slot), lv_has ls 2 [(0, .int x0), (1, .int x1)] → wX2_orderFor_11 post fu x0 x1 → W p l e rmX2_orderFor s m args below meth c s.heap [] 0 0 Q (F0 m 11 ls []) := by
    intro  fu
    induction fu with
    | zero =>
      intro x0 x1 ls hl hw
      exact absurd hw (by unfold wX2_orderFor_11; exact fun q => q)
    | succ n ih =>
      intro x0 x1 ls hl hw
      unfold wX2_orderFor_11 at hw
      refine lv_iload_n hx hb dX2_orderFor_11 rfl (lv_at hl 1 rfl) ?_
      refine lv_bipush (v := 8) hx hb dX2_orderFor_12 (by decide) ?_
      refine lv_icmp_gt (tgt := 35) hx hb dX2_orderFor_14 (by decide) (fun c_3 => ?_) (fun c_3 => ?_)
      · have hw := hw.1 c_3
        refine lv_iconst (v := (-1)) hx hb dX2_orderFor_35 (by decide) ?_
        exact hret _ _ _ dX2_orderFor_36 hw
      · have hw := hw.2 c_3
        refine lv_iload_n hx hb dX2_orderFor_17 rfl (lv_at hl 0 rfl) ?_
        refine lv_iconst (v := 1) hx hb dX2_orderFor_18 (by decide) ?_
        refine lv_iadd hx hb dX2_orderFor_19 ?_
        refine lv_bipush (v := 16) hx hb dX2_orderFor_20 (by decide) ?_
        refine lv_iload_n hx hb dX2_orderFor_22 rfl (lv_at hl 1 rfl) ?_
        refine lv_ishl hx hb dX2_orderFor_23 ?_
        refine lv_icmp_gt (tgt := 29) hx hb dX2_orderFor_24 (by decide) (fun c_4 => ?_) (fun c_4 => ?_)
        · have hw := hw.1 c_4
          obtain ⟨x1_5, ex1_5⟩ : ∃ y : Int32, y = x1 + 1 := ⟨_, rfl⟩
          have hw := hw x1_5 ex1_5
          refine lv_iinc (v := x1_5) (lv' := [(1, .int x1_5), (0, .int x0)]) hx hb dX2_orderFor_29 hl (k := 1) rfl (by rw [ex1_5]; rfl) (by decide) rfl (fun ls hl => ?_)
          refine lv_goto (tgt := 11) hx hb dX2_orderFor_32 (by decide) ?_
          exact ih x0 x1_5 ls (lv_sub hl [1, 0] rfl) hw
        · have hw := hw.2 c_4
          refine lv_iload_n hx hb dX2_orderFor_27 rfl (lv_at hl 1 rfl) ?_
          exact hret _ _ _ dX2_orderFor_28 hw
  unfold wX2_orderFor at hw
  refine lv_iload_n hx hb dX2_orderFor_0 rfl (lv_at hl 0 rfl) ?_
  refine pcall (va_runS (As := [.int x0]) (rest := []) hC (c_X2_classFor l D k x0 _ hw s.heap) (va_cwS 1 hts gX2_orderFor_X2_classFor rfl rfl rfl (by decide +kernel) ⟨Nat.le_of_ble_eq_true rfl, Nat.le_of_ble_eq_true rfl⟩) (preS_p hP hK hZ hS) rfl rfl hl.1 rfl (lv_room (Nat.le_of_ble_eq_true rfl)) dX2_orderFor_1 ⟨Nat.le_of_ble_eq_true rfl, Nat.le_of_ble_eq_true rfl⟩) (fun r_1 hw => ?_)
  refine lv_if_le (tgt := 9) hx hb dX2_orderFor_4 (by decide) (fun c_2 => ?_) (fun c_2 => ?_)
  · have hw := hw.1 c_2
    refine lv_iconst (v := 0) hx hb dX2_orderFor_9 (by decide) ?_
    refine lv_istore_n (lv' := [(1, .int 0), (0, .int x0)]) hx hb dX2_orderFor_10 rfl hl (by decide) rfl (fun ls hl => ?_)
    obtain ⟨fu_6, hw⟩ := hw
    exact B11  fu_6 x0 0 ls (lv_sub hl [1, 0] rfl) hw
  · have hw := hw.2 c_2
    refine lv_iconst (v := (-1)) hx hb dX2_orderFor_7 (by decide) ?_
    exact hret _ _ _ dX2_orderFor_8 hw
-- X2_isWord
abbrev rmX2_isWord : Room := { frames := 0, cells := 0, slots := 0, locals := 0 }
set_option maxHeartbeats 4000000 in
set_option maxRecDepth 100000 in
theorem c_X2_isWord (l : Launch) (D : va_G) (k : xC)  (x0 : Int32) (post : Int32 → Prop) (hw : wX2_isWord post x0) : CPi l yX2_isWord wsX2_isWord rmX2_isWord D k [.int x0] [] post := by
  refine met_pz (cc := cX2_isWord) (nL := 1) (by decide) rfl (Nat.le_of_ble_eq_true rfl) ?_
  intro p e s m args below meth c Q ls hC hP hK hZ hS hl hret
  obtain ⟨hx, hb, hml, hown, hts⟩ := id hC
  have hC : CallFix p m c cX2_isWord 1 s args wsX2_isWord RX2 := hC
  have hown : s.vm.findClass RX2 = some m.cls := hown
  have hl : lv_has ls 1 [(0, .int x0)] := hl
  unfold wX2_isWord at hw
  refine lv_iload_n hx hb dX2_isWord_0 rfl (lv_at hl 0 rfl) ?_
  refine lv_if_lt (tgt := 15) hx hb dX2_isWord_1 (by decide) (fun c_1 => ?_) (fun c_1 => ?_)
  · have hw := hw.1 c_1
    refine lv_iconst (v := 0) hx hb dX2_isWord_15 (by decide) ?_
    exact hret _ _ _ dX2_isWord_16 nb_0 hw
  · have hw := hw.2 c_1
    refine lv_iload_n hx hb dX2_isWord_4 rfl (lv_at hl 0 rfl) ?_
    refine lv_sipush (v := 4096) hx hb dX2_isWord_5 (by decide) ?_
    refine lv_icmp_ge (tgt := 15) hx hb dX2_isWord_8 (by decide) (fun c_2 => ?_) (fun c_2 => ?_)
    · have hw := hw.1 c_2
      refine lv_iconst (v := 0) hx hb dX2_isWord_15 (by decide) ?_
      exact hret _ _ _ dX2_isWord_16 nb_0 hw
    · have hw := hw.2 c_2
      refine lv_iconst (v := 1) hx hb dX2_isWord_11 (by decide) ?_
      refine lv_goto (tgt := 16) hx hb dX2_isWord_12 (by decide) ?_
      exact hret _ _ _ dX2_isWord_16 nb_1 hw
-- X2_isShape
abbrev rmX2_isShape : Room := { frames := 0, cells := 0, slots := 0, locals := 0 }
set_option maxHeartbeats 4000000 in
set_option maxRecDepth 100000 in
theorem c_X2_isShape (l : Launch) (D : va_G) (k : xC)  (x0 : Int32) (x1 : Int32) (post : Int32 → Prop) (hw : wX2_isShape post x0 x1) : CPi l yX2_isShape wsX2_isShape rmX2_isShape D k [.int x0, .int x1] [] post := by
  refine met_pz (cc := cX2_isShape) (nL := 2) (by decide) rfl (Nat.le_of_ble_eq_true rfl) ?_
  intro p e s m args below meth c Q ls hC hP hK hZ hS hl hret
  obtain ⟨hx, hb, hml, hown, hts⟩ := id hC
  have hC : CallFix p m c cX2_isShape 2 s args wsX2_isShape RX2 := hC
  have hown : s.vm.findClass RX2 = some m.cls := hown
  have hl : lv_has ls 2 [(0, .int x0), (1, .int x1)] := hl
  unfold wX2_isShape at hw
  refine lv_iload_n hx hb dX2_isShape_0 rfl (lv_at hl 0 rfl) ?_
  refine lv_iconst (v := 1) hx hb dX2_isShape_1 (by decide) ?_
  refine lv_icmp_lt (tgt := 25) hx hb dX2_isShape_2 (by decide) (fun c_1 => ?_) (fun c_1 => ?_)
  · have hw := hw.1 c_1
    refine lv_iconst (v := 0) hx hb dX2_isShape_25 (by decide) ?_
    exact hret _ _ _ dX2_isShape_26 nb_0 hw
  · have hw := hw.2 c_1
    refine lv_iload_n hx hb dX2_isShape_5 rfl (lv_at hl 0 rfl) ?_
    refine lv_sipush (v := 2047) hx hb dX2_isShape_6 (by decide) ?_
    refine lv_icmp_gt (tgt := 25) hx hb dX2_isShape_9 (by decide) (fun c_2 => ?_) (fun c_2 => ?_)
    · have hw := hw.1 c_2
      refine lv_iconst (v := 0) hx hb dX2_isShape_25 (by decide) ?_
      exact hret _ _ _ dX2_isShape_26 nb_0 hw
    · have hw := hw.2 c_2
      refine lv_iload_n hx hb dX2_isShape_12 rfl (lv_at hl 1 rfl) ?_
      refine lv_if_lt (tgt := 25) hx hb dX2_isShape_13 (by decide) (fun c_3 => ?_) (fun c_3 => ?_)
      · have hw := hw.1 c_3
        refine lv_iconst (v := 0) hx hb dX2_isShape_25 (by decide) ?_
        exact hret _ _ _ dX2_isShape_26 nb_0 hw
      · have hw := hw.2 c_3
        refine lv_iload_n hx hb dX2_isShape_16 rfl (lv_at hl 1 rfl) ?_
        refine lv_iload_n hx hb dX2_isShape_17 rfl (lv_at hl 0 rfl) ?_
        refine lv_icmp_gt (tgt := 25) hx hb dX2_isShape_18 (by decide) (fun c_4 => ?_) (fun c_4 => ?_)
        · have hw := hw.1 c_4
          refine lv_iconst (v := 0) hx hb dX2_isShape_25 (by decide) ?_
          exact hret _ _ _ dX2_isShape_26 nb_0 hw
        · have hw := hw.2 c_4
          refine lv_iconst (v := 1) hx hb dX2_isShape_21 (by decide) ?_
          refine lv_goto (tgt := 26) hx hb dX2_isShape_22 (by decide) ?_
          exact hret _ _ _ dX2_isShape_26 nb_1 hw
-- X2_headOf
abbrev rmX2_headOf : Room := { frames := 1, cells := 0, slots := 0, locals := 22 }
set_option maxHeartbeats 4000000 in
set_option maxRecDepth 100000 in
theorem c_X2_headOf (l : Launch) (D : va_G) (k : xC)  (x0 : Int32) (x1 : Int32) (x2 : Int32) (post : Int32 → Prop) (hw : wX2_headOf post x0 x1 x2) : CPi l yX2_headOf wsX2_headOf rmX2_headOf D k [.int x0, .int x1, .int x2] [] post := by
  refine met_pi (cc := cX2_headOf) (nL := 4) (by decide) rfl (Nat.le_of_ble_eq_true rfl) ?_
  intro p e s m args below meth c Q ls hC hP hK hZ hS hl hret
  obtain ⟨hx, hb, hml, hown, hts⟩ := id hC
  have hC : CallFix p m c cX2_headOf 4 s args wsX2_headOf RX2 := hC
  have hown : s.vm.findClass RX2 = some m.cls := hown
  have hl : lv_has ls 4 [(0, .int x0), (1, .int x1), (2, .int x2)] := hl
  unfold wX2_headOf at hw
  refine lv_bipush (v := 31) hx hb dX2_headOf_0 (by decide) ?_
  refine lv_iload_n hx hb dX2_headOf_2 rfl (lv_at hl 0 rfl) ?_
  refine lv_imul hx hb dX2_headOf_3 ?_
  refine lv_bipush (v := 7) hx hb dX2_headOf_4 (by decide) ?_
  refine lv_iload_n hx hb dX2_headOf_6 rfl (lv_at hl 1 rfl) ?_
  refine lv_imul hx hb dX2_headOf_7 ?_
  refine lv_iadd hx hb dX2_headOf_8 ?_
  refine lv_bipush (v := 13) hx hb dX2_headOf_9 (by decide) ?_
  refine lv_iload_n hx hb dX2_headOf_11 rfl (lv_at hl 2 rfl) ?_
  refine lv_imul hx hb dX2_headOf_12 ?_
  refine lv_iadd hx hb dX2_headOf_13 ?_
  refine lv_bipush (v := 90) hx hb dX2_headOf_14 (by decide) ?_
  refine lv_iadd hx hb dX2_headOf_16 ?_
  refine lv_sipush (v := 512) hx hb dX2_headOf_17 (by decide) ?_
  refine pcall (va_runS (As := [.int ((((31 * x0) + (7 * x1)) + (13 * x2)) + 90), .int 512]) (rest := []) hC (c_J9_floorMod_7cf53 l D k ((((31 * x0) + (7 * x1)) + (13 * x2)) + 90) 512 _ hw s.heap) (va_cwS 2 hts gX2_headOf_J9_floorMod_7cf53 rfl rfl rfl (by decide +kernel) ⟨Nat.le_of_ble_eq_true rfl, Nat.le_of_ble_eq_true rfl⟩) (preS_p hP hK hZ hS) rfl rfl hl.1 rfl (lv_room (Nat.le_of_ble_eq_true rfl)) dX2_headOf_20 ⟨Nat.le_of_ble_eq_true rfl, Nat.le_of_ble_eq_true rfl⟩) (fun r_1 hw => ?_)
  refine lv_iconst (v := 1) hx hb dX2_headOf_23 (by decide) ?_
  refine lv_iadd hx hb dX2_headOf_24 ?_
  refine lv_topi (fun x3_2 ex3_2 => ?_)
  have hw := hw x3_2 ex3_2
  refine lv_istore_n (lv' := [(3, .int x3_2), (0, .int x0), (1, .int x1), (2, .int x2)]) hx hb dX2_headOf_25 rfl hl (by decide) rfl (fun ls hl => ?_)
  refine lv_iload_n hx hb dX2_headOf_26 rfl (lv_at hl 0 rfl) ?_
  refine lv_ldc (v := 4194304) hx hb hown (hts (.constant RX2 176 4194304) (by decide +kernel)) dX2_headOf_27 ?_
  refine lv_imul hx hb dX2_headOf_29 ?_
  refine lv_iload_n hx hb dX2_headOf_30 rfl (lv_at hl 2 rfl) ?_
  refine lv_sipush (v := 2048) hx hb dX2_headOf_31 (by decide) ?_
  refine lv_imul hx hb dX2_headOf_34 ?_
  refine lv_iadd hx hb dX2_headOf_35 ?_
  refine lv_iload_n hx hb dX2_headOf_36 rfl (lv_at hl 3 rfl) ?_
  refine lv_iadd hx hb dX2_headOf_37 ?_
  exact hret _ _ _ dX2_headOf_38 hw
-- X2_wordOf
abbrev rmX2_wordOf : Room := { frames := 0, cells := 0, slots := 0, locals := 0 }
set_option maxHeartbeats 4000000 in
set_option maxRecDepth 100000 in
theorem c_X2_wordOf (l : Launch) (D : va_G) (k : xC)  (x0 : Int32) (x1 : Int32) (post : Int32 → Prop) (hw : wX2_wordOf post x0 x1) : CPi l yX2_wordOf wsX2_wordOf rmX2_wordOf D k [.int x0, .int x1] [] post := by
  refine met_pi (cc := cX2_wordOf) (nL := 2) (by decide) rfl (Nat.le_of_ble_eq_true rfl) ?_
  intro p e s m args below meth c Q ls hC hP hK hZ hS hl hret
  obtain ⟨hx, hb, hml, hown, hts⟩ := id hC
  have hC : CallFix p m c cX2_wordOf 2 s args wsX2_wordOf RX2 := hC
  have hown : s.vm.findClass RX2 = some m.cls := hown
  have hl : lv_has ls 2 [(0, .int x0), (1, .int x1)] := hl
  unfold wX2_wordOf at hw
  refine lv_iload_n hx hb dX2_wordOf_0 rfl (lv_at hl 0 rfl) ?_
  refine lv_iconst (v := 1) hx hb dX2_wordOf_1 (by decide) ?_
  refine lv_iadd hx hb dX2_wordOf_2 ?_
  refine lv_iload_n hx hb dX2_wordOf_3 rfl (lv_at hl 1 rfl) ?_
  refine lv_iadd hx hb dX2_wordOf_4 ?_
  exact hret _ _ _ dX2_wordOf_5 hw
-- X2_refsIn
abbrev rmX2_refsIn : Room := { frames := 0, cells := 0, slots := 0, locals := 0 }
set_option maxHeartbeats 4000000 in
set_option maxRecDepth 100000 in
theorem c_X2_refsIn (l : Launch) (D : va_G) (k : xC)  (x0 : Int32) (post : Int32 → Prop) (hw : wX2_refsIn post x0) : CPi l yX2_refsIn wsX2_refsIn rmX2_refsIn D k [.int x0] [] post := by
  refine met_pi (cc := cX2_refsIn) (nL := 1) (by decide) rfl (Nat.le_of_ble_eq_true rfl) ?_
  intro p e s m args below meth c Q ls hC hP hK hZ hS hl hret
  obtain ⟨hx, hb, hml, hown, hts⟩ := id hC
  have hC : CallFix p m c cX2_refsIn 1 s args wsX2_refsIn RX2 := hC
  have hown : s.vm.findClass RX2 = some m.cls := hown
  have hl : lv_has ls 1 [(0, .int x0)] := hl
  unfold wX2_refsIn at hw
  refine lv_iload_n hx hb dX2_refsIn_0 rfl (lv_at hl 0 rfl) ?_
  refine lv_sipush (v := 2047) hx hb dX2_refsIn_1 (by decide) ?_
  refine lv_iand hx hb dX2_refsIn_4 ?_
  exact hret _ _ _ dX2_refsIn_5 hw
-- X2_sizeIn
abbrev rmX2_sizeIn : Room := { frames := 0, cells := 0, slots := 0, locals := 0 }
set_option maxHeartbeats 4000000 in
set_option maxRecDepth 100000 in
theorem c_X2_sizeIn (l : Launch) (D : va_G) (k : xC)  (x0 : Int32) (post : Int32 → Prop) (hw : wX2_sizeIn post x0) : CPi l yX2_sizeIn wsX2_sizeIn rmX2_sizeIn D k [.int x0] [] post := by
  refine met_pi (cc := cX2_sizeIn) (nL := 1) (by decide) rfl (Nat.le_of_ble_eq_true rfl) ?_
  intro p e s m args below meth c Q ls hC hP hK hZ hS hl hret
  obtain ⟨hx, hb, hml, hown, hts⟩ := id hC
  have hC : CallFix p m c cX2_sizeIn 1 s args wsX2_sizeIn RX2 := hC
  have hown : s.vm.findClass RX2 = some m.cls := hown
  have hl : lv_has ls 1 [(0, .int x0)] := hl
  unfold wX2_sizeIn at hw
  refine lv_iload_n hx hb dX2_sizeIn_0 rfl (lv_at hl 0 rfl) ?_
  refine lv_bipush (v := 11) hx hb dX2_sizeIn_1 (by decide) ?_
  refine lv_iushr (v := (x0.toUInt32 >>> (Int32.toUInt32 11 &&& Int32.toUInt32 31)).toInt32) hx hb dX2_sizeIn_3 rfl ?_
  refine lv_sipush (v := 2047) hx hb dX2_sizeIn_4 (by decide) ?_
  refine lv_iand hx hb dX2_sizeIn_7 ?_
  exact hret _ _ _ dX2_sizeIn_8 hw
-- X2_isRoot
abbrev rmX2_isRoot : Room := { frames := 0, cells := 0, slots := 0, locals := 0 }
set_option maxHeartbeats 4000000 in
set_option maxRecDepth 100000 in
theorem c_X2_isRoot (l : Launch) (D : va_G) (k : xC)  (x0 : Int32) (post : Int32 → Prop) (hw : wX2_isRoot post x0) : CPi l yX2_isRoot wsX2_isRoot rmX2_isRoot D k [.int x0] [] post := by
  refine met_pz (cc := cX2_isRoot) (nL := 1) (by decide) rfl (Nat.le_of_ble_eq_true rfl) ?_
  intro p e s m args below meth c Q ls hC hP hK hZ hS hl hret
  obtain ⟨hx, hb, hml, hown, hts⟩ := id hC
  have hC : CallFix p m c cX2_isRoot 1 s args wsX2_isRoot RX2 := hC
  have hown : s.vm.findClass RX2 = some m.cls := hown
  have hl : lv_has ls 1 [(0, .int x0)] := hl
  unfold wX2_isRoot at hw
  refine lv_iload_n hx hb dX2_isRoot_0 rfl (lv_at hl 0 rfl) ?_
  refine lv_if_lt (tgt := 14) hx hb dX2_isRoot_1 (by decide) (fun c_1 => ?_) (fun c_1 => ?_)
  · have hw := hw.1 c_1
    refine lv_iconst (v := 0) hx hb dX2_isRoot_14 (by decide) ?_
    exact hret _ _ _ dX2_isRoot_15 nb_0 hw
  · have hw := hw.2 c_1
    refine lv_iload_n hx hb dX2_isRoot_4 rfl (lv_at hl 0 rfl) ?_
    refine lv_bipush (v := 8) hx hb dX2_isRoot_5 (by decide) ?_
    refine lv_icmp_ge (tgt := 14) hx hb dX2_isRoot_7 (by decide) (fun c_2 => ?_) (fun c_2 => ?_)
    · have hw := hw.1 c_2
      refine lv_iconst (v := 0) hx hb dX2_isRoot_14 (by decide) ?_
      exact hret _ _ _ dX2_isRoot_15 nb_0 hw
    · have hw := hw.2 c_2
      refine lv_iconst (v := 1) hx hb dX2_isRoot_10 (by decide) ?_
      refine lv_goto (tgt := 15) hx hb dX2_isRoot_11 (by decide) ?_
      exact hret _ _ _ dX2_isRoot_15 nb_1 hw
