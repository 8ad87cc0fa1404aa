/-! LAW: every script, by its calls -/
theorem len_lt {L i : Nat} (hL : L ≤ 2048) (hi : i ≤ 4096) : ((Int32.ofNat L) - 4 < nI i) ↔ L < i + 4 := by
  show (nI L - 4 < nI i) ↔ _
  by_cases h : 4 ≤ L
  · rw [show nI L - 4 = nI (L - 4) from pk_sub (b := 4) h, nI_ltI (by omega) (by omega)]
    omega
  · refine ⟨fun _ => by omega, fun _ => ?_⟩
    rw [Int32.lt_iff_toInt_lt, nI_toInt (by omega)]
    have : L = 0 ∨ L = 1 ∨ L = 2 ∨ L = 3 := by omega
    rcases this with rfl | rfl | rfl | rfl
    · have e : (nI 0 - 4).toInt = -4 := by decide
      omega
    · have e : (nI 1 - 4).toInt = -3 := by decide
      omega
    · have e : (nI 2 - 4).toInt = -2 := by decide
      omega
    · have e : (nI 3 - 4).toInt = -1 := by decide
      omega
theorem law_pure {L : Nat} (hL : L ≤ 2048) (xs : Nat → Int32) : ∀ (d i : Nat) (K F B : Nat → Nat) (W : WS) (kp : Nat → Int32) {fd cd cr tr : Int32} {ro mr : Nat → Int32} {mth : Int32} {mkind msort mfirst mblk mfree mfnd : Nat → Int32} {mfm : Int32} {msn : Nat → Int32}, L ≤ i + 4 * d → i ≤ L → PI K F B → SI K F B W.nw → W.ok kp → wL_law_18 (fun r => r = 1) L xs (d + 1) (nI i) fd cd cr tr ro W.nw kp W.qu W.qd (nI W.n) (nn K) (nn F) (nn B) mr W.nw kp (bz (LV K F B)) W.qd W.qu (nI W.n) tr cd cr mth mkind msort mfirst mblk mfree mfnd mfm msn := by
  intro d
  induction d with
  | zero =>
    intro i K F B W kp fd cd cr tr ro mr mth mkind msort mfirst mblk mfree mfnd mfm msn hd hi hI hS hQ
    unfold wL_law_18
    exact ⟨fun _ => rfl, fun g => absurd ((len_lt hL (by omega)).mpr (by omega)) g⟩
  | succ d ih =>
    intro i K F B W kp fd cd cr tr ro mr mth mkind msort mfirst mblk mfree mfnd mfm msn hd hi hI hS hQ
    unfold wL_law_18
    refine ⟨fun _ => rfl, fun g => ?_⟩
    have hin : i + 4 ≤ L := by
      have := (not_congr (len_lt (L := L) (i := i) hL (by omega))).mp g
      omega
    have v0 : vp_in (nI i) L := pk_in i L (by omega)
    have v1 : vp_in (nI i + 1) L := by
      rw [show nI i + 1 = nI (i + 1) from nI_1 ..]; exact pk_in (i + 1) L (by omega)
    have v2 : vp_in (nI i + 2) L := by
      rw [show nI i + 2 = nI (i + 2) from nI_add i 2]; exact pk_in (i + 2) L (by omega)
    have v3 : vp_in (nI i + 3) L := by
      rw [show nI i + 3 = nI (i + 3) from nI_add i 3]; exact pk_in (i + 3) L (by omega)
    have go : ∀ (K F B : Nat → Nat) (W : WS) (kp : Nat → Int32) {fd cd cr tr : Int32} {ro mr : Nat → Int32} {mth : Int32} {mkind msort mfirst mblk mfree mfnd : Nat → Int32} {mfm : Int32} {msn : Nat → Int32}, PI K F B → SI K F B W.nw → W.ok kp → ∀ x : Int32, x = nI i + 4 → wL_law_18 (fun r => r = 1) L xs (d + 1) x fd cd cr tr ro W.nw kp W.qu W.qd (nI W.n) (nn K) (nn F) (nn B) mr W.nw kp (bz (LV K F B)) W.qd W.qu (nI W.n) tr cd cr mth mkind msort mfirst mblk mfree mfnd mfm msn := by
      intro K F B W kp fd cd cr tr ro mr mth mkind msort mfirst mblk mfree mfnd mfm msn hI hS hQ x hx
      rw [hx, show nI i + 4 = nI (i + 4) from nI_add i 4]
      exact ih (i + 4) K F B W kp (by omega) hin hI hS hQ
    refine ⟨v0, fun _ => go K F B W kp hI hS hQ, fun _ => ⟨fun _ => go K F B W kp hI hS hQ, fun _ => ⟨fun _ => ?_, fun _ => ?_, fun _ => ?_, fun _ => ?_, fun _ => ?_, fun _ => ?_, fun _ => ?_, fun _ => ?_, fun _ => ?_, fun _ => ?_, fun _ => ?_, fun _ => ?_, fun _ => ?_, fun _ => ?_, fun _ => ?_, fun _ => ?_, fun _ => ?_, fun _ => ?_, fun _ => ?_, fun _ => ?_, fun _ => ?_⟩⟩⟩
    · exact ⟨v1, v2, p_alloc hI hS hQ (fun r t K' F' B' W' hI' hS' hQ' hm => ⟨v1, v2, hm _ (fun a b c d e => ⟨fun _ => go K' F' B' W' kp hI' hS' hQ', fun z => absurd rfl z⟩)⟩)⟩
    · exact ⟨v1, p_free hI hS hQ (fun r t K' F' B' W' ro' hI' hS' hQ' hm => ⟨v1, hm _ ⟨fun _ => go K' F' B' W' kp hI' hS' hQ', fun z => absurd rfl z⟩⟩)⟩
    · exact ⟨v1, v2, v3, p_put hI hS hQ (fun r t W' hS' hQ' hm => ⟨v1, v2, v3, hm _ ⟨fun _ => go K F B W' kp hI hS' hQ', fun z => absurd rfl z⟩⟩)⟩
    · exact ⟨v1, v2, v3, p_refer hI hS hQ (fun r t W' hS' hQ' hm => ⟨v1, v2, v3, hm _ ⟨fun _ => go K F B W' kp hI hS' hQ', fun z => absurd rfl z⟩⟩)⟩
    · exact ⟨v1, v2, p_get hI hS (fun r hm => ⟨v1, v2, hm _ ⟨fun _ => go K F B W kp hI hS hQ, fun z => absurd rfl z⟩⟩)⟩
    · exact ⟨v1, v2, p_root hI hS hQ (fun r t W' hS' hQ' hm => ⟨v1, v2, hm _ ⟨fun _ => go K F B W' kp hI hS' hQ', fun z => absurd rfl z⟩⟩)⟩
    · exact ⟨v1, p_rootOf (fun r hm => ⟨v1, hm _ ⟨fun _ => go K F B W kp hI hS hQ, fun z => absurd rfl z⟩⟩)⟩
    · unfold wX2_fence
      exact e_keepAll hQ (e_mfence hQ ⟨fun _ => go K F B (WS.of W.nw W.qu (fun _ => 0) 0 W.Lq) W.nw hI hS (QI_0 W.nw W.qu W.Lq), fun z => absurd rfl z⟩)
    · exact ⟨v1, p_crash hI hQ (fun r c K' F' B' W' M ro' hI' hS' hQ' hm => ⟨v1, hm _ (fun a b c' d e mf => ⟨fun _ => go K' F' B' W' M hI' hS' hQ', fun z => absurd rfl z⟩)⟩)⟩
    · exact p_collect hI hS hQ (fun r fd' K' F' B' W' ro' mr' hI' hS' hQ' hm => hm _ (fun mf fm sn => ⟨fun _ => go K' F' B' W' kp hI' hS' hQ', fun z => absurd rfl z⟩))
    · refine ⟨v1, v2, fun hz => ?_, fun hz => ?_⟩
      · unfold wL_law_431
        refine p_word (mth := mth) (fun r hm => ⟨v1, v2, fun _ => ?_, fun w => absurd hz w⟩)
        unfold wL_law_453
        exact hm _ ⟨fun _ => go K F B W kp hI hS hQ, fun z => absurd rfl z⟩
      · unfold wL_law_431
        refine p_word (mth := mth) (fun r hm => ⟨v1, v2, fun w => absurd w hz, fun _ => ?_⟩)
        unfold wL_law_453
        exact hm _ ⟨fun _ => go K F B W kp hI hS hQ, fun z => absurd rfl z⟩
    · exact ⟨v1, v2, p_scribble hI hS hQ (fun r t W' hS' hQ' hm => ⟨v1, v2, hm _ ⟨fun _ => go K F B W' kp hI hS' hQ', fun z => absurd rfl z⟩⟩)⟩
    · exact ⟨v1, v2, cl_block hI hS (fun ro' => ⟨v1, v2, mo_block hI hS ⟨fun _ => go K F B W kp hI hS hQ, fun z => absurd rfl z⟩⟩)⟩
    · exact ⟨v1, p_live hI (fun r ro' hm => ⟨v1, hm _ ⟨fun _ => go K F B W kp hI hS hQ, fun z => absurd rfl z⟩⟩)⟩
    · exact ⟨v1, v2, p_page hI hS (fun r hm => ⟨v1, v2, hm _ (fun a b c d e => ⟨fun _ => go K F B W kp hI hS hQ, fun z => absurd rfl z⟩)⟩)⟩
    · exact ⟨v1, p_extents hI hS (fun r hm => ⟨v1, hm _ (fun a b c d e => ⟨fun _ => go K F B W kp hI hS hQ, fun z => absurd rfl z⟩)⟩)⟩
    · exact ⟨v1, p_next hI hS (fun r hm => ⟨v1, hm _ (fun a b c d e => ⟨fun _ => go K F B W kp hI hS hQ, fun z => absurd rfl z⟩)⟩)⟩
    · exact ⟨v1, cl_count hI (fun ro' => ⟨v1, mo_count hI hS (fun a b c d e => ⟨fun _ => go K F B W kp hI hS hQ, fun z => absurd rfl z⟩)⟩)⟩
    · exact ⟨v1, v2, v3, p_head (fun r hm => ⟨v1, v2, v3, hm _ ⟨fun _ => go K F B W kp hI hS hQ, fun z => absurd rfl z⟩⟩)⟩
    · exact ⟨v1, p_waits hQ (fun r hm => ⟨v1, hm _ ⟨fun _ => go K F B W kp hI hS hQ, fun z => absurd rfl z⟩⟩)⟩
    · exact ⟨fun _ => go K F B W kp hI hS hQ, fun z => absurd rfl z⟩
/-- from the start: every script of at most 2048 ints -/
theorem law_true {L : Nat} (hL : L ≤ 2048) (xs : Nat → Int32) : wL_law (fun r => r = 1) L xs 0 0 0 0 (fun _ => 0) (fun _ => 0) (fun _ => 0) (fun _ => 0) (fun _ => 0) 0 (upd (fun _ => 0) 0 4) (fun _ => 0) (fun _ => 0) (fun _ => 0) (fun _ => 0) (fun _ => 0) (fun _ => 0) (fun _ => 0) (fun _ => 0) 0 0 0 0 0 (fun _ => 0) (fun _ => 0) (fun _ => 0) (fun _ => 0) (fun _ => 0) (fun _ => 0) 0 (fun _ => 0) := by
  have e1 : upd (fun _ => (0 : Int32)) 0 4 = nn (up (fun _ => 0) 0 4) := by
    funext j
    show upd (fun _ => (0 : Int32)) 0 4 j = nI (up (fun _ => 0) 0 4 j)
    by_cases e : j = 0
    · rw [e, pk_us, up_s]; rfl
    · rw [pk_un e, up_n _ e]; rfl
  have e2 : bz (LV (up (fun _ => 0) 0 4) (fun _ => 0) (fun _ => 0)) = fun _ => 0 := by
    funext j
    rw [bz_v, LV_none]; rfl
  have := law_pure hL xs 512 0 (up (fun _ => 0) 0 4) (fun _ => 0) (fun _ => 0) (WS.of (fun _ => 0) (fun _ => 0) (fun _ => 0) 0 (fun _ => 0)) (fun _ => 0) (fd := 0) (cd := 0) (cr := 0) (tr := 0) (ro := fun _ => 0) (mr := fun _ => 0) (mth := 0) (mkind := fun _ => 0) (msort := fun _ => 0) (mfirst := fun _ => 0) (mblk := fun _ => 0) (mfree := fun _ => 0) (mfnd := fun _ => 0) (mfm := 0) (msn := fun _ => 0) (by omega) (by omega) (PI_none (fun _ => Nat.zero_le _)) (fun a l => by
    rw [LV_none] at l; cases l) (QI_0 _ _ _)
  rw [e2, ← e1] at this
  exact ⟨_, this⟩
