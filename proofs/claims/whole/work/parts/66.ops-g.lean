/-! OPS G: what a crash finds again: the walk, as a function of the state -/
section OG
variable {K F B : Nat → Nat} {nw kp : Nat → Int32} {n : Nat}
def hdb (K F : Nat → Nat) (a n : Nat) : Bool := if n ≤ 8 then decide (a % 16 % cls n = 0 ∧ a % 16 / cls n < 16 / cls n ∧ (K (a / 16) = 0 ∨ (K (a / 16) = 1 ∧ F (a / 16) = cls n))) else (decide (a % 16 = 0 ∧ a / 16 % 2 ^ ord n = 0) && rn K (a / 16) (ord n))
theorem hdb_iff {a n : Nat} : hdb K F a n = true ↔ HD K F a n := by
  unfold hdb HD
  by_cases h : n ≤ 8
  · rw [if_pos h, decide_eq_true_iff]
    exact ⟨fun g => Or.inl ⟨h, g⟩, fun g => g.elim (fun z => z.2) (fun z => absurd z.1 (by omega))⟩
  · rw [if_neg h, Bool.and_eq_true, decide_eq_true_iff]
    exact ⟨fun g => Or.inr ⟨by omega, g.1.1, g.1.2, g.2⟩, fun g => g.elim (fun z => absurd z.1 h) (fun z => ⟨⟨z.2.1, z.2.2.1⟩, z.2.2.2⟩)⟩
theorem e_canHold {post : Int32 → Prop} {a s : Nat} (hI : PI K F B) (ha : a < 4096) (hs : s < 2048) (h : post (bI (hdb K F a (s + 1)))) : wX0_canHold post (nn K) (nn F) (nI a) (nI s) := by
  have hc8 := cls_le (s + 1)
  have hk := hI.k (a / 16)
  have hrem : nI a - nI a / 16 * 16 = nI (a % 16) := pk_rem (d := 16) (by omega) (by omega) (by omega)
  unfold wX0_canHold
  rw [hrem]
  unfold hdb at h
  refine e_pageOf ha (e_classFor (by omega) (pk_le (cls (s + 1)) 0 (fun g => ?_) (fun g => ?_) rfl rfl (by omega) (by omega)))
  · have h9 : 8 < s + 1 := cls_0.mp (by omega)
    have ho := ord_le (s + 1)
    rw [if_neg (by omega)] at h
    have hal := al_lt (a / 16) (ord (s + 1))
    refine e_orderFor hs (fun _ => pk_ne (a % 16) 0 (fun g1 => ?_) (fun g1 => e_alignedTo (by omega) (by omega) (pk_ne (a / 16 / 2 ^ ord (s + 1) * 2 ^ ord (s + 1)) (a / 16) (fun g2 => ?_) (fun g2 => e_isFreeRun hI.k (by omega) (by omega) (br_b (fun g3 => ?_) (fun g3 => ?_))) rfl rfl (by omega) (by omega))) rfl rfl (by omega) (by omega)) (fun z => absurd z (by omega))
    · rw [decide_eq_false (fun z => g1 z.1), Bool.false_and] at h; exact h
    · rw [decide_eq_false (fun z => g2 (Nat.div_mul_cancel (Nat.dvd_of_mod_eq_zero z.2))), Bool.false_and] at h; exact h
    · rw [g3, Bool.and_false] at h; exact h
    · rw [g3, Bool.and_true, decide_eq_true (by exact ⟨g1, by rw [← g2]; exact Nat.mul_mod_left _ _⟩)] at h; exact h
  · have h9 : s + 1 ≤ 8 := by
      have := (not_congr (cls_0 (n := s + 1))).mp (by omega)
      omega
    rw [if_pos h9] at h
    refine e_slotBy (by omega) (by omega) ?_
    by_cases g2 : 0 < cls (s + 1) ∧ a % 16 % cls (s + 1) = 0 ∧ a % 16 / cls (s + 1) < 16 / cls (s + 1)
    · rw [slv_pos g2.1 g2.2.1 g2.2.2]
      have hd : a % 16 / cls (s + 1) ≤ a % 16 := Nat.div_le_self _ _
      refine ⟨fun z => absurd z (nI_m1 _ (by omega)), fun _ => ?_⟩
      unfold wX0_canHold_34
      refine ⟨fun z => absurd z (by decide), fun _ => e_kindOf (by omega) (pk_eq (K (a / 16)) 0 (fun g3 => ?_) (fun g3 => e_isSlabOf hI (by omega) (by omega) (br_b (fun g4 => ?_) (fun g4 => ?_))) rfl rfl (by omega) (by omega))⟩
      · rw [decide_eq_true (by exact ⟨g2.2.1, g2.2.2, Or.inl g3⟩)] at h; exact h
      · have := of_decide_eq_false g4
        rw [decide_eq_false (fun z => z.2.2.elim g3 this)] at h; exact h
      · have := of_decide_eq_true g4
        rw [decide_eq_true (by exact ⟨g2.2.1, g2.2.2, Or.inr this⟩)] at h; exact h
    · rw [slv_neg g2]
      refine ⟨fun _ => ?_, fun z => absurd rfl z⟩
      unfold wX0_canHold_34
      rw [decide_eq_false (fun z => g2 ⟨g, z.1, z.2.1⟩)] at h
      exact ⟨fun _ => h, fun z => absurd rfl z⟩
/-- a head that stands at a and may come back -/
def RV (K F : Nat → Nat) (nw : Nat → Int32) (a : Nat) : Bool := decide (16 ≤ a ∧ a < 4096 ∧ 1 ≤ szw (nw a) ∧ rfw (nw a) ≤ szw (nw a) ∧ nw a = hdv a (szw (nw a)) (rfw (nw a))) && hdb K F a (szw (nw a) + 1)
def RX (K F : Nat → Nat) (nw : Nat → Int32) (x : Int32) : Bool := !decide (x < 0) && RV K F nw x.toNatClampNeg
theorem RX_N {a : Nat} (ha : a < 2 ^ 31) : RX K F nw (nI a) = RV K F nw a := by
  unfold RX
  rw [nI_clamp ha, decide_eq_false (nI_pos ha)]; rfl
theorem RX_f {x : Int32} (h : x < 16 ∨ ¬ x < 4096) : RX K F nw x = false := by
  unfold RX
  by_cases h0 : x < 0
  · rw [decide_eq_true h0]; rfl
  · obtain ⟨j, hj, rfl⟩ := nI_of h0
    have hb : ¬ (16 ≤ j ∧ j < 4096) := by
      rintro ⟨g1, g2⟩
      rcases h with h | h
      · exact absurd ((nI_ltI (a := j) (b := 16) (by omega) (by omega)).mp h) (by omega)
      · exact h (nI_lt (a := j) (b := 4096) g2 (by omega))
    have hv : RV K F nw j = false := by
      unfold RV
      rw [decide_eq_false (fun z => hb ⟨z.1, z.2.1⟩), Bool.false_and]
    rw [nI_clamp hj, hv, Bool.and_false]
theorem RX_t {x : Int32} (h : RX K F nw x = true) : ∃ a, x = nI a ∧ 16 ≤ a ∧ a < 4096 ∧ 1 ≤ szw (nw a) ∧ rfw (nw a) ≤ szw (nw a) ∧ HD K F a (szw (nw a) + 1) := by
  unfold RX at h
  rw [Bool.and_eq_true, Bool.not_eq_true', decide_eq_false_iff_not] at h
  obtain ⟨j, hj, rfl⟩ := nI_of h.1
  have h2 := h.2
  rw [nI_clamp hj] at h2
  unfold RV at h2
  rw [Bool.and_eq_true, decide_eq_true_iff, hdb_iff] at h2
  obtain ⟨⟨g1, g2, g3, g4, -⟩, g5⟩ := h2
  exact ⟨j, rfl, g1, g2, g3, g4, g5⟩
theorem e_canRevive {post : Int32 → Prop} {x : Int32} (hI : PI K F B) (h : post (bI (RX K F nw x))) : wX2_canRevive post nw (nn K) (nn F) x := by
  unfold wX2_canRevive
  refine ⟨fun g => ?_, fun g1 => ⟨fun g2 => ?_, fun g => ?_⟩⟩
  · rw [RX_f (Or.inl g)] at h; exact h
  · have h0 : ¬ x < 0 := fun g => g1 (by
      rw [Int32.lt_iff_toInt_lt] at g ⊢
      have e0 : (0 : Int32).toInt = 0 := by decide
      have e1 : (16 : Int32).toInt = 16 := by decide
      omega)
    obtain ⟨a, ha, rfl⟩ := nI_of h0
    have ha16 : 16 ≤ a := by
      rcases Nat.lt_or_ge a 16 with z | z
      · exact absurd (show nI a < nI 16 from nI_lt z (by omega)) g1
      · exact z
    have ha' : a < 4096 := (nI_ltI (a := a) (b := 4096) (by omega) (by omega)).mp g2
    rw [RX_N ha] at h
    unfold RV at h
    have hz := szw_lt (nw a)
    have hr := rfw_lt (nw a)
    refine e_sizeOf ha' (e_refsOf ha' (e_isShape (fun g => ⟨fun z => absurd z (by decide), fun _ => ?_⟩) (fun g => ⟨fun _ => ?_, fun z => absurd rfl z⟩)))
    · obtain ⟨s, r, s1, s2, s3, e1, e2⟩ := shp_N g
      have f1 := (nI_eq (by omega) (by omega)).mp e1
      have f2 := (nI_eq (by omega) (by omega)).mp e2
      refine e_at ha' (e_headOf ha' hz hr ⟨fun w => ?_, fun w => e_canHold hI ha' hz (br_b (fun q => ?_) (fun q => ?_))⟩)
      · rw [decide_eq_false (fun z => w z.2.2.2.2), Bool.false_and] at h; exact h
      · rw [q, Bool.and_false] at h; exact h
      · rw [q, Bool.and_true, decide_eq_true (by exact ⟨ha16, ha', by omega, by omega, w⟩)] at h; exact h
    · rw [decide_eq_false (fun z => g (shp_of z.2.2.1 (by omega) z.2.2.2.1)), Bool.false_and] at h; exact h
  · rw [RX_f (Or.inr g)] at h; exact h
theorem e_isHead {post : Int32 → Prop} {a : Nat} (ha : a < 4096) (ht : 1 ≤ szw (nw a) → rfw (nw a) ≤ szw (nw a) → nw a = hdv a (szw (nw a)) (rfw (nw a)) → post 1) (hf : ¬ (1 ≤ szw (nw a) ∧ rfw (nw a) ≤ szw (nw a) ∧ nw a = hdv a (szw (nw a)) (rfw (nw a))) → post 0) : wX3_isHead post nw (nI a) := by
  have hz := szw_lt (nw a)
  have hr := rfw_lt (nw a)
  unfold wX3_isHead
  refine e_sizeAt ha (e_refsAt ha (pk_le (szw (nw a)) 0 (fun g => hf (fun z => by omega)) (fun g => pk_lt (szw (nw a)) (rfw (nw a)) (fun g2 => hf (fun z => by omega)) (fun g2 => ⟨pk_in a 4096 ha, ?_⟩) rfl rfl (by omega) (by omega)) rfl rfl (by omega) (by omega)))
  rw [nI_clamp (by omega)]
  exact e_mheadOf ha hz hr ⟨fun w => hf (fun z => w z.2.2), fun w => ht (by omega) (by omega) w⟩
theorem e_fits {post : Int32 → (Nat → Int32) → (Nat → Int32) → (Nat → Int32) → (Nat → Int32) → (Nat → Int32) → Prop} {x : Int32} {mkind msort mfirst mblk mfree : Nat → Int32} (hI : PI K F B) (hS : SI K F B nw) (h : ∀ a b c d e, post (bI (RX K F nw x)) a b c d e) : wX3_fits post nw (bz (LV K F B)) mkind msort mfirst mblk mfree x := by
  unfold wX3_fits
  refine e_is (fun q1 q2 => ⟨fun z => absurd z (by decide), fun _ => ?_⟩) (fun q => ⟨fun _ => ?_, fun z => absurd rfl z⟩)
  · obtain ⟨a, a1, a2, rfl⟩ := is_N (a := 16) (b := 4095) rfl rfl (by omega) (by omega) q1 q2
    have ha : a < 4096 := by omega
    have hz := szw_lt (nw a)
    have hk := hI.k (a / 16)
    have hf := hI.f (a / 16)
    rw [RX_N (by omega)] at h
    unfold RV at h
    refine e_isHead ha (fun g1 g2 g3 => ⟨fun _ => ?_, fun z => absurd z (by decide)⟩) (fun g => ⟨fun z => absurd rfl z, fun _ => ?_⟩)
    · rw [decide_eq_true (by exact ⟨a1, ha, g1, g2, g3⟩), Bool.true_and] at h
      refine e_map hI hS (fun ma mb mc md me hM => e_sizeAt ha ?_)
      intro y hy z hz'
      have hz'' : z = nI (a / 16) := by rw [hz']; exact pk_div (d := 16) (by omega) (by omega) (by omega)
      rw [hy, hz'', nI_1]
      have hrem : nI a - nI a / 16 * 16 = nI (a % 16) := pk_rem (d := 16) (by omega) (by omega) (by omega)
      rw [hrem]
      have hh := h ma mb mc md me
      have hc8 := cls_le (szw (nw a) + 1)
      obtain ⟨m1, m2, -⟩ := hM (a / 16) (by omega)
      unfold hdb at hh
      refine e_classOf (by omega) (pk_le (cls (szw (nw a) + 1)) 0 (fun w => ?_) (fun w => ?_) rfl rfl (by omega) (by omega))
      · have h9 : 8 < szw (nw a) + 1 := cls_0.mp (by omega)
        have ho := ord_le (szw (nw a) + 1)
        have h2p := p2le (o := ord (szw (nw a) + 1)) (by omega)
        rw [if_neg (by omega)] at hh
        refine e_orderOf (by omega) ?_
        rw [shl1 _ (by omega), pk_rem (by omega) (by omega) (by omega)]
        have hml : a / 16 % 2 ^ ord (szw (nw a) + 1) ≤ a / 16 := Nat.mod_le _ _
        refine pk_ne (a % 16) 0 (fun g1 => ?_) (fun g1 => ⟨nI_ne0 (by omega) (by omega), pk_ne (a / 16 % 2 ^ ord (szw (nw a) + 1)) 0 (fun g2 => ?_) (fun g2 => e_areFree (fun q hq => (hM q hq).1) hI.k (by omega) (by omega) (br_b (fun g3 => ?_) (fun g3 => ?_))) rfl rfl (by omega) (by omega)⟩) rfl rfl (by omega) (by omega)
        · rw [decide_eq_false (fun z => g1 z.1), Bool.false_and] at hh; exact hh
        · rw [decide_eq_false (fun z => g2 z.2), Bool.false_and] at hh; exact hh
        · rw [g3, Bool.and_false] at hh; exact hh
        · rw [g3, Bool.and_true, decide_eq_true (by exact ⟨g1, g2⟩)] at hh; exact hh
      · have h9 : szw (nw a) + 1 ≤ 8 := by
          have := (not_congr (cls_0 (n := szw (nw a) + 1))).mp (by omega)
          omega
        rw [if_pos h9] at hh
        have hn0 : ¬ nI (cls (szw (nw a) + 1)) = 0 := nI_ne0 w (by omega)
        rw [pk_rem (by omega) w (by omega), pk_div (by omega) w (by omega), show (16 : Int32) / nI (cls (szw (nw a) + 1)) = nI (16 / cls (szw (nw a) + 1)) from (pk_div (by omega) w (by omega) : nI 16 / nI (cls (szw (nw a) + 1)) = _)]
        have e1 : a % 16 % cls (szw (nw a) + 1) ≤ a % 16 := Nat.mod_le _ _
        have e2 : a % 16 / cls (szw (nw a) + 1) ≤ a % 16 := Nat.div_le_self _ _
        have e3 : 16 / cls (szw (nw a) + 1) ≤ 16 := Nat.div_le_self _ _
        refine ⟨hn0, pk_ne (a % 16 % cls (szw (nw a) + 1)) 0 (fun g4 => ?_) (fun g4 => ⟨hn0, hn0, pk_le (16 / cls (szw (nw a) + 1)) (a % 16 / cls (szw (nw a) + 1)) (fun g5 => ?_) (fun g5 => ⟨pk_in (a / 16) 256 (by omega), ?_⟩) rfl rfl (by omega) (by omega)⟩) rfl rfl (by omega) (by omega)⟩
        · rw [decide_eq_false (fun z => g4 z.1)] at hh; exact hh
        · rw [decide_eq_false (fun z => absurd z.2.1 (by omega))] at hh; exact hh
        · rw [nI_clamp (by omega), m1]
          refine pk_eq (K (a / 16)) 0 (fun g6 => ?_) (fun g6 => ⟨pk_in (a / 16) 256 (by omega), pk_ne (K (a / 16)) 1 (fun g7 => ?_) (fun g7 => ⟨pk_in (a / 16) 256 (by omega), ?_⟩) rfl rfl (by omega) (by omega)⟩) rfl rfl (by omega) (by omega)
          · rw [decide_eq_true (by exact ⟨g4, g5, Or.inl g6⟩)] at hh; exact hh
          · rw [decide_eq_false (fun z => z.2.2.elim g6 (fun y => g7 y.1))] at hh; exact hh
          · have hpv : pgv K F (a / 16) = nI (F (a / 16)) := by unfold pgv; rw [if_neg (by omega), if_neg (by omega)]
            rw [m2, hpv]
            refine pk_ne (F (a / 16)) (cls (szw (nw a) + 1)) (fun g8 => ?_) (fun g8 => ?_) rfl rfl (by omega) (by omega)
            · rw [decide_eq_false (fun z => z.2.2.elim g6 (fun y => g8 y.2))] at hh; exact hh
            · rw [decide_eq_true (by exact ⟨g4, g5, Or.inr ⟨g7, g8⟩⟩)] at hh; exact hh
    · rw [decide_eq_false (fun z => g ⟨z.2.2.1, z.2.2.2.1, z.2.2.2.2⟩), Bool.false_and] at h
      exact h _ _ _ _ _
  · have : RX K F nw x = false := RX_f (by
      rcases q with q | q
      · exact Or.inl q
      · refine Or.inr (fun z => ?_)
        rw [Int32.lt_iff_toInt_lt] at q z
        have e1 : (4095 : Int32).toInt = 4095 := by decide
        have e2 : (4096 : Int32).toInt = 4096 := by decide
        omega)
    rw [this] at h
    exact h _ _ _ _ _
end OG
