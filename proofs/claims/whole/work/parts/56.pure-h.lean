/-! PURE H: a block goes -/
section PH
variable {K F B : Nat → Nat}
def sl (K F : Nat → Nat) (a : Nat) : Nat := a % 16 / stp K F (a / 16)
def rmm (K F : Nat → Nat) (p : Nat) : Nat := if K p = 2 then 2 ^ F p else 1
def rK (K F B : Nat → Nat) (a : Nat) : Nat → Nat := if clr (B (a / 16)) (sl K F a) = 0 then ran K (a / 16) (rmm K F (a / 16)) 0 else K
def rF (K F B : Nat → Nat) (a : Nat) : Nat → Nat := if clr (B (a / 16)) (sl K F a) = 0 then ran F (a / 16) (rmm K F (a / 16)) 0 else F
def rB (K F B : Nat → Nat) (a : Nat) : Nat → Nat := up B (a / 16) (clr (B (a / 16)) (sl K F a))
theorem LV_k {a : Nat} (h : LV K F B a = true) : K (a / 16) = 1 ∨ K (a / 16) = 2 := by
  obtain ⟨-, h2, -⟩ := LV_iff.mp h
  by_cases e1 : K (a / 16) = 1
  · exact Or.inl e1
  · by_cases e2 : K (a / 16) = 2
    · exact Or.inr e2
    · rw [stp0 e1 e2] at h2; omega
theorem LV_sl (hI : PI K F B) {a : Nat} (h : LV K F B a = true) : sl K F a < 8 ∧ bt (B (a / 16)) (sl K F a) = true ∧ sl K F a * stp K F (a / 16) = a % 16 := by
  obtain ⟨h1, h2, h3, h4, h5⟩ := LV_iff.mp h
  have := slots_le hI (a / 16)
  unfold sl
  exact ⟨by omega, h5, Nat.div_mul_cancel (Nat.dvd_of_mod_eq_zero h3)⟩
theorem e_remove {post : (Nat → Int32) → (Nat → Int32) → (Nat → Int32) → Prop} {a : Nat} (hI : PI K F B) (hl : LV K F B a = true) (h : post (nn (rK K F B a)) (nn (rF K F B a)) (nn (rB K F B a))) : wX0_remove post (nn K) (nn F) (nn B) (nI a) := by
  obtain ⟨h1, h2, h3, h4, h5⟩ := LV_iff.mp hl
  obtain ⟨s1, s2, s3⟩ := LV_sl hI hl
  have hb := hI.b (a / 16)
  have hk := hI.k (a / 16)
  have loop : ∀ (T : Nat → Int32) (m : Nat), a / 16 + m ≤ 256 → (post (nn (ran K (a / 16) m 0)) (nn (ran F (a / 16) m 0)) T) → ∃ fu, wX0_remove_78 post fu (nI (a / 16)) (nI m) 0 (nn K) (nn F) T := by
    intro T m hm hp
    have st : ∀ (d i : Nat) (K' F' : Nat → Nat), i + d = m → (∀ j, K' j = if a / 16 ≤ j ∧ j < a / 16 + i then 0 else K j) → (∀ j, F' j = if a / 16 ≤ j ∧ j < a / 16 + i then 0 else F j) → wX0_remove_78 post (d + 1) (nI (a / 16)) (nI m) (nI i) (nn K') (nn F') T := by
      intro d
      induction d with
      | zero =>
        intro i K' F' hi hK hF
        unfold wX0_remove_78
        refine pk_le m i (fun _ => ?_) (fun g => absurd g (by omega)) rfl rfl (by omega) (by omega)
        have e : i = m := by omega
        subst e
        rw [show K' = ran K (a / 16) i 0 from funext hK, show F' = ran F (a / 16) i 0 from funext hF]; exact hp
      | succ d ih =>
        intro i K' F' hi hK hF
        unfold wX0_remove_78
        refine pk_le m i (fun g => absurd g (by omega)) (fun _ => ?_) rfl rfl (by omega) (by omega)
        rw [nI_add]
        refine e_lay (v := 0) (f := 0) (by omega) ?_
        intro y hy
        rw [hy, nI_1]
        refine ih (i + 1) _ _ (by omega) (fun j => ?_) (fun j => ?_)
        · by_cases e : j = a / 16 + i
          · rw [e, up_s, if_pos (by omega)]
          · rw [up_n _ e, hK j]
            by_cases b : a / 16 ≤ j ∧ j < a / 16 + i
            · rw [if_pos b, if_pos (by omega)]
            · rw [if_neg b, if_neg (by omega)]
        · by_cases e : j = a / 16 + i
          · rw [e, up_s, if_pos (by omega)]
          · rw [up_n _ e, hF j]
            by_cases b : a / 16 ≤ j ∧ j < a / 16 + i
            · rw [if_pos b, if_pos (by omega)]
            · rw [if_neg b, if_neg (by omega)]
    exact ⟨_, st m 0 K F (by omega) (fun j => by rw [if_neg (by omega)]) (fun j => by rw [if_neg (by omega)])⟩
  unfold rK rF rB at h
  unfold wX0_remove
  refine e_pageOf h1 (e_slotAt hI h1 ?_)
  rw [slv_pos h2 h3 h4]
  show wX2_isPage (fun r_3 => ((r_3 = 0 → _) ∧ (¬ r_3 = 0 → wX0_isTaken _ (nn B) (nI (a / 16)) (nI (sl K F a))))) _
  refine e_isPage_t (by omega) ⟨fun g => absurd g (by decide), fun _ => e_isTaken hb (by omega) (by omega) ?_⟩
  rw [s2]
  refine ⟨fun _ => ⟨pk_in (a / 16) 256 (by omega), pk_in (a / 16) 256 (by omega), pk_in (a / 16) 256 (by omega), ?_⟩, fun g => absurd g (by decide)⟩
  rw [nI_clamp (by omega)]
  have ev : (nn B (a / 16) &&& (((1 : Int32) <<< (nI (a % 16 / stp K F (a / 16)) &&& 31)) ^^^ (-1))) = nI (clr (B (a / 16)) (sl K F a)) := clr_v _ hb _ s1
  rw [ev, nn_upd]
  have hcl := clr_le _ hb _ s1
  show (¬ nI (up B (a / 16) (clr (B (a / 16)) (sl K F a)) (a / 16)) = 0 → _) ∧ (nI (up B (a / 16) (clr (B (a / 16)) (sl K F a)) (a / 16)) = 0 → _)
  rw [up_s]
  refine pk_ne (clr (B (a / 16)) (sl K F a)) 0 (fun g => ?_) (fun g => ⟨pk_in (a / 16) 256 (by omega), ?_⟩) rfl rfl (by omega) (by omega)
  · rw [if_neg g, if_neg g] at h; exact h
  · rw [if_pos g, if_pos g] at h
    unfold rmm at h
    refine pk_ne (K (a / 16)) 2 (fun g2 => ?_) (fun g2 => ⟨pk_in (a / 16) 256 (by omega), ?_⟩) rfl rfl (by omega) (by omega)
    · rw [if_neg g2] at h
      exact loop _ 1 (by omega) h
    · rw [if_pos g2] at h
      have hs := hI.s2 g2
      intro x hx
      have hx' : x = nI (2 ^ F (a / 16)) := by rw [hx]; exact shl1 _ (by omega)
      rw [hx']
      exact loop _ _ hs.2.2.1 h
theorem clr1 : clr 1 0 = 0 := by decide +kernel
theorem clr_z (b : Nat) (hb : b < 256) (s : Nat) (hs : s < 8) (h : clr b s = 0) (t : Nat) (ht : t < 8) (hbt : bt b t = true) : t = s := by
  have h1 := clr_bt b hb s hs t ht
  rw [h, bt_z, hbt, Bool.true_and] at h1
  by_cases e : t = s
  · exact e
  · rw [decide_eq_false e] at h1; cases h1
theorem PI_rem {a : Nat} (hI : PI K F B) (hl : LV K F B a = true) : PI (rK K F B a) (rF K F B a) (rB K F B a) ∧ ∀ x, LV (rK K F B a) (rF K F B a) (rB K F B a) x = (LV K F B x && !decide (x = a)) := by
  obtain ⟨h1, h2, h3, h4, h5⟩ := LV_iff.mp hl
  obtain ⟨s1, s2, s3⟩ := LV_sl hI hl
  have hb := hI.b (a / 16)
  have hp0 : 0 < a / 16 := by have := (LV_ge hI hl).1; omega
  have hcl := clr_le _ hb _ s1
  have key : ∀ x, x / 16 = a / 16 → LV K F B x = true → (x = a ↔ x % 16 / stp K F (a / 16) = sl K F a) := by
    intro x e q
    have := (LV_sl hI q).2.2
    unfold sl at this
    rw [e] at this
    constructor
    · intro z; rw [z]; rfl
    · intro z; rw [z, s3] at this; omega
  unfold rK rF rB
  by_cases g : clr (B (a / 16)) (sl K F a) = 0
  · rw [if_pos g, if_pos g, g]
    unfold rmm
    -- the page or the extent is free again
    have fin : ∀ m, (∀ j, a / 16 ≤ j → j < a / 16 + m → j < 256) → 0 < m → (K (a / 16) = 1 → m = 1) → (K (a / 16) = 2 → m = 2 ^ F (a / 16)) → PI (ran K (a / 16) m 0) (ran F (a / 16) m 0) (up B (a / 16) 0) ∧ ∀ x, LV (ran K (a / 16) m 0) (ran F (a / 16) m 0) (up B (a / 16) 0) x = (LV K F B x && !decide (x = a)) := by
      intro m hm hm0 hm1 hm2
      have kin : ∀ j, a / 16 ≤ j → j < a / 16 + m → ran K (a / 16) m 0 j = 0 := fun j q1 q2 => by unfold ran; rw [if_pos ⟨q1, q2⟩]
      have kout : ∀ j, ¬ (a / 16 ≤ j ∧ j < a / 16 + m) → ran K (a / 16) m 0 j = K j := fun j q => by unfold ran; rw [if_neg q]
      have fout : ∀ j, ¬ (a / 16 ≤ j ∧ j < a / 16 + m) → ran F (a / 16) m 0 j = F j := fun j q => by unfold ran; rw [if_neg q]
      have kz : ∀ {j}, ran K (a / 16) m 0 j ≠ 0 → ¬ (a / 16 ≤ j ∧ j < a / 16 + m) := fun {j} q z => q (kin j z.1 z.2)
      have k3 : ∀ j, a / 16 < j → j < a / 16 + m → K j = 3 ∧ F j = F (a / 16) ∧ K (a / 16) = 2 := by
        intro j q1 q2
        rcases LV_k hl with z | z
        · rw [hm1 z] at q2; omega
        · have := (hI.s2 z).2.2.2.2 (j - a / 16) (by omega) (by rw [hm2 z] at q2; omega)
          rw [show a / 16 + (j - a / 16) = j by omega] at this
          exact ⟨this.1, this.2, z⟩
      constructor
      · refine ⟨by rw [kout 0 (by omega)]; exact hI.k0, fun q => ?_, fun q => ?_, fun q => ?_, fun q hq => ?_, fun q g1 g2 => ?_, fun q g => ?_, fun q g => ?_, fun q g => ?_, fun q hq => ?_⟩
        · by_cases e : q = a / 16
          · rw [e, up_s]; omega
          · rw [up_n _ e]; exact hI.b q
        · unfold ran; split
          · omega
          · exact hI.f q
        · unfold ran; split
          · omega
          · exact hI.k q
        · unfold ran; split
          · omega
          · exact hI.n4 hq
        · by_cases e : q = a / 16
          · rw [e, up_s]
          · rw [up_n _ e]
            by_cases z : a / 16 ≤ q ∧ q < a / 16 + m
            · have := (k3 q (by omega) z.2).1
              exact hI.b0 (by omega) (by omega)
            · rw [kout q z] at g1 g2; exact hI.b0 g1 g2
        · have z := kz (j := q) (by omega)
          rw [kout q z] at g
          rw [fout q z, up_n _ (by omega)]; exact hI.s1 g
        · have z := kz (j := q) (by omega)
          rw [kout q z] at g
          rw [fout q z, up_n _ (by omega)]
          obtain ⟨t1, t2, t3, t4, t5⟩ := hI.s2 g
          refine ⟨t1, t2, t3, t4, fun i i0 i1 => ?_⟩
          have := t5 i i0 i1
          have hne : ¬ (a / 16 ≤ q + i ∧ q + i < a / 16 + m) := fun w => by
            by_cases e : q + i = a / 16
            · rw [e] at this
              rcases LV_k hl with y | y <;> omega
            · have k2 := (k3 (q + i) (by omega) w.2).2.2
              have := hI.uniq (p := q) (q := a / 16) (i := i) (j := q + i - a / 16) g k2 i1 (by rw [← hm2 k2]; omega) (by omega)
              omega
          rw [kout _ hne, fout _ hne]; exact this
        · have z := kz (j := q) (by omega)
          rw [kout q z] at g
          rw [fout q z]
          obtain ⟨t1, t2, t3⟩ := hI.s3 g
          have hne : ¬ (a / 16 ≤ q / 2 ^ F q * 2 ^ F q ∧ q / 2 ^ F q * 2 ^ F q < a / 16 + m) := fun w => by
            by_cases e : q / 2 ^ F q * 2 ^ F q = a / 16
            · rw [e] at t2 t3
              have hlt := al_lt q (F q)
              rw [e, ← t3, ← hm2 t2] at hlt
              exact z ⟨hlt.1, hlt.2⟩
            · have := (k3 _ (by omega) w.2).1
              omega
          rw [kout _ hne, fout _ hne]; exact ⟨t1, t2, t3⟩
        · have : ¬ (a / 16 ≤ q ∧ q < a / 16 + m) := fun z => by have := hm q z.1 z.2; omega
          rw [kout q this]; exact hI.o hq
      · intro x
        by_cases z : a / 16 ≤ x / 16 ∧ x / 16 < a / 16 + m
        · have e0 : LV (ran K (a / 16) m 0) (ran F (a / 16) m 0) (up B (a / 16) 0) x = false := by
            rw [Bool.eq_false_iff]
            intro q
            obtain ⟨-, q2, -⟩ := LV_iff.mp q
            have := kin _ z.1 z.2
            rw [stp0 (by omega) (by omega)] at q2; omega
          rw [e0]
          by_cases e : x / 16 = a / 16
          · by_cases q : LV K F B x = true
            · have hx : x = a := (key x e q).mpr (by
                have t := LV_sl hI q
                have t1 := t.1
                have t2 := t.2.1
                unfold sl at t1 t2
                rw [e] at t1 t2
                exact clr_z _ hb _ s1 g _ t1 t2)
              rw [hx, decide_eq_true rfl, Bool.not_true, Bool.and_false]
            · rw [Bool.eq_false_iff.mpr q, Bool.false_and]
          · have := k3 (x / 16) (by omega) z.2
            have e1 : LV K F B x = false := by
              rw [Bool.eq_false_iff]
              intro q
              obtain ⟨-, q2, -⟩ := LV_iff.mp q
              rw [stp0 (by omega) (by omega)] at q2; omega
            rw [e1, Bool.false_and]
        · have hne : x ≠ a := fun q => z (by rw [q]; omega)
          rw [decide_eq_false hne, Bool.not_false, Bool.and_true]
          unfold LV stp
          rw [kout _ z, fout _ z, up_n _ (by omega)]
    rcases LV_k hl with z | z
    · rw [if_neg (by omega)]
      exact fin 1 (fun j _ _ => by omega) (by omega) (fun _ => rfl) (fun w => by omega)
    · rw [if_pos z]
      have := (hI.s2 z).2.2.1
      exact fin _ (fun j _ _ => by omega) (Nat.two_pow_pos _) (fun w => by omega) (fun _ => rfl)
  · rw [if_neg g, if_neg g]
    have hk1 : K (a / 16) = 1 := by
      rcases LV_k hl with z | z
      · exact z
      · exfalso
        have e16 := stp2 (K := K) (F := F) z
        have : sl K F a = 0 := by unfold sl; rw [e16]; omega
        rw [this, (hI.s2 z).2.2.2.1] at g
        exact g clr1
    constructor
    · refine ⟨hI.k0, fun q => ?_, hI.f, hI.k, fun q hq => hI.n4 hq, fun q g1 g2 => ?_, fun q g1 => ?_, fun q g1 => ?_, fun q g1 => hI.s3 g1, fun q hq => hI.o hq⟩
      · by_cases e : q = a / 16
        · rw [e, up_s]; omega
        · rw [up_n _ e]; exact hI.b q
      · by_cases e : q = a / 16
        · rw [e] at g1; exact absurd hk1 g1
        · rw [up_n _ e]; exact hI.b0 g1 g2
      · by_cases e : q = a / 16
        · rw [e, up_s]
          have := hI.s1 hk1
          exact ⟨this.1, g, by omega⟩
        · rw [up_n _ e]; exact hI.s1 g1
      · have e : q ≠ a / 16 := fun z => by rw [z] at g1; omega
        rw [up_n _ e]; exact hI.s2 g1
    · intro x
      by_cases e : x / 16 = a / 16
      · have hx : LV K F (up B (a / 16) (clr (B (a / 16)) (sl K F a))) x = (decide (x < 4096 ∧ 0 < stp K F (x / 16) ∧ x % 16 % stp K F (x / 16) = 0 ∧ x % 16 / stp K F (x / 16) < 16 / stp K F (x / 16)) && bt (clr (B (a / 16)) (sl K F a)) (x % 16 / stp K F (x / 16))) := by
          unfold LV
          rw [e, up_s]
        rw [hx]
        by_cases c : x < 4096 ∧ 0 < stp K F (x / 16) ∧ x % 16 % stp K F (x / 16) = 0 ∧ x % 16 / stp K F (x / 16) < 16 / stp K F (x / 16)
        · have hs8 := slots_le hI (x / 16)
          have hlv : LV K F B x = bt (B (a / 16)) (x % 16 / stp K F (x / 16)) := by
            unfold LV
            rw [decide_eq_true c, Bool.true_and, e]
          rw [decide_eq_true c, Bool.true_and, clr_bt _ hb _ s1 _ (by omega), ← hlv]
          by_cases q : LV K F B x = true
          · have k1 := key x e q
            rw [← e] at k1
            have hd : decide (x % 16 / stp K F (x / 16) = sl K F a) = decide (x = a) := by
              by_cases z : x = a
              · rw [decide_eq_true z, decide_eq_true (k1.mp z)]
              · rw [decide_eq_false z, decide_eq_false (fun w => z (k1.mpr w))]
            rw [hd]
          · rw [Bool.eq_false_iff.mpr q, Bool.false_and, Bool.false_and]
        · have hlv : LV K F B x = false := by
            unfold LV
            rw [decide_eq_false c, Bool.false_and]
          rw [decide_eq_false c, Bool.false_and, hlv, Bool.false_and]
      · have hne : x ≠ a := fun q => e (by rw [q])
        rw [decide_eq_false hne, Bool.not_false, Bool.and_true]
        unfold LV
        rw [up_n _ e]
end PH
