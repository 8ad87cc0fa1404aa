/-! PURE I: heads and sizes; which words a block has -/
theorem hdv_n (a s r : Nat) : hdv a s r = nI (((31 * a + 7 * s + 13 * r + 90) % 512 + 1) * 4194304 + s * 2048 + r) := by
  unfold hdv
  rw [show (4194304 : Int32) = nI 4194304 from rfl, show (2048 : Int32) = nI 2048 from rfl, pk_mul, pk_mul, nI_add, nI_add]
theorem hdv_tn {a s r : Nat} (hs : s < 2048) (hr : r < 2048) : (hdv a s r).toBitVec.toNat = ((31 * a + 7 * s + 13 * r + 90) % 512 + 1) * 4194304 + s * 2048 + r := by
  rw [hdv_n]
  have : (31 * a + 7 * s + 13 * r + 90) % 512 < 512 := Nat.mod_lt _ (by omega)
  exact pk_tn (by omega)
theorem hdv_s {a s r : Nat} (hs : s < 2048) (hr : r < 2048) : szw (hdv a s r) = s := by
  unfold szw
  rw [hdv_tn hs hr]
  generalize (31 * a + 7 * s + 13 * r + 90) % 512 + 1 = c
  omega
theorem hdv_r {a s r : Nat} (hs : s < 2048) (hr : r < 2048) : rfw (hdv a s r) = r := by
  unfold rfw
  rw [hdv_tn hs hr]
  generalize (31 * a + 7 * s + 13 * r + 90) % 512 + 1 = c
  omega
section PJ
variable {K F B : Nat → Nat} {nw : Nat → Int32}
def SI (K F B : Nat → Nat) (nw : Nat → Int32) : Prop := ∀ a, LV K F B a = true → 1 ≤ szw (nw a) ∧ rfw (nw a) ≤ szw (nw a) ∧ (K (a / 16) = 1 → szw (nw a) + 1 ≤ 8 ∧ cls (szw (nw a) + 1) = F (a / 16)) ∧ (K (a / 16) = 2 → 8 < szw (nw a) + 1 ∧ ord (szw (nw a) + 1) = F (a / 16))
/-- a live block of a slab: its slot holds it -/
theorem SI.slab (hI : PI K F B) (hS : SI K F B nw) {a : Nat} (h : LV K F B a = true) (h1 : K (a / 16) = 1) : szw (nw a) < F (a / 16) ∧ a % 16 + F (a / 16) ≤ 16 ∧ a % 16 % F (a / 16) = 0 ∧ 0 < F (a / 16) := by
  obtain ⟨l1, l2, l3, l4, l5⟩ := LV_iff.mp h
  have est := (hI.st1 h1).1
  rw [est] at l2 l3 l4
  obtain ⟨s1, s2, s3, -⟩ := hS a h
  have := s3 h1
  have hg := cls_ge this.1
  have hm : a % 16 / F (a / 16) * F (a / 16) = a % 16 := Nat.div_mul_cancel (Nat.dvd_of_mod_eq_zero l3)
  have h8 : (a % 16 / F (a / 16) + 1) * F (a / 16) ≤ 16 / F (a / 16) * F (a / 16) := Nat.mul_le_mul_right _ l4
  have h9 := Nat.div_mul_le_self 16 (F (a / 16))
  rw [Nat.add_mul, Nat.one_mul, hm] at h8
  exact ⟨by omega, by omega, l3, l2⟩
/-- a live block that is an extent -/
theorem SI.ext (hI : PI K F B) (hS : SI K F B nw) {a : Nat} (h : LV K F B a = true) (h2 : K (a / 16) = 2) : a % 16 = 0 ∧ szw (nw a) < 16 * 2 ^ F (a / 16) ∧ a / 16 + 2 ^ F (a / 16) ≤ 256 := by
  obtain ⟨l1, l2, l3, l4, l5⟩ := LV_iff.mp h
  rw [stp2 h2] at l3
  obtain ⟨s1, s2, -, s3⟩ := hS a h
  have := s3 h2
  have hz := szw_lt (nw a)
  have hg := ord_ge (n := szw (nw a) + 1) (by omega)
  rw [this.2] at hg
  exact ⟨by omega, by omega, (hI.s2 h2).2.2.1⟩
theorem SI.in (hI : PI K F B) (hS : SI K F B nw) {a : Nat} (h : LV K F B a = true) : a + szw (nw a) < 4096 := by
  rcases LV_k h with h1 | h2
  · have := hS.slab hI h h1
    have := (LV_ge hI h).2
    omega
  · have := hS.ext hI h h2
    omega
theorem SI.nohead (hI : PI K F B) (hS : SI K F B nw) {a i : Nat} (h : LV K F B a = true) (h0 : 0 < i) (hi : i ≤ szw (nw a)) : LV K F B (a + i) = false := by
  rw [Bool.eq_false_iff]
  intro q
  obtain ⟨q1, q2, q3, q4, q5⟩ := LV_iff.mp q
  rcases LV_k h with h1 | h2
  · obtain ⟨s1, s2, s3, s4⟩ := hS.slab hI h h1
    have ep : (a + i) / 16 = a / 16 := by omega
    rw [ep, (hI.st1 h1).1] at q3
    have em : (a + i) % 16 = a % 16 + i := by omega
    rw [em] at q3
    exact mult_gap s3 q3 (by omega) (by omega)
  · obtain ⟨s1, s2, s3⟩ := hS.ext hI h h2
    by_cases e : (a + i) / 16 = a / 16
    · rw [e, stp2 h2] at q3
      omega
    · have := ((hI.s2 h2).2.2.2.2 ((a + i) / 16 - a / 16) (by omega) (by omega)).1
      rw [show a / 16 + ((a + i) / 16 - a / 16) = (a + i) / 16 by omega] at this
      rw [stp0 (by omega) (by omega)] at q2
      omega
theorem SI.upd (hS : SI K F B nw) {w : Nat} (hw : LV K F B w = false) (v : Int32) : SI K F B (upd nw w v) := by
  intro a h
  have e : a ≠ w := fun z => by rw [z, hw] at h; cases h
  rw [pk_un e]
  exact hS a h
/-- the block over a word, as the class finds it -/
theorem blk_slab (hI : PI K F B) (hS : SI K F B nw) {a w : Nat} (h : LV K F B a = true) (h1 : K (a / 16) = 1) (g1 : a ≤ w) (g2 : w ≤ a + szw (nw a)) : w / 16 = a / 16 ∧ w % 16 / stp K F (w / 16) = sl K F a := by
  obtain ⟨s1, s2, s3, s4⟩ := hS.slab hI h h1
  have ep : w / 16 = a / 16 := by omega
  refine ⟨ep, ?_⟩
  unfold sl
  rw [ep, (hI.st1 h1).1]
  have hm : a % 16 / F (a / 16) * F (a / 16) = a % 16 := Nat.div_mul_cancel (Nat.dvd_of_mod_eq_zero s3)
  have ew : w % 16 = a % 16 / F (a / 16) * F (a / 16) + (w - a) := by omega
  have hd : (w - a) / F (a / 16) = 0 := Nat.div_eq_of_lt (by omega)
  rw [ew, Nat.mul_comm (a % 16 / F (a / 16)) (F (a / 16)), Nat.mul_add_div s4, hd, Nat.add_zero]
theorem blk_ext (hI : PI K F B) (hS : SI K F B nw) {a w : Nat} (h : LV K F B a = true) (h2 : K (a / 16) = 2) (g1 : a ≤ w) (g2 : w ≤ a + szw (nw a)) : (w / 16 = a / 16) ∨ (K (w / 16) = 3 ∧ w / 16 / 2 ^ F (w / 16) * 2 ^ F (w / 16) = a / 16) := by
  obtain ⟨s1, s2, s3⟩ := hS.ext hI h h2
  obtain ⟨t1, t2, t3, t4, t5⟩ := hI.s2 h2
  by_cases e : w / 16 = a / 16
  · exact Or.inl e
  · have := t5 (w / 16 - a / 16) (by omega) (by omega)
    rw [show a / 16 + (w / 16 - a / 16) = w / 16 by omega] at this
    refine Or.inr ⟨this.1, ?_⟩
    rw [this.2]
    have hl := al_lt (w / 16) (F (a / 16))
    rcases Nat.lt_trichotomy (w / 16 / 2 ^ F (a / 16) * 2 ^ F (a / 16)) (a / 16) with z | z | z
    · exact absurd (mult_gap (m := 2 ^ F (a / 16)) (p := w / 16 / 2 ^ F (a / 16) * 2 ^ F (a / 16)) (p' := a / 16) (by rw [Nat.mul_mod_left]) t2 z (by omega)) (fun q => q)
    · exact z
    · exact absurd (mult_gap (m := 2 ^ F (a / 16)) (p := a / 16) (p' := w / 16 / 2 ^ F (a / 16) * 2 ^ F (a / 16)) t2 (by rw [Nat.mul_mod_left]) z (by omega)) (fun q => q)
/-- a word that a live block has -/
def IB (K F B : Nat → Nat) (nw : Nat → Int32) (w : Nat) : Prop := ∃ a, LV K F B a = true ∧ a ≤ w ∧ w ≤ a + szw (nw a)
theorem e_sizeOf {post : Int32 → Prop} {a : Nat} (ha : a < 4096) (h : post (nI (szw (nw a)))) : wX2_sizeOf post nw (nI a) := by
  unfold wX2_sizeOf
  exact e_at ha (e_sizeIn h)
theorem e_refsOf {post : Int32 → Prop} {a : Nat} (ha : a < 4096) (h : post (nI (rfw (nw a)))) : wX2_refsOf post nw (nI a) := by
  unfold wX2_refsOf
  exact e_at ha (e_refsIn h)
theorem e_lengthOf {post : Int32 → Prop} {a : Nat} (ha : a < 4096) (h : post (nI (szw (nw a) + 1))) : wX2_lengthOf post nw (nI a) := by
  unfold wX2_lengthOf
  refine e_sizeOf ha ?_
  rw [nI_1]; exact h
theorem e_blockOver {post : Int32 → Prop} {w : Nat} (hI : PI K F B) (hS : SI K F B nw) (hw : w < 4096) (hn : (∀ a, LV K F B a = true → a ≤ w → w ≤ a + szw (nw a) → False) → post (-1)) (ha : ∀ a, LV K F B a = true → a ≤ w → (∀ b, LV K F B b = true → b ≤ w → w ≤ b + szw (nw b) → b = a) → post (nI a)) : wX0_blockOver post (nn K) (nn F) (nn B) (nI w) := by
  have hk := hI.k (w / 16)
  have b38 : K (w / 16) ≠ 3 → wX0_blockOver_38 post (nn K) (nn F) (nn B) (nI w) (nI (w / 16)) := by
    intro h3
    unfold wX0_blockOver_38
    have h16 := hI.st (w / 16)
    refine e_stepOf hI (by omega) (pk_le (stp K F (w / 16)) 0 (fun g => hn (fun a l g1 g2 => ?_)) (fun g => ⟨nI_ne0 g (by omega), ?_⟩) rfl rfl (by omega) (by omega))
    · rcases LV_k l with h1 | h2
      · have e := (blk_slab hI hS l h1 g1 g2).1
        rw [e, (hI.st1 h1).1] at g
        have := (hI.st1 h1).2.1
        omega
      · rcases blk_ext hI hS l h2 g1 g2 with e | e
        · rw [e, stp2 h2] at g; omega
        · exact h3 e.1
    · rw [show nI w - nI w / 16 * 16 = nI (w % 16) from pk_rem (d := 16) (by omega) (by omega) (by omega), pk_div (by omega) g (by omega)]
      have hd : w % 16 / stp K F (w / 16) ≤ w % 16 := Nat.div_le_self _ _
      refine e_blockIn hI (by omega) (by omega) ?_
      have hm : w % 16 / stp K F (w / 16) * stp K F (w / 16) ≤ w % 16 := Nat.div_mul_le_self _ _
      have cov : ∀ b, LV K F B b = true → b ≤ w → w ≤ b + szw (nw b) → bt (B (w / 16)) (w % 16 / stp K F (w / 16)) = true ∧ b = w / 16 * 16 + w % 16 / stp K F (w / 16) * stp K F (w / 16) := by
        intro b l g1 g2
        have t := LV_sl hI l
        rcases LV_k l with h1 | h2
        · have e := blk_slab hI hS l h1 g1 g2
          rw [e.2, e.1]
          exact ⟨t.2.1, by rw [t.2.2]; omega⟩
        · rcases blk_ext hI hS l h2 g1 g2 with e | e
          · have s := hS.ext hI l h2
            have e16 : stp K F (w / 16) = 16 := by rw [e]; exact stp2 h2
            have b1 := (hI.s2 h2).2.2.2.1
            rw [e16, e, show w % 16 / 16 = 0 by omega, b1]
            exact ⟨by decide, by omega⟩
          · exact absurd e.1 h3
      by_cases q : bt (B (w / 16)) (w % 16 / stp K F (w / 16)) = true
      · rw [if_pos q]
        have hs : w % 16 / stp K F (w / 16) < 16 / stp K F (w / 16) := by
          by_cases h1 : K (w / 16) = 1
          · have := hI.s1 h1
            rw [(hI.st1 h1).1] at q ⊢
            exact bt_lt _ this.1 _ this.2.2 _ (by
              have f2 := (hI.st1 h1).2.1
              have : w % 16 / F (w / 16) ≤ w % 16 / 2 := Nat.div_le_div_left f2 (by omega)
              omega) q
          · by_cases h2 : K (w / 16) = 2
            · rw [stp2 h2]; omega
            · rw [stp0 h1 h2] at g; omega
        refine ha _ (by rw [LV_slot hI (by omega) hs]; exact q) (by omega) (fun b l g1 g2 => (cov b l g1 g2).2)
      · rw [if_neg q]
        exact hn (fun a l g1 g2 => q (cov a l g1 g2).1)
  unfold wX0_blockOver
  refine e_pageOf hw (e_isPage_t (by omega) ⟨fun g => absurd g (by decide), fun _ => ⟨pk_in (w / 16) 256 (by omega), ?_⟩⟩)
  rw [nI_clamp (by omega)]
  refine pk_ne (K (w / 16)) 3 (fun h3 => b38 h3) (fun h3 => ⟨pk_in (w / 16) 256 (by omega), ?_⟩) rfl rfl (by omega) (by omega)
  obtain ⟨t1, t2, t3⟩ := hI.s3 h3
  have hal := al_lt (w / 16) (F (w / 16))
  refine e_alignedTo (by omega) (by omega) ?_
  refine e_blockIn (s := 0) hI (by omega) (by omega) ?_
  have hq := hI.s2 t2
  rw [if_pos (by rw [hq.2.2.2.1]; decide), Nat.zero_mul, Nat.add_zero]
  refine ha _ ?_ (by omega) (fun b l g1 g2 => ?_)
  · have := LV_slot hI (p := w / 16 / 2 ^ F (w / 16) * 2 ^ F (w / 16)) (s := 0) (by omega) (by rw [stp2 t2]; omega)
    rw [Nat.zero_mul, Nat.add_zero] at this
    rw [this, hq.2.2.2.1]; decide
  · rcases LV_k l with h1 | h2
    · have e := (blk_slab hI hS l h1 g1 g2).1
      rw [e] at h3; omega
    · rcases blk_ext hI hS l h2 g1 g2 with e | e
      · rw [e] at h3; omega
      · have s := hS.ext hI l h2
        rw [e.2]; omega
theorem e_isOfBlock {post : Int32 → Prop} {w : Nat} (hI : PI K F B) (hS : SI K F B nw) (hw : w < 4096) (ht : IB K F B nw w → post 1) (hf : ¬ IB K F B nw w → post 0) : wX2_isOfBlock post nw (nn K) (nn F) (nn B) (nI w) := by
  unfold wX2_isOfBlock
  refine e_blockOver hI hS hw (fun g => ⟨fun _ => hf (fun ⟨a, l, g1, g2⟩ => g a l g1 g2), fun g => absurd rfl g⟩) (fun a l g1 g2 => ⟨fun g => absurd g (nI_m1 _ (by omega)), fun _ => ?_⟩)
  have hz := szw_lt (nw a)
  refine e_lengthOf (by omega) ?_
  rw [pk_sub g1]
  refine pk_le (szw (nw a) + 1) (w - a) (fun g => hf ?_) (fun g => ht ⟨a, l, g1, by omega⟩) rfl rfl (by omega) (by omega)
  rintro ⟨b, lb, q1, q2⟩
  have := g2 b lb q1 q2
  subst this
  omega
-- the model's small readers
theorem e_is_t {post : Int32 → Prop} {x lo hi : Int32} (h1 : ¬ x < lo) (h2 : ¬ hi < x) (h : post 1) : wX3_is post x lo hi := ⟨fun g => absurd g h1, fun _ => ⟨fun g => absurd g h2, fun _ => h⟩⟩
theorem e_is_f {post : Int32 → Prop} {x lo hi : Int32} (hx : x < lo ∨ hi < x) (h : post 0) : wX3_is post x lo hi := ⟨fun _ => h, fun g => ⟨fun _ => h, fun g2 => absurd (hx.resolve_left g) g2⟩⟩
theorem e_is {post : Int32 → Prop} {x lo hi : Int32} (ht : ¬ x < lo → ¬ hi < x → post 1) (hf : (x < lo ∨ hi < x) → post 0) : wX3_is post x lo hi := ⟨fun g => hf (Or.inl g), fun g1 => ⟨fun g => hf (Or.inr g), fun g2 => ht g1 g2⟩⟩
theorem ashr_v (x : Int32) : ((x >>> ((11 : Int32) &&& 31)) &&& 2047) = nI (szw x) := by
  have h : (x >>> ((11 : Int32) &&& 31)).toBitVec = x.toBitVec.sshiftRight 11 := rfl
  rw [pk_and _ 11 (by decide), h]
  unfold szw
  congr 1
  have e : (x.toBitVec.sshiftRight 11).toNat % 2 ^ 11 = x.toBitVec.toNat / 2048 % 2048 := by
    apply Nat.eq_of_testBit_eq
    intro i
    rw [Nat.testBit_mod_two_pow, show (2048 : Nat) = 2 ^ 11 from rfl, Nat.testBit_mod_two_pow, Nat.testBit_div_two_pow]
    by_cases g : i < 11
    · have e1 : (x.toBitVec.sshiftRight 11).toNat.testBit i = (x.toBitVec.sshiftRight 11).getLsbD i := rfl
      have e2 : x.toBitVec.toNat.testBit (i + 11) = x.toBitVec.getLsbD (i + 11) := rfl
      rw [e1, e2, BitVec.getLsbD_sshiftRight]
      simp [g]
      have hi : ¬ 32 ≤ i := by omega
      have hj : 11 + i < 32 := by omega
      simp [hi, hj, Nat.add_comm]
      intro hh
      exact absurd hh (by omega)
    · simp [g]
  exact e
theorem e_sizeAt {post : Int32 → Prop} {a : Nat} (ha : a < 4096) (h : post (nI (szw (nw a)))) : wX3_sizeAt post nw (nI a) := by
  unfold wX3_sizeAt
  refine ⟨pk_in a 4096 ha, ?_⟩
  rw [nI_clamp (by omega), ashr_v]; exact h
theorem e_refsAt {post : Int32 → Prop} {a : Nat} (ha : a < 4096) (h : post (nI (rfw (nw a)))) : wX3_refsAt post nw (nI a) := by
  unfold wX3_refsAt
  refine ⟨pk_in a 4096 ha, ?_⟩
  rw [nI_clamp (by omega), refsIn_v]; exact h
theorem bz_v (P : Nat → Bool) (a : Nat) : bz P a = bI (P a) := rfl
theorem e_isBlock {post : Int32 → Prop} {x : Int32} (hI : PI K F B) (h : post (bI (LX K F B x))) : wX3_isBlock post (bz (LV K F B)) x := by
  unfold wX3_isBlock
  refine e_is (fun h1 h2 => ?_) (fun g => ?_)
  · refine ⟨fun g => absurd g (by decide), fun _ => ?_⟩
    have h0 : ¬ x < 0 := fun g => h1 (by
      rw [Int32.lt_iff_toInt_lt] at g ⊢
      have e0 : (0 : Int32).toInt = 0 := by decide
      have e1 : (16 : Int32).toInt = 16 := by decide
      omega)
    obtain ⟨a, ha, rfl⟩ := nI_of h0
    have ha' : a < 4096 := by
      rcases Nat.lt_or_ge a 4096 with z | z
      · exact z
      · exact absurd (show nI 4095 < nI a from nI_lt (by omega) ha) h2
    refine ⟨pk_in a 4096 ha', ?_⟩
    rw [nI_clamp ha, bz_v]
    rw [LX_N ha] at h
    exact br_b (fun g => by rw [g] at h; exact h) (fun g => by rw [g] at h; exact h)
  · have e : LX K F B x = false := by
      rw [Bool.eq_false_iff]
      intro q
      obtain ⟨a, ha, rfl, l⟩ := LX_t q
      have := LV_ge hI l
      rcases g with g | g
      · exact absurd ((nI_ltI (a := a) (b := 16) (by omega) (by omega)).mp g) (by omega)
      · exact absurd ((nI_ltI (a := 4095) (b := a) (by omega) (by omega)).mp g) (by omega)
    rw [e] at h
    exact ⟨fun _ => h, fun g => absurd rfl g⟩
theorem e_mheadOf {post : Int32 → Prop} {a s r : Nat} (ha : a < 4096) (hs : s < 2048) (hr : r < 2048) (h : post (hdv a s r)) : wX3_headOf post (nI a) (nI s) (nI r) := by
  unfold wX3_headOf
  rw [hd_arg]
  intro x hx
  have hx' : x = nI ((31 * a + 7 * s + 13 * r + 90) % 512) + 1 := by
    rw [hx]
    congr 1
    exact pk_rem (d := 512) (by omega) (by omega) (by omega)
  rw [hx', nI_1]
  exact h
theorem e_classOf {post : Int32 → Prop} {n : Nat} (hn : n < 4096) (h : post (nI (cls n))) : wX3_classOf post (nI n) := by
  unfold wX3_classOf
  unfold cls at h
  refine pk_le n 8 (fun g => pk_lt 2 n (fun g2 => pk_lt 3 n (fun g3 => pk_lt 4 n (fun g4 => pk_lt 6 n (fun g6 => ?_) (fun g6 => ?_)) (fun g4 => ?_)) (fun g3 => ?_)) (fun g2 => ?_)) (fun g => ?_)
  · rw [if_neg (by omega), if_neg (by omega), if_neg (by omega), if_neg (by omega), if_pos (by omega)] at h; exact h
  · rw [if_neg (by omega), if_neg (by omega), if_neg (by omega), if_pos (by omega)] at h; exact h
  · rw [if_neg (by omega), if_neg (by omega), if_pos (by omega)] at h; exact h
  · rw [if_neg (by omega), if_pos (by omega)] at h; exact h
  · rw [if_pos (by omega)] at h; exact h
  · rw [if_neg (by omega), if_neg (by omega), if_neg (by omega), if_neg (by omega), if_neg (by omega)] at h; exact h
theorem e_orderOf {post : Int32 → Prop} {n : Nat} (hn : n ≤ 2048) (h : post (nI (ord n))) : wX3_orderOf post (nI n) := by
  have st : ∀ d i : Nat, i + d = ord n → wX3_orderOf_2 post (d + 1) (nI n) (nI i) := by
    intro d
    induction d with
    | zero =>
      intro i hi
      have h7 := ord_le n
      have hg := ord_ge hn
      have hb : 2 ^ i ≤ 2 ^ 7 := Nat.pow_le_pow_right (by omega) (by omega)
      unfold wX3_orderOf_2
      rw [shl16 i (by omega)]
      refine pk_le n (16 * 2 ^ i) (fun _ => ?_) (fun g => absurd g ?_) rfl rfl (by omega) (by omega)
      · rw [show i = ord n by omega]; exact h
      · rw [show i = ord n by omega]; omega
    | succ d ih =>
      intro i hi
      have h7 := ord_le n
      have hl := ord_lt (n := n) (o := i) (by omega)
      have hb : 2 ^ i ≤ 2 ^ 7 := Nat.pow_le_pow_right (by omega) (by omega)
      unfold wX3_orderOf_2
      rw [shl16 i (by omega)]
      refine pk_le n (16 * 2 ^ i) (fun g => absurd g (by omega)) (fun _ => ?_) rfl rfl (by omega) (by omega)
      intro x hx
      rw [hx, nI_1]
      exact ih (i + 1) (by omega)
  exact ⟨_, st (ord n) 0 (by omega)⟩
end PJ
