/-! OPS B: head, scribble, page, next, extents -/
section OB
variable {K F B : Nat → Nat} {nw kp qu qd : Nat → Int32} {n : Nat} {Lq : Nat → Nat}
theorem ge0_of {x y : Int32} {c : Nat} (hy : y = nI c) (hc : c < 2 ^ 31) (h : ¬ x < y) : ¬ x < 0 := by
  intro z
  apply h
  subst hy
  rw [Int32.lt_iff_toInt_lt] at z ⊢
  rw [nI_toInt hc]
  have e0 : (0 : Int32).toInt = 0 := by decide
  omega
theorem is_N {x lo hi : Int32} {a b : Nat} (ha : lo = nI a) (hb : hi = nI b) (ha' : a < 2 ^ 31) (hb' : b < 2 ^ 31) (h1 : ¬ x < lo) (h2 : ¬ hi < x) : ∃ j, a ≤ j ∧ j ≤ b ∧ x = nI j := by
  obtain ⟨j, hj, rfl⟩ := nI_of (ge0_of ha ha' h1)
  subst ha hb
  refine ⟨j, ?_, ?_, rfl⟩
  · rcases Nat.lt_or_ge j a with w | w
    · exact absurd (nI_lt w ha') h1
    · exact w
  · rcases Nat.lt_or_ge b j with w | w
    · exact absurd (nI_lt w hj) h2
    · exact w
theorem is_Nn {lo hi : Int32} {a b j : Nat} (ha : lo = nI a) (hb : hi = nI b) (ha' : a < 2 ^ 31) (hj : j < 2 ^ 31) (h : nI j < lo ∨ hi < nI j) (hb' : b < 2 ^ 31) : ¬ (a ≤ j ∧ j ≤ b) := by
  subst ha hb
  rintro ⟨h1, h2⟩
  rcases h with q | q
  · exact absurd ((nI_ltI hj ha').mp q) (by omega)
  · exact absurd ((nI_ltI hb' hj).mp q) (by omega)
-- head
def HC (x y z : Int32) : Prop := ∃ a s r, 16 ≤ a ∧ a < 4096 ∧ 1 ≤ s ∧ s ≤ 2047 ∧ r ≤ s ∧ x = nI a ∧ y = nI s ∧ z = nI r
theorem cl_head {post : Int32 → Prop} {x y z : Int32} (ht : ∀ a s r, 16 ≤ a → a < 4096 → 1 ≤ s → s ≤ 2047 → r ≤ s → x = nI a → y = nI s → z = nI r → post (hdv a s r)) (hf : ¬ HC x y z → post 0) : wX2_head post x y z := by
  have h25 : ¬ HC x y z → wX2_head_25 post x y z := fun g => ⟨fun _ => hf g, fun q => absurd rfl q⟩
  unfold wX2_head
  refine ⟨fun g => h25 ?_, fun g => ⟨fun g2 => h25 ?_, fun g2 => e_isShape (fun sh => ⟨fun q => absurd q (by decide), fun _ => ?_⟩) (fun sh => ⟨fun _ => h25 ?_, fun q => absurd rfl q⟩)⟩⟩
  · rintro ⟨a, s, r, h1, h2, -, -, -, rfl, -, -⟩
    exact absurd ((nI_ltI (a := a) (b := 16) (by omega) (by omega)).mp g) (by omega)
  · rintro ⟨a, s, r, h1, h2, -, -, -, rfl, -, -⟩
    exact absurd ((nI_leI (a := 4096) (b := a) (by omega) (by omega)).mp g2) (by omega)
  · obtain ⟨s, r, s1, s2, s3, rfl, rfl⟩ := shp_N sh
    obtain ⟨a, ha, rfl⟩ := nI_of (ge0_of (c := 16) rfl (by omega) g)
    have ha' : a < 4096 := by
      rcases Nat.lt_or_ge a 4096 with w | w
      · exact w
      · exact absurd (show nI 4096 ≤ nI a from nI_le w ha) g2
    have ha16 : 16 ≤ a := by
      rcases Nat.lt_or_ge a 16 with w | w
      · exact absurd (show nI a < nI 16 from nI_lt w (by omega)) g
      · exact w
    refine ⟨fun q => absurd q (by decide), fun _ => e_headOf ha' (by omega) (by omega) (ht a s r ha16 ha' s1 s2 s3 rfl rfl rfl)⟩
  · rintro ⟨a, s, r, h1, h2, h3, h4, h5, rfl, rfl, rfl⟩
    exact sh (shp_of h3 h4 h5)
theorem mo_head {post : Int32 → Int32 → Prop} {x y z mth : Int32} (ht : ∀ a s r, 16 ≤ a → a < 4096 → 1 ≤ s → s ≤ 2047 → r ≤ s → x = nI a → y = nI s → z = nI r → post (hdv a s r) 0) (hf : ¬ HC x y z → post 0 0) : wX3_head post mth x y z := by
  unfold wX3_head
  refine e_is (fun q1 q2 => ⟨fun w => absurd w (by decide), fun _ => e_is (fun q3 q4 => ⟨fun w => absurd w (by decide), fun _ => e_is (fun q5 q6 => ⟨fun w => absurd w (by decide), fun _ => ?_⟩) (fun q => ⟨fun _ => hf ?_, fun w => absurd rfl w⟩)⟩) (fun q => ⟨fun _ => hf ?_, fun w => absurd rfl w⟩)⟩) (fun q => ⟨fun _ => hf ?_, fun w => absurd rfl w⟩)
  · obtain ⟨a, a1, a2, rfl⟩ := is_N (a := 16) (b := 4095) rfl rfl (by omega) (by omega) q1 q2
    obtain ⟨s, s1, s2, rfl⟩ := is_N (a := 1) (b := 2047) rfl rfl (by omega) (by omega) q3 q4
    obtain ⟨r, r1, r2, rfl⟩ := is_N (a := 0) (b := s) rfl rfl (by omega) (by omega) q5 q6
    exact e_mheadOf (by omega) (by omega) (by omega) (ht a s r a1 (by omega) s1 s2 r2 rfl rfl rfl)
  · rintro ⟨a, s, r, h1, h2, h3, h4, h5, rfl, rfl, rfl⟩
    exact is_Nn (a := 0) (b := s) rfl rfl (by omega) (by omega) q (by omega) ⟨by omega, h5⟩
  · rintro ⟨a, s, r, h1, h2, h3, h4, h5, rfl, rfl, rfl⟩
    exact is_Nn (a := 1) (b := 2047) rfl rfl (by omega) (by omega) q (by omega) ⟨h3, h4⟩
  · rintro ⟨a, s, r, h1, h2, h3, h4, h5, rfl, rfl, rfl⟩
    exact is_Nn (a := 16) (b := 4095) rfl rfl (by omega) (by omega) q (by omega) ⟨h1, by omega⟩
-- scribble
def WI (x : Int32) : Prop := ∃ w, 16 ≤ w ∧ w < 4096 ∧ x = nI w
theorem cl_scr_3 {post : Int32 → Int32 → (Nat → Int32) → (Nat → Int32) → (Nat → Int32) → Int32 → Prop} {tr v x ql : Int32} {kd fm tk : Nat → Int32} (hn : ¬ WI x) (h : post 0 3 nw qu qd ql) : wX2_scribble post tr nw qu qd ql kd fm tk x v := by
  have h13 : wX2_scribble_13 post kd fm tk tr nw qu qd ql := settle3 ⟨nb_0, h⟩
  unfold wX2_scribble
  refine ⟨fun _ => h13, fun g => ⟨fun g2 => absurd ?_ hn, fun _ => h13⟩⟩
  obtain ⟨a, ha, rfl⟩ := nI_of (ge0_of (c := 16) rfl (by omega) g)
  refine ⟨a, ?_, ?_, rfl⟩
  · rcases Nat.lt_or_ge a 16 with w | w
    · exact absurd (show nI a < nI 16 from nI_lt w (by omega)) g
    · exact w
  · exact (nI_ltI (a := a) (b := 4096) ha (by omega)).mp g2
theorem cl_scr_2 {post : Int32 → Int32 → (Nat → Int32) → (Nat → Int32) → (Nat → Int32) → Int32 → Prop} {tr v ql : Int32} {w : Nat} (hI : PI K F B) (hS : SI K F B nw) (h1 : 16 ≤ w) (h2 : w < 4096) (hb : IB K F B nw w) (h : post 0 2 nw qu qd ql) : wX2_scribble post tr nw qu qd ql (nn K) (nn F) (nn B) (nI w) v := by
  unfold wX2_scribble
  refine pk_lt w 16 (fun g => absurd g (by omega)) (fun _ => pk_lt w 4096 (fun _ => e_isOfBlock hI hS h2 (fun _ => ⟨fun q => absurd q (by decide), fun _ => settle2 ⟨nb_0, h⟩⟩) (fun g => absurd hb g)) (fun g => absurd g (by omega)))
theorem cl_scr_0 {post : Int32 → Int32 → (Nat → Int32) → (Nat → Int32) → (Nat → Int32) → Int32 → Prop} {tr v : Int32} {w : Nat} (hI : PI K F B) (hS : SI K F B nw) (hQ : QI nw kp qu qd n Lq) (h1 : 16 ≤ w) (h2 : w < 4096) (hb : ¬ IB K F B nw w) (h : post 1 0 (upd nw w v) (wqu qu n Lq (w / 8)) (wqd qd n Lq (w / 8)) (nI (wqn n Lq (w / 8)))) : wX2_scribble post tr nw qu qd (nI n) (nn K) (nn F) (nn B) (nI w) v := by
  unfold wX2_scribble
  refine pk_lt w 16 (fun g => absurd g (by omega)) (fun _ => pk_lt w 4096 (fun _ => e_isOfBlock hI hS h2 (fun g => absurd g hb) (fun _ => ⟨fun _ => e_write hQ h2 (settle0 ⟨nb_1, h⟩), fun q => absurd rfl q⟩)) (fun g => absurd g (by omega)))
theorem mo_scr_3 {post : Int32 → (Nat → Int32) → (Nat → Int32) → (Nat → Int32) → Int32 → Int32 → Int32 → Prop} {mt mth v x mn : Int32} {ml : Nat → Int32} (hn : ¬ WI x) (h : post 0 nw qd qu mn 3 0) : wX3_scribble post nw ml qd qu mn mt mth x v := by
  unfold wX3_scribble
  refine e_is (fun q1 q2 => absurd ?_ hn) (fun _ => ⟨fun w => absurd rfl w, fun _ => ⟨nb_0, h⟩⟩)
  obtain ⟨w, w1, w2, rfl⟩ := is_N (a := 16) (b := 4095) rfl rfl (by omega) (by omega) q1 q2
  exact ⟨w, w1, by omega, rfl⟩
theorem mo_scr {post : Int32 → (Nat → Int32) → (Nat → Int32) → (Nat → Int32) → Int32 → Int32 → Int32 → Prop} {mt mth v mn : Int32} {w : Nat} (hI : PI K F B) (h1 : 16 ≤ w) (h2 : w < 4096) (hy : IB K F B nw w → post 0 nw qd qu mn 2 0) (hw : ¬ IB K F B nw w → wX3_write (fun mw_4 mq_5 mwt_6 mn_7 => post 1 mw_4 mq_5 mwt_6 mn_7 0 0) nw qd qu mn (nI w) v) : wX3_scribble post nw (bz (LV K F B)) qd qu mn mt mth (nI w) v := by
  have st : ∀ (d a : Nat), a + d = w + 1 → (∀ b, b < a → LV K F B b = true → ¬ w ≤ b + szw (nw b)) → wX3_scribble_27 post (bz (LV K F B)) (d + 1) (nI w) v (nI a) nw qd qu mn mt 0 := by
    intro d
    induction d with
    | zero =>
      intro a hd hb
      unfold wX3_scribble_27
      refine pk_lt w a (fun _ => hw ?_) (fun g => absurd g (by omega)) rfl rfl (by omega) (by omega)
      rintro ⟨b, l, g1, g2⟩
      exact hb b (by omega) l g2
    | succ d ih =>
      intro a hd hb
      unfold wX3_scribble_27
      refine pk_lt w a (fun g => absurd g (by omega)) (fun _ => ⟨pk_in a 4096 (by omega), ?_⟩) rfl rfl (by omega) (by omega)
      rw [nI_clamp (by omega), bz_v]
      have go : (LV K F B a = true → ¬ w ≤ a + szw (nw a)) → ∀ x : Int32, x = nI a + 1 → wX3_scribble_27 post (bz (LV K F B)) (d + 1) (nI w) v x nw qd qu mn mt 0 := by
        intro g x hx
        rw [hx, nI_1]
        refine ih (a + 1) (by omega) (fun b hb' l => ?_)
        by_cases e : b = a
        · subst e; exact g l
        · exact hb b (by omega) l
      refine br_b (fun l => go (fun l2 => by rw [l] at l2; cases l2)) (fun l => e_sizeAt (by omega) ?_)
      have hz := szw_lt (nw a)
      rw [nI_add]
      exact pk_lt (a + szw (nw a)) w (fun g => go (fun _ => by omega)) (fun g => ⟨nb_0, hy ⟨a, l, by omega, g⟩⟩) rfl rfl (by omega) (by omega)
  unfold wX3_scribble
  refine e_is_t (nI_nlt (a := w) (b := 16) h1 (by omega)) (nI_nlt (a := 4095) (b := w) (by omega) (by omega)) ⟨fun _ => ⟨_, st (w + 1 - 16) 16 (by omega) (fun b hb l => absurd (LV_ge hI l).1 (by omega))⟩, fun q => absurd q (by decide)⟩
theorem IB_no {w : Nat} (hw : ¬ IB K F B nw w) : LV K F B w = false := by
  rw [Bool.eq_false_iff]
  exact fun l => hw ⟨w, l, by omega, by omega⟩
-- page
theorem cl_page {post : Int32 → Prop} {x y : Int32} (hI : PI K F B) (h0 : ∀ p, p < 256 → x = nI p → y = 0 → post (nI (K p))) (h1 : ∀ p, p < 256 → x = nI p → y = 1 → post (pgv K F p)) (h2 : ∀ p, p < 256 → x = nI p → y = 2 → post (nI (pop (B p)))) (h3 : ∀ p, p < 256 → x = nI p → y = 3 → post (nI (fsv K F p))) (hf : (¬ ∃ p, p < 256 ∧ x = nI p) ∨ y < 0 ∨ 3 < y → post (-1)) : wX2_page post (nn K) (nn F) (nn B) x y := by
  unfold wX2_page
  have hbad : (x < 0 ∨ nI 256 ≤ x) → ¬ ∃ p, p < 256 ∧ x = nI p := by
    rintro g ⟨i, hi, rfl⟩
    rcases g with g | g
    · exact absurd g (nI_pos (by omega))
    · exact absurd ((nI_leI (by omega) (by omega)).mp g) (by omega)
  rcases pk_ix x (n := 256) (by omega) with q | q | ⟨p, hp, rfl⟩
  · exact e_isPage_f (Or.inl q) ⟨fun z => absurd rfl z, fun _ => hf (Or.inl (hbad (Or.inl q)))⟩
  · exact e_isPage_f (Or.inr q) ⟨fun z => absurd rfl z, fun _ => hf (Or.inl (hbad (Or.inr q)))⟩
  · exact e_isPage_t hp ⟨fun _ => ⟨fun g => hf (Or.inr (Or.inl g)), fun _ => ⟨fun g => hf (Or.inr (Or.inr g)), fun _ => ⟨fun e => e_kindOf hp (h0 p hp rfl e), fun e => e_formOf hI hp (h1 p hp rfl e), fun e => e_blocksOn hI hp (h2 p hp rfl e), fun e => e_firstOf hI hp (h3 p hp rfl e)⟩⟩⟩, fun z => absurd z (by decide)⟩
theorem mo_page {post : Int32 → Int32 → (Nat → Int32) → (Nat → Int32) → (Nat → Int32) → (Nat → Int32) → (Nat → Int32) → Prop} {x y mth : Int32} {mkind msort mfirst mblk mfree : Nat → Int32} (hI : PI K F B) (hS : SI K F B nw) (h0 : ∀ p, p < 256 → x = nI p → y = 0 → ∀ a b c d e, post (nI (K p)) 0 a b c d e) (h1 : ∀ p, p < 256 → x = nI p → y = 1 → ∀ a b c d e, post (pgv K F p) 0 a b c d e) (h2 : ∀ p, p < 256 → x = nI p → y = 2 → ∀ a b c d e, post (nI (pop (B p))) 0 a b c d e) (h3 : ∀ p, p < 256 → x = nI p → y = 3 → ∀ a b c d e, post (nI (fsv K F p)) 0 a b c d e) (hf : (¬ ∃ p, p < 256 ∧ x = nI p) ∨ y < 0 ∨ 3 < y → ∀ a b c d e, post (-1) 0 a b c d e) : wX3_page post nw (bz (LV K F B)) mth mkind msort mfirst mblk mfree x y := by
  unfold wX3_page
  refine e_is (fun q1 q2 => ⟨fun _ => e_map hI hS (fun a b c d e hM => ?_), fun z => absurd z (by decide)⟩) (fun q => ⟨fun z => absurd rfl z, fun _ => hf (Or.inl ?_) _ _ _ _ _⟩)
  · obtain ⟨p, p1, p2, rfl⟩ := is_N (a := 0) (b := 255) rfl rfl (by omega) (by omega) q1 q2
    have hp : p < 256 := by omega
    obtain ⟨m1, m2, m3, m4, m5⟩ := hM p hp
    rw [nI_clamp (by omega), m1, m2, m3, m4]
    exact ⟨fun g => hf (Or.inr (Or.inl g)) _ _ _ _ _, fun _ => ⟨fun g => hf (Or.inr (Or.inr g)) _ _ _ _ _, fun _ => ⟨fun e => ⟨pk_in p 256 hp, h0 p hp rfl e _ _ _ _ _⟩, fun e => ⟨pk_in p 256 hp, h1 p hp rfl e _ _ _ _ _⟩, fun e => ⟨pk_in p 256 hp, h2 p hp rfl e _ _ _ _ _⟩, fun e => ⟨pk_in p 256 hp, h3 p hp rfl e _ _ _ _ _⟩⟩⟩⟩
  · rintro ⟨p, hp, rfl⟩
    exact is_Nn (a := 0) (b := 255) rfl rfl (by omega) (by omega) q (by omega) ⟨by omega, by omega⟩
-- next, extents
theorem fe_fo {p o : Nat} (hp : p < 256) (ho : o ≤ 8) : (p % 2 ^ o = 0 ∧ fe K p o = true) ↔ (K p = 0 ∧ fo K p = o ∧ p / 2 ^ fo K p * 2 ^ fo K p = p) := by
  constructor
  · rintro ⟨h1, h2⟩
    have e : p / 2 ^ o * 2 ^ o = p := Nat.div_mul_cancel (Nat.dvd_of_mod_eq_zero h1)
    rw [← e, fe_al, Bool.and_eq_true] at h2
    have hr : rn K p o = true := by have := h2.1; unfold ra at this; rw [e] at this; exact this
    have h0 : K p = 0 := by
      have := (rn_iff.mp hr).2 0 (Nat.two_pow_pos o)
      rwa [Nat.add_zero] at this
    have hf : fo K p = o := (fo_eq hp h0 ho h2.1).mpr (by simpa using h2.2)
    exact ⟨h0, hf, by rw [hf]; exact e⟩
  · rintro ⟨h0, hf, e⟩
    rw [hf] at e
    refine ⟨by rw [← e]; exact Nat.mul_mod_left _ _, ?_⟩
    rw [← e, fe_al]
    have ht := fo_t hp h0
    rw [hf] at ht
    rw [ht, (fo_eq hp h0 ho ht).mp hf]
    rfl
theorem e_taken {post : Int32 → Prop} {mk so fi bl fr : Nat → Int32} {q : Nat} (hM : MP K F B mk so fi bl fr) (hq : q ≤ 8) (h : ∀ r, XF K q r → post r) : wX3_taken post fi fr (nI q) := by
  have inner : ∀ (J : Int32 → Prop) (o : Nat), o ≤ 8 → q ≤ o → (∀ o' p', q ≤ o' → o' < o → p' < 256 → p' % 2 ^ o' = 0 → fe K p' o' = false) → ((∀ p', p' < 256 → p' % 2 ^ o = 0 → fe K p' o = false) → J (nI (o + 1))) →
      ∀ (d p : Nat), p + d = 256 → (∀ p', p' < p → p' % 2 ^ o = 0 → fe K p' o = false) → wX3_taken_10 post fi fr J (d + 1) (nI o) (nI p) := by
    intro J o ho hqo hlow hJ d
    induction d with
    | zero =>
      intro p hd hpre
      unfold wX3_taken_10
      refine pk_le 256 p (fun _ => ?_) (fun g => absurd g (by omega)) rfl rfl (by omega) (by omega)
      intro x hx
      rw [hx, nI_1]
      exact hJ (fun p' h1 h2 => hpre p' (by omega) h2)
    | succ d ih =>
      intro p hd hpre
      have hp : p < 256 := by omega
      obtain ⟨m1, m2, m3, m4, m5⟩ := hM p hp
      unfold wX3_taken_10
      refine pk_le 256 p (fun g => absurd g (by omega)) (fun _ => ⟨pk_in p 256 hp, ?_⟩) rfl rfl (by omega) (by omega)
      rw [nI_clamp (by omega), m5, m3]
      have go : ¬ (p % 2 ^ o = 0 ∧ fe K p o = true) → ∀ x : Int32, x = nI p + 1 → wX3_taken_10 post fi fr J (d + 1) (nI o) x := by
        intro g x hx
        rw [hx, nI_1]
        refine ih (p + 1) (by omega) (fun p' h1 h2 => ?_)
        by_cases e : p' = p
        · subst e
          rw [Bool.eq_false_iff]
          exact fun w => g ⟨h2, w⟩
        · exact hpre p' (by omega) h2
      have h8 := fo_le (K := K) p
      by_cases z : K p = 0
      · rw [if_pos z]
        have hfs : fsv K F p = p / 2 ^ fo K p * 2 ^ fo K p := by unfold fsv; rw [if_neg (by omega), if_pos z]
        have hle := (al_lt p (fo K p)).1
        rw [hfs]
        refine pk_ne (fo K p) o (fun w => go (fun y => w ((fe_fo hp ho).mp y).2.1)) (fun w => ⟨pk_in p 256 hp, ?_⟩) rfl rfl (by omega) (by omega)
        refine pk_ne (p / 2 ^ fo K p * 2 ^ fo K p) p (fun w2 => go (fun y => w2 ((fe_fo hp ho).mp y).2.2)) (fun w2 => ?_) rfl rfl (by omega) (by omega)
        have y := (fe_fo (K := K) hp ho).mpr ⟨z, w, w2⟩
        exact h _ (Or.inr ⟨o, p, hqo, ho, hp, y.1, y.2, rfl, hlow, hpre⟩)
      · rw [if_neg z]
        exact ⟨fun _ => go (fun y => z ((fe_fo hp ho).mp y).1), fun w => absurd w.symm (nI_m1 _ (by omega))⟩
  have outer : ∀ (d o : Nat), o + d = 9 → q ≤ o → (∀ o' p', q ≤ o' → o' < o → p' < 256 → p' % 2 ^ o' = 0 → fe K p' o' = false) → wX3_taken_2 post fi fr (d + 1) (nI o) := by
    intro d
    induction d with
    | zero =>
      intro o hd hqo hlow
      unfold wX3_taken_2
      refine pk_lt 8 o (fun _ => h _ (Or.inl ⟨rfl, fun o' p' h1 h2 h3 h4 => hlow o' p' h1 (by omega) h3 h4⟩)) (fun g => absurd g (by omega)) rfl rfl (by omega) (by omega)
    | succ d ih =>
      intro o hd hqo hlow
      unfold wX3_taken_2
      refine pk_lt 8 o (fun g => absurd g (by omega)) (fun _ => ⟨257, inner _ o (by omega) hqo hlow (fun hall => ih (o + 1) (by omega) (by omega) (fun o' p' h1 h2 h3 h4 => ?_)) 256 0 (by omega) (fun p' h1 _ => absurd h1 (by omega))⟩) rfl rfl (by omega) (by omega)
      by_cases e : o' = o
      · subst e; exact hall p' h3 h4
      · exact hlow o' p' h1 (by omega) h3 h4
  exact ⟨_, outer (9 - q) q (by omega) (Nat.le_refl q) (fun o' p' h1 h2 => absurd h2 (by omega))⟩
theorem cl_next {post : Int32 → Prop} {x : Int32} (hI : PI K F B) (ht : ∀ q, q ≤ 8 → x = nI q → ∀ r, XF K q r → post r) (hf : (¬ ∃ q, q ≤ 8 ∧ x = nI q) → post (-1)) : wX2_next post (nn K) x := by
  unfold wX2_next
  rcases pk_ix x (n := 9) (by omega) with q | q | ⟨o, ho, rfl⟩
  · refine e_extentFor_f (Or.inl q) (hf ?_)
    rintro ⟨i, hi, rfl⟩
    exact absurd q (nI_pos (by omega))
  · have h8 : 8 < x := by
      rw [Int32.le_iff_toInt_le] at q
      rw [Int32.lt_iff_toInt_lt]
      have e0 : (8 : Int32).toInt = 8 := by decide
      have e1 : (nI 9).toInt = 9 := by decide
      omega
    refine e_extentFor_f (Or.inr h8) (hf ?_)
    rintro ⟨i, hi, rfl⟩
    exact absurd ((nI_leI (by omega) (by omega)).mp q) (by omega)
  · exact e_extentFor hI.k (by omega) (ht o (by omega) rfl)
theorem mo_next {post : Int32 → Int32 → (Nat → Int32) → (Nat → Int32) → (Nat → Int32) → (Nat → Int32) → (Nat → Int32) → Prop} {x mth : Int32} {mkind msort mfirst mblk mfree : Nat → Int32} (hI : PI K F B) (hS : SI K F B nw) (ht : ∀ q, q ≤ 8 → x = nI q → ∀ r, XF K q r → ∀ a b c d e, post r 0 a b c d e) (hf : (¬ ∃ q, q ≤ 8 ∧ x = nI q) → ∀ a b c d e, post (-1) 0 a b c d e) : wX3_next post nw (bz (LV K F B)) mth mkind msort mfirst mblk mfree x := by
  unfold wX3_next
  refine e_is (fun q1 q2 => ⟨fun _ => e_map hI hS (fun a b c d e hM => ?_), fun z => absurd z (by decide)⟩) (fun q => ⟨fun z => absurd rfl z, fun _ => hf ?_ _ _ _ _ _⟩)
  · obtain ⟨o, o1, o2, rfl⟩ := is_N (a := 0) (b := 8) rfl rfl (by omega) (by omega) q1 q2
    exact e_taken hM o2 (fun r hr => ht o o2 rfl r hr _ _ _ _ _)
  · rintro ⟨o, ho, rfl⟩
    exact is_Nn (a := 0) (b := 8) rfl rfl (by omega) (by omega) q (by omega) ⟨by omega, ho⟩
def fx (K : Nat → Nat) (o : Nat) : Nat → Bool := fun p => decide (p % 2 ^ o = 0) && fe K p o
theorem e_freeExtents {post : Int32 → Prop} {o : Nat} (hk : ∀ p, K p ≤ 4) (ho : o ≤ 8) (h : post (nI (cnt (fx K o) 256))) : wX0_freeExtents post (nn K) (nI o) := by
  have h2 := p2le ho
  have st : ∀ (d p : Nat), p % 2 ^ o = 0 → p + d * 2 ^ o = 256 → cnt (fx K o) p ≤ p → wX0_freeExtents_13 post (nn K) (d + 1) (nI o) (nI (cnt (fx K o) p)) (nI p) := by
    intro d
    induction d with
    | zero =>
      intro p hp hd hc
      have e : p = 256 := by omega
      subst e
      unfold wX0_freeExtents_13
      exact pk_le 256 256 (fun _ => h) (fun g => absurd g (by omega)) rfl rfl (by omega) (by omega)
    | succ d ih =>
      intro p hp hd hc
      rw [Nat.add_mul, Nat.one_mul] at hd
      have es : cnt (fx K o) (p + 2 ^ o) = cnt (fx K o) (p + 1) := cnt_skip (by omega) (fun x h1 h2 => by
        have : ¬ x % 2 ^ o = 0 := fun z => mult_gap hp z (by omega) (by omega)
        unfold fx; rw [decide_eq_false this, Bool.false_and])
      have hv : fx K o p = fe K p o := by unfold fx; rw [decide_eq_true hp, Bool.true_and]
      unfold wX0_freeExtents_13
      refine pk_le 256 p (fun g => absurd g (by omega)) (fun _ => ?_) rfl rfl (by omega) (by omega)
      refine e_isFreeExtent hk (by omega) ho (br_b (fun g => ?_) (fun g => ?_))
      · intro x hx
        rw [hx, shl1 o (by omega), nI_add]
        rw [← hv] at g
        rw [cnt_f g] at es
        rw [← es]
        exact ih (p + 2 ^ o) (p2dvd hp) (by omega) (by omega)
      · intro y hy x hx
        rw [hx, hy, shl1 o (by omega), nI_add, nI_1]
        rw [← hv] at g
        rw [cnt_t g] at es
        rw [← es]
        exact ih (p + 2 ^ o) (p2dvd hp) (by omega) (by omega)
  unfold wX0_freeExtents
  have hd : 256 / 2 ^ o * 2 ^ o = 256 := (show ∀ o, o ≤ 8 → 256 / 2 ^ o * 2 ^ o = 256 by decide) o ho
  exact e_isOrder_t ho ⟨fun _ => ⟨_, st (256 / 2 ^ o) 0 (by simp) (by omega) (Nat.le_refl 0)⟩, fun g => absurd g (by decide)⟩
theorem cl_extents {post : Int32 → Prop} {x : Int32} (hI : PI K F B) (ht : ∀ q, q ≤ 8 → x = nI q → post (nI (cnt (fx K q) 256))) (hf : (¬ ∃ q, q ≤ 8 ∧ x = nI q) → post (-1)) : wX2_extents post (nn K) x := by
  unfold wX2_extents
  rcases pk_ix x (n := 9) (by omega) with q | q | ⟨o, ho, rfl⟩
  · unfold wX0_freeExtents
    refine e_isOrder_f (Or.inl q) ⟨fun z => absurd rfl z, fun _ => hf ?_⟩
    rintro ⟨i, hi, rfl⟩
    exact absurd q (nI_pos (by omega))
  · have h8 : 8 < x := by
      rw [Int32.le_iff_toInt_le] at q
      rw [Int32.lt_iff_toInt_lt]
      have e0 : (8 : Int32).toInt = 8 := by decide
      have e1 : (nI 9).toInt = 9 := by decide
      omega
    unfold wX0_freeExtents
    refine e_isOrder_f (Or.inr h8) ⟨fun z => absurd rfl z, fun _ => hf ?_⟩
    rintro ⟨i, hi, rfl⟩
    exact absurd ((nI_leI (by omega) (by omega)).mp q) (by omega)
  · exact e_freeExtents hI.k (by omega) (ht o (by omega) rfl)
theorem cnt_leN (P : Nat → Bool) (n : Nat) : cnt P n ≤ n := by
  induction n with
  | zero => exact Nat.le_refl 0
  | succ n ih => rw [cnt_s]; split <;> omega
theorem mo_extents {post : Int32 → Int32 → (Nat → Int32) → (Nat → Int32) → (Nat → Int32) → (Nat → Int32) → (Nat → Int32) → Prop} {x mth : Int32} {mkind msort mfirst mblk mfree : Nat → Int32} (hI : PI K F B) (hS : SI K F B nw) (ht : ∀ q, q ≤ 8 → x = nI q → ∀ a b c d e, post (nI (cnt (fx K q) 256)) 0 a b c d e) (hf : (¬ ∃ q, q ≤ 8 ∧ x = nI q) → ∀ a b c d e, post (-1) 0 a b c d e) : wX3_extents post nw (bz (LV K F B)) mth mkind msort mfirst mblk mfree x := by
  unfold wX3_extents
  refine e_is (fun q1 q2 => ⟨fun _ => e_map hI hS (fun a b c d e hM => ?_), fun z => absurd z (by decide)⟩) (fun q => ⟨fun z => absurd rfl z, fun _ => hf ?_ _ _ _ _ _⟩)
  · obtain ⟨o, o1, o2, rfl⟩ := is_N (a := 0) (b := 8) rfl rfl (by omega) (by omega) q1 q2
    have st : ∀ (f p : Nat), p + f = 256 → wX3_extents_26 post nw (bz (LV K F B)) (f + 1) (nI o) (nI (cnt (fx K o) p)) (nI p) 0 a b c d e := by
      intro f
      induction f with
      | zero =>
        intro p hp
        have e' : p = 256 := by omega
        subst e'
        unfold wX3_extents_26
        exact pk_le 256 256 (fun _ => ht o o2 rfl _ _ _ _ _) (fun g => absurd g (by omega)) rfl rfl (by omega) (by omega)
      | succ f ih =>
        intro p hp
        have hp' : p < 256 := by omega
        obtain ⟨m1, m2, m3, m4, m5⟩ := hM p hp'
        have hc := cnt_leN (fx K o) p
        unfold wX3_extents_26
        refine pk_le 256 p (fun g => absurd g (by omega)) (fun _ => ⟨pk_in p 256 hp', ?_⟩) rfl rfl (by omega) (by omega)
        rw [nI_clamp (by omega), m5, m3]
        have go : ¬ (p % 2 ^ o = 0 ∧ fe K p o = true) → ∀ y : Int32, y = nI (cnt (fx K o) p) + 0 → ∀ x : Int32, x = nI p + 1 → wX3_extents_26 post nw (bz (LV K F B)) (f + 1) (nI o) y x 0 a b c d e := by
          intro g y hy x hx
          have hv : fx K o p = false := by
            unfold fx
            by_cases z : p % 2 ^ o = 0
            · rw [decide_eq_true z, Bool.true_and, Bool.eq_false_iff]
              exact fun w => g ⟨z, w⟩
            · rw [decide_eq_false z, Bool.false_and]
          have := ih (p + 1) (by omega)
          rw [cnt_f hv] at this
          rw [hx, hy, nI_1, show (0 : Int32) = nI 0 from rfl, nI_add, Nat.add_zero]
          exact this
        have h8 := fo_le (K := K) p
        by_cases z : K p = 0
        · rw [if_pos z]
          have hfs : fsv K F p = p / 2 ^ fo K p * 2 ^ fo K p := by unfold fsv; rw [if_neg (by omega), if_pos z]
          have hle := (al_lt p (fo K p)).1
          rw [hfs]
          refine pk_ne (fo K p) o (fun w => go (fun y => w ((fe_fo hp' o2).mp y).2.1)) (fun w => ⟨pk_in p 256 hp', ?_⟩) rfl rfl (by omega) (by omega)
          refine pk_ne (p / 2 ^ fo K p * 2 ^ fo K p) p (fun w2 => go (fun y => w2 ((fe_fo hp' o2).mp y).2.2)) (fun w2 => ?_) rfl rfl (by omega) (by omega)
          have y := (fe_fo (K := K) hp' o2).mpr ⟨z, w, w2⟩
          intro u hu x hx
          have hv : fx K o p = true := by unfold fx; rw [decide_eq_true y.1, y.2]; rfl
          have := ih (p + 1) (by omega)
          rw [cnt_t hv] at this
          rw [hx, hu, nI_1, nI_1]
          exact this
        · rw [if_neg z]
          exact ⟨fun _ => go (fun y => z ((fe_fo hp' o2).mp y).1), fun w => absurd w.symm (nI_m1 _ (by omega))⟩
    exact ⟨_, st 256 0 (by omega)⟩
  · rintro ⟨o, ho, rfl⟩
    exact is_Nn (a := 0) (b := 8) rfl rfl (by omega) (by omega) q (by omega) ⟨by omega, ho⟩
end OB
