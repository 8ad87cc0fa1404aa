/-! OPS C: what leads to a block; block, live, count, free -/
section OC
variable {K F B : Nat → Nat} {nw kp qu qd : Nat → Int32} {n : Nat} {Lq : Nat → Nat}
theorem nI_z (a : Nat) : nI a + 0 = nI a := by
  show nI a + nI 0 = nI a
  rw [nI_add, Nat.add_zero]
theorem sumL_cnt {P : Nat → Bool} {f : Nat → Nat} {a b : Nat} (h : cnt P a = cnt P b) : sumL P f a = sumL P f b := by
  have key : ∀ a b, a ≤ b → cnt P a = cnt P b → sumL P f b = sumL P f a := by
    intro a b hab e
    refine sumL_skip hab (fun x h1 h2 => ?_)
    rw [Bool.eq_false_iff]
    intro q
    have g1 := cnt_le (P := P) h1
    have g2 := cnt_lt q h2
    omega
  rcases Nat.le_total a b with z | z
  · exact (key a b z h).symm
  · exact key b a z h.symm
theorem cnt_inj {P : Nat → Bool} {a b : Nat} (ha : P a = true) (hb : P b = true) (h : cnt P a = cnt P b) : a = b := by
  rcases Nat.lt_trichotomy a b with z | z | z
  · have := cnt_lt ha z; omega
  · exact z
  · have := cnt_lt hb z; omega
theorem LV_16 (hI : PI K F B) {x : Nat} (h : x < 16) : LV K F B x = false := by
  rw [Bool.eq_false_iff]
  exact fun q => absurd (LV_ge hI q).1 (by omega)
theorem e_wordOf {post : Int32 → Prop} {a i : Nat} (h : post (nI (a + 1 + i))) : wX2_wordOf post (nI a) (nI i) := by
  unfold wX2_wordOf
  rw [nI_1, nI_add]; exact h
theorem e_rowAt {post : Int32 → Prop} {ro : Nat → Int32} {k : Nat} (hk : k < 2040) (h : post (ro k)) : wX2_rowAt post ro (nI k) := by
  unfold wX2_rowAt
  refine pk_lt k 0 (fun g => absurd g (by omega)) (fun _ => pk_le 2040 k (fun g => absurd g (by omega)) (fun _ => ⟨pk_in k 2040 hk, ?_⟩))
  rw [nI_clamp (by omega)]; exact h
def eqw (nw : Nat → Int32) (v : Int32) (s : Nat) : Nat → Bool := fun i => decide (nw (s + i) = v)
theorem e_equalWords {post : Int32 → Prop} {v : Int32} {s l : Nat} (h4 : s + l ≤ 4096) (h : post (nI (cnt (eqw nw v s) l))) : wX2_equalWords post nw (nI s) (nI l) v := by
  have st : ∀ d i : Nat, i + d = l → wX2_equalWords_6 post nw (d + 1) (nI s) (nI l) v (nI (cnt (eqw nw v s) i)) (nI i) := by
    intro d
    induction d with
    | zero =>
      intro i hi
      unfold wX2_equalWords_6
      refine pk_le l i (fun _ => ?_) (fun g => absurd g (by omega)) rfl rfl (by omega) (by omega)
      rw [show i = l by omega]; exact h
    | succ d ih =>
      intro i hi
      unfold wX2_equalWords_6
      refine pk_le l i (fun g => absurd g (by omega)) (fun _ => ?_) rfl rfl (by omega) (by omega)
      rw [nI_add s i]
      refine e_at (by omega) ⟨fun g => ?_, fun g => ?_⟩
      · intro x hx
        have := ih (i + 1) (by omega)
        rw [cnt_f (P := eqw nw v s) (decide_eq_false g)] at this
        rw [hx, nI_1]; exact this
      · intro y hy x hx
        have := ih (i + 1) (by omega)
        rw [cnt_t (P := eqw nw v s) (decide_eq_true g)] at this
        rw [hx, hy, nI_1, nI_1]; exact this
  exact ⟨_, st l 0 (by omega)⟩
def rfc (nw : Nat → Int32) (v : Int32) (a : Nat) : Nat := cnt (eqw nw v (a + 1)) (rfw (nw a))
/-- how many roots and references lead to v -/
def LDs (K F B : Nat → Nat) (nw : Nat → Int32) (v : Int32) : Nat := cnt (eqw nw v 1) 8 + sumL (LV K F B) (rfc nw v) 4096
theorem LDs_lt (v : Int32) : LDs K F B nw v < 2 ^ 31 := by
  have h1 := cnt_leN (eqw nw v 1) 8
  have h2 := sumL_le (P := LV K F B) (f := rfc nw v) (N := 2048) (fun x => by
    have := cnt_leN (eqw nw v (x + 1)) (rfw (nw x))
    have := rfw_lt (nw x)
    unfold rfc; omega) 4096
  have h3 := cnt_leN (LV K F B) 4096
  have h4 : cnt (LV K F B) 4096 * 2048 ≤ 4096 * 2048 := Nat.mul_le_mul_right _ h3
  unfold LDs
  omega
theorem e_leadsTo {post : Int32 → (Nat → Int32) → Prop} {ro : Nat → Int32} {v : Int32} (hI : PI K F B) (hS : SI K F B nw) (h : ∀ ro', post (nI (LDs K F B nw v)) ro') : wX2_leadsTo post ro nw (nn K) (nn F) (nn B) v := by
  unfold wX2_leadsTo
  refine e_equalWords (s := 1) (l := 8) (by omega) (e_listLive hI (fun ro' hr hc => ?_))
  have st : ∀ (d k m : Nat), k + d = cnt (LV K F B) 4096 → m ≤ 4096 → cnt (LV K F B) m = k → wX2_leadsTo_17 post nw (nn K) (nn F) (nn B) (d + 1) v (nI (cnt (eqw nw v 1) 8 + sumL (LV K F B) (rfc nw v) m)) (nI (cnt (LV K F B) 4096)) (nI k) ro' := by
    intro d
    induction d with
    | zero =>
      intro k m hk hm hc'
      unfold wX2_leadsTo_17
      refine pk_le (cnt (LV K F B) 4096) k (fun _ => ?_) (fun g => absurd g (by omega)) rfl rfl (by omega) (by omega)
      rw [sumL_cnt (a := m) (b := 4096) (by omega)]; exact h ro'
    | succ d ih =>
      intro k m hk hm hc'
      obtain ⟨a, a1, a2, a3⟩ := cnt_inv (P := LV K F B) (j := k) (m := 4096) (by omega)
      have hin := hS.in hI a2
      have hrs := (hS a a2).2.1
      have er : ro' k = nI a := by rw [← a3]; exact hr a a1 a2
      unfold wX2_leadsTo_17
      refine pk_le (cnt (LV K F B) 4096) k (fun g => absurd g (by omega)) (fun _ => ?_) rfl rfl (by omega) (by omega)
      refine e_rowAt (by omega) ?_
      rw [er]
      refine e_wordOf (i := 0) (e_refsOf a1 (e_equalWords (by omega) ?_))
      intro y hy x hx
      rw [hx, hy, nI_1, nI_add]
      have := ih (k + 1) (a + 1) (by omega) (by omega) (by rw [cnt_t a2, a3])
      rw [sumL_s, if_pos a2, sumL_cnt (a := a) (b := m) (by omega), ← Nat.add_assoc] at this
      exact this
  have := st (cnt (LV K F B) 4096) 0 0 (by omega) (by omega) rfl
  exact ⟨_, this⟩
theorem e_leading {post : Int32 → Prop} {v : Int32} (hI : PI K F B) (hS : SI K F B nw) (h : post (nI (LDs K F B nw v))) : wX3_leading post nw (bz (LV K F B)) v := by
  have inner : ∀ (J : Int32 → Int32 → Int32 → Prop) (a s : Nat), LV K F B a = true → J v (nI (s + rfc nw v a)) (nI (a + 1)) → ∀ d i : Nat, i + d = rfw (nw a) → wX3_leading_59 post nw (bz (LV K F B)) J (d + 1) v (nI (s + cnt (eqw nw v (a + 1)) i)) (nI a) (nI i) := by
    intro J a s l hJ d
    have ha := (LV_ge hI l).2
    have hin := hS.in hI l
    have hrs := (hS a l).2.1
    have hr := rfw_lt (nw a)
    induction d with
    | zero =>
      intro i hi
      unfold wX3_leading_59
      refine e_refsAt ha (pk_le (rfw (nw a)) i (fun _ => ?_) (fun g => absurd g (by omega)) rfl rfl (by omega) (by omega))
      intro x hx
      rw [hx, nI_1, show i = rfw (nw a) by omega]; exact hJ
    | succ d ih =>
      intro i hi
      unfold wX3_leading_59
      refine e_refsAt ha (pk_le (rfw (nw a)) i (fun g => absurd g (by omega)) (fun _ => ?_) rfl rfl (by omega) (by omega))
      rw [nI_1, nI_add (a + 1) i, nI_clamp (by omega)]
      refine ⟨pk_in (a + 1 + i) 4096 (by omega), fun g => ?_, fun g => ?_⟩
      · intro y hy x hx
        have := ih (i + 1) (by omega)
        rw [cnt_f (P := eqw nw v (a + 1)) (decide_eq_false g)] at this
        rw [hx, hy, nI_1, nI_z]; exact this
      · intro y hy x hx
        have := ih (i + 1) (by omega)
        rw [cnt_t (P := eqw nw v (a + 1)) (decide_eq_true g), ← Nat.add_assoc] at this
        rw [hx, hy, nI_1, nI_1]; exact this
  have outer : ∀ d a : Nat, a + d = 4096 → wX3_leading_37 post nw (bz (LV K F B)) (d + 1) v (nI (cnt (eqw nw v 1) 8 + sumL (LV K F B) (rfc nw v) a)) (nI a) := by
    intro d
    induction d with
    | zero =>
      intro a hd
      have e : a = 4096 := by omega
      subst e
      unfold wX3_leading_37
      exact pk_le 4096 4096 (fun _ => h) (fun g => absurd g (by omega)) rfl rfl (by omega) (by omega)
    | succ d ih =>
      intro a hd
      have := ih (a + 1) (by omega)
      rw [sumL_s] at this
      unfold wX3_leading_37
      refine pk_le 4096 a (fun g => absurd g (by omega)) (fun _ => ⟨pk_in a 4096 (by omega), ?_⟩) rfl rfl (by omega) (by omega)
      rw [nI_clamp (by omega), bz_v]
      refine br_nb (fun l => ?_) (fun l => ?_)
      · rw [if_pos l, ← Nat.add_assoc] at this
        have q := inner _ a _ l this (rfw (nw a)) 0 (by omega)
        exact ⟨_, q⟩
      · rw [l] at this
        intro x hx
        rw [hx, nI_1]; exact this
  have s16 : sumL (LV K F B) (rfc nw v) 16 = 0 := sumL_skip (a := 0) (by omega) (fun x _ h2 => LV_16 hI h2)
  have first : ∀ d i : Nat, i + d = 8 → wX3_leading_4 post nw (bz (LV K F B)) (d + 1) v (nI (cnt (eqw nw v 1) i)) (nI (1 + i)) := by
    intro d
    induction d with
    | zero =>
      intro i hi
      have e : i = 8 := by omega
      subst e
      unfold wX3_leading_4
      refine pk_lt 8 (1 + 8) (fun _ => ?_) (fun g => absurd g (by omega)) rfl rfl (by omega) (by omega)
      have := outer 4080 16 (by omega)
      rw [s16, Nat.add_zero] at this
      exact ⟨_, this⟩
    | succ d ih =>
      intro i hi
      unfold wX3_leading_4
      refine pk_lt 8 (1 + i) (fun g => absurd g (by omega)) (fun _ => ⟨pk_in (1 + i) 4096 (by omega), ?_⟩) rfl rfl (by omega) (by omega)
      rw [nI_clamp (by omega)]
      refine ⟨fun g => ?_, fun g => ?_⟩
      · intro y hy x hx
        have := ih (i + 1) (by omega)
        rw [cnt_f (P := eqw nw v 1) (decide_eq_false g), ← Nat.add_assoc] at this
        rw [hx, hy, nI_1, nI_z]; exact this
      · intro y hy x hx
        have := ih (i + 1) (by omega)
        rw [cnt_t (P := eqw nw v 1) (decide_eq_true g), ← Nat.add_assoc] at this
        rw [hx, hy, nI_1, nI_1]; exact this
  exact ⟨_, first 8 0 (by omega)⟩
-- block
def bkv (K F B : Nat → Nat) (nw : Nat → Int32) (x y : Int32) : Int32 := if LX K F B x = true then (if y = 0 then nI (szw (nw x.toNatClampNeg)) else if y = 1 then nI (rfw (nw x.toNatClampNeg)) else if y = 2 then nI (cls (szw (nw x.toNatClampNeg) + 1)) else if y = 3 then (if szw (nw x.toNatClampNeg) + 1 ≤ 8 then -1 else nI (ord (szw (nw x.toNatClampNeg) + 1))) else if y = 4 then nI (LDs K F B nw x) else -1) else -1
theorem cl_block {post : Int32 → (Nat → Int32) → Prop} {ro : Nat → Int32} {x y : Int32} (hI : PI K F B) (hS : SI K F B nw) (h : ∀ ro', post (bkv K F B nw x y) ro') : wX2_block post ro nw (nn K) (nn F) (nn B) x y := by
  unfold wX2_block
  unfold bkv at h
  refine e_isLiveX hI (br_nb (fun g => ?_) (fun g => ?_))
  · rw [if_pos g] at h
    obtain ⟨a, ha, rfl, l⟩ := LX_t g
    rw [nI_clamp (by omega)] at h
    have hz := szw_lt (nw a)
    refine ⟨fun q => ?_, fun q1 => ⟨fun q => ?_, fun q2 => ⟨fun e => ?_, fun e => ?_, fun e => ?_, fun e => ?_, fun e => ?_⟩⟩⟩
    · rw [if_neg (fun e => by subst e; exact absurd q (by decide)), if_neg (fun e => by subst e; exact absurd q (by decide)), if_neg (fun e => by subst e; exact absurd q (by decide)), if_neg (fun e => by subst e; exact absurd q (by decide)), if_neg (fun e => by subst e; exact absurd q (by decide))] at h
      exact h _
    · rw [if_neg (fun e => by subst e; exact absurd q (by decide)), if_neg (fun e => by subst e; exact absurd q (by decide)), if_neg (fun e => by subst e; exact absurd q (by decide)), if_neg (fun e => by subst e; exact absurd q (by decide)), if_neg (fun e => by subst e; exact absurd q (by decide))] at h
      exact h _
    · subst e
      exact e_sizeOf ha (h _)
    · subst e
      exact e_refsOf ha (h _)
    · subst e
      exact e_sizeOf ha (e_classFor (by omega) (h _))
    · subst e
      rw [if_neg (by decide), if_neg (by decide), if_neg (by decide), if_pos rfl] at h
      refine e_sizeOf ha (e_orderFor (by omega) (fun w => ?_) (fun w => ?_))
      · rw [if_neg (by omega)] at h; exact h _
      · rw [if_pos w] at h; exact h _
    · subst e
      exact e_leadsTo hI hS h
  · rw [if_neg (by rw [g]; decide)] at h
    exact h _
theorem mo_block {post : Int32 → Int32 → Prop} {x y mth : Int32} (hI : PI K F B) (hS : SI K F B nw) (h : post (bkv K F B nw x y) 0) : wX3_block post nw (bz (LV K F B)) mth x y := by
  unfold wX3_block
  unfold bkv at h
  refine e_isBlock hI (br_nb (fun g => ?_) (fun g => ?_))
  · rw [if_pos g] at h
    obtain ⟨a, ha, rfl, l⟩ := LX_t g
    rw [nI_clamp (by omega)] at h
    have hz := szw_lt (nw a)
    refine e_sizeAt ha ?_
    intro z hz'
    rw [nI_1] at hz'
    subst hz'
    refine ⟨fun q => ?_, fun q1 => ⟨fun q => ?_, fun q2 => ⟨fun e => ?_, fun e => ?_, fun e => ?_, fun e => ?_, fun e => ?_⟩⟩⟩
    · rw [if_neg (fun e => by subst e; exact absurd q (by decide)), if_neg (fun e => by subst e; exact absurd q (by decide)), if_neg (fun e => by subst e; exact absurd q (by decide)), if_neg (fun e => by subst e; exact absurd q (by decide)), if_neg (fun e => by subst e; exact absurd q (by decide))] at h
      exact h
    · rw [if_neg (fun e => by subst e; exact absurd q (by decide)), if_neg (fun e => by subst e; exact absurd q (by decide)), if_neg (fun e => by subst e; exact absurd q (by decide)), if_neg (fun e => by subst e; exact absurd q (by decide)), if_neg (fun e => by subst e; exact absurd q (by decide))] at h
      exact h
    · subst e
      rw [show nI (szw (nw a) + 1) - 1 = nI (szw (nw a) + 1 - 1) from pk_sub (b := 1) (by omega), Nat.add_sub_cancel]
      exact h
    · subst e
      exact e_refsAt ha h
    · subst e
      exact e_classOf (by omega) h
    · subst e
      rw [if_neg (by decide), if_neg (by decide), if_neg (by decide), if_pos rfl] at h
      refine pk_le (szw (nw a) + 1) 8 (fun w => ?_) (fun w => e_orderOf (by omega) ?_) rfl rfl (by omega) (by omega)
      · rw [if_pos w] at h; exact h
      · rw [if_neg (by omega)] at h; exact h
    · subst e
      exact e_leading hI hS h
  · rw [if_neg (by rw [g]; decide)] at h
    exact h
-- live
theorem cl_live {post : Int32 → (Nat → Int32) → Prop} {ro : Nat → Int32} {x : Int32} (hI : PI K F B) (ht : ∀ a, LV K F B a = true → x = nI (cnt (LV K F B) a) → ∀ ro', post (nI a) ro') (hf : (¬ ∃ a, LV K F B a = true ∧ x = nI (cnt (LV K F B) a)) → ∀ ro', post (-1) ro') : wX2_live post ro (nn K) (nn F) (nn B) x := by
  unfold wX2_live
  refine e_listLive hI (fun ro' hr hc => ⟨fun g => hf ?_ ro', fun g => ?_⟩)
  · rintro ⟨a, l, rfl⟩
    have := cnt_leN (LV K F B) a
    have := (LV_ge hI l).2
    exact absurd g (nI_pos (by omega))
  · obtain ⟨j, hj, rfl⟩ := nI_of g
    refine pk_le (cnt (LV K F B) 4096) j (fun w => hf ?_ ro') (fun w => ?_) rfl rfl (by omega) hj
    · rintro ⟨a, l, e⟩
      have h1 := cnt_leN (LV K F B) a
      have h2 := (LV_ge hI l).2
      have h3 := cnt_lt l h2
      have := (nI_eq hj (by omega)).mp e
      omega
    · obtain ⟨a, a1, a2, a3⟩ := cnt_inv (P := LV K F B) (j := j) (m := 4096) w
      refine e_rowAt (by omega) ?_
      have er : ro' j = nI a := by rw [← a3]; exact hr a a1 a2
      rw [er]
      exact ht a a2 (by rw [a3]) ro'
theorem mo_live {post : Int32 → Int32 → Prop} {x mth : Int32} (hI : PI K F B) (ht : ∀ a, LV K F B a = true → x = nI (cnt (LV K F B) a) → post (nI a) 0) (hf : (¬ ∃ a, LV K F B a = true ∧ x = nI (cnt (LV K F B) a)) → post (-1) 0) : wX3_live post (bz (LV K F B)) mth x := by
  have c16 : cnt (LV K F B) 16 = 0 := cnt_skip (a := 0) (by omega) (fun x _ h2 => LV_16 hI h2)
  by_cases g : x < 0
  · have hn : post (-1) 0 := hf (by
      rintro ⟨a, l, rfl⟩
      have := cnt_leN (LV K F B) a
      have := (LV_ge hI l).2
      exact absurd g (nI_pos (by omega)))
    refine ⟨1, ?_⟩
    unfold wX3_live_10
    exact ⟨fun _ => hn, fun _ => ⟨fun _ => hn, fun w => absurd g w⟩⟩
  · obtain ⟨j, hj, rfl⟩ := nI_of g
    have st : ∀ d a : Nat, a + d = 4096 → cnt (LV K F B) a ≤ j → wX3_live_10 post (bz (LV K F B)) (d + 1) (nI (j - cnt (LV K F B) a)) (nI a) 0 := by
      intro d
      induction d with
      | zero =>
        intro a hd hc
        have e : a = 4096 := by omega
        subst e
        unfold wX3_live_10
        refine pk_le 4096 4096 (fun _ => hf ?_) (fun g => absurd g (by omega)) rfl rfl (by omega) (by omega)
        rintro ⟨a, l, e⟩
        have h1 := cnt_leN (LV K F B) a
        have h2 := (LV_ge hI l).2
        have h3 := cnt_lt l h2
        have := (nI_eq hj (by omega)).mp e
        omega
      | succ d ih =>
        intro a hd hc
        unfold wX3_live_10
        refine pk_le 4096 a (fun g => absurd g (by omega)) (fun _ => ⟨fun w => absurd w (nI_pos (by omega)), fun _ => ⟨pk_in a 4096 (by omega), ?_⟩⟩) rfl rfl (by omega) (by omega)
        rw [nI_clamp (by omega), bz_v]
        refine br_nb (fun l => pk_ne (j - cnt (LV K F B) a) 0 (fun w => ?_) (fun w => ht a l (by rw [show j = cnt (LV K F B) a by omega])) rfl rfl (by omega) (by omega)) (fun l => ?_)
        · intro y hy x hx
          have := ih (a + 1) (by omega) (by rw [cnt_t l]; omega)
          rw [cnt_t l] at this
          rw [hx, hy, nI_1, show j - cnt (LV K F B) a = (j - (cnt (LV K F B) a + 1)) + 1 by omega, pk_m1]
          exact this
        · intro x hx
          have := ih (a + 1) (by omega) (by rw [cnt_f l]; exact hc)
          rw [cnt_f l] at this
          rw [hx, nI_1]; exact this
    have := st 4080 16 (by omega) (by omega)
    rw [c16, Nat.sub_zero] at this
    exact ⟨_, this⟩
end OC
