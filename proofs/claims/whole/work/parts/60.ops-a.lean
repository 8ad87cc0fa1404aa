/-! OPS A: put, refer, get, root, rootOf, word, head, waits, scribble: class (cl_) and model (mo_) -/
section OA
variable {K F B : Nat → Nat} {nw kp qu qd : Nat → Int32} {n : Nat} {Lq : Nat → Nat}
/-- word i of a live block -/
def HW (K F B : Nat → Nat) (nw : Nat → Int32) (x y : Int32) : Prop := ∃ a i, x = nI a ∧ y = nI i ∧ LV K F B a = true ∧ i < szw (nw a)
theorem e_hasWord {post : Int32 → Prop} {x y : Int32} (hI : PI K F B) (ht : ∀ a i, x = nI a → y = nI i → LV K F B a = true → i < szw (nw a) → post 1) (hf : ¬ HW K F B nw x y → post 0) : wX2_hasWord post nw (nn K) (nn F) (nn B) x y := by
  unfold wX2_hasWord
  refine e_isLiveX hI (br_b (fun g => hf ?_) (fun g => ?_))
  · rintro ⟨a, i, rfl, -, l, -⟩
    have := (LV_ge hI l).2
    rw [LX_N (by omega), l] at g; cases g
  · obtain ⟨a, ha, rfl, l⟩ := LX_t g
    refine ⟨fun z => hf ?_, fun z => ?_⟩
    · rintro ⟨a', i, -, rfl, -, g2⟩
      have := szw_lt (nw a')
      exact absurd z (nI_pos (by omega))
    · obtain ⟨j, hj, rfl⟩ := nI_of z
      have hz := szw_lt (nw a)
      refine e_sizeOf ha (pk_le (szw (nw a)) j (fun w => hf ?_) (fun w => ht a j rfl rfl l w) rfl rfl (by omega) hj)
      rintro ⟨a', i, e1, e2, l', g2⟩
      have h1 := (nI_eq (by omega) (by have := (LV_ge hI l').2; omega)).mp e1
      subst h1
      have h2 := (nI_eq hj (by omega)).mp e2
      omega
def TG (K F B : Nat → Nat) (x : Int32) : Bool := decide (x = 0) || LX K F B x
theorem e_isTarget {post : Int32 → Prop} {x : Int32} (hI : PI K F B) (h : post (bI (TG K F B x))) : wX2_isTarget post (nn K) (nn F) (nn B) x := by
  unfold wX2_isTarget
  unfold TG at h
  refine ⟨fun g => ?_, fun g => ?_⟩
  · rw [decide_eq_true g, Bool.true_or] at h; exact h
  · rw [decide_eq_false g, Bool.false_or] at h
    exact e_isLiveX hI (br_b (fun q => by rw [q] at h; exact h) (fun q => by rw [q] at h; exact h))
theorem settle0 {post : Int32 → Int32 → Prop} {tr : Int32} (h : post 1 0) : wX2_settle post tr 0 := ⟨fun g => absurd rfl g, fun _ => h⟩
theorem settle2 {post : Int32 → Int32 → Prop} {tr : Int32} (h : post 0 2) : wX2_settle post tr 2 := ⟨fun _ => h, fun g => absurd g (by decide)⟩
theorem settle3 {post : Int32 → Int32 → Prop} {tr : Int32} (h : post 0 3) : wX2_settle post tr 3 := ⟨fun _ => h, fun g => absurd g (by decide)⟩
-- put
def PU (K F B : Nat → Nat) (nw : Nat → Int32) (x y : Int32) : Prop := ∃ a i, x = nI a ∧ y = nI i ∧ LV K F B a = true ∧ rfw (nw a) ≤ i ∧ i < szw (nw a)
theorem cl_put_t {post : Int32 → Int32 → (Nat → Int32) → (Nat → Int32) → (Nat → Int32) → Int32 → Prop} {tr v : Int32} {a i : Nat} (hI : PI K F B) (hS : SI K F B nw) (hQ : QI nw kp qu qd n Lq) (l : LV K F B a = true) (h1 : rfw (nw a) ≤ i) (h2 : i < szw (nw a)) (h : post 1 0 (upd nw (a + 1 + i) v) (wqu qu n Lq ((a + 1 + i) / 8)) (wqd qd n Lq ((a + 1 + i) / 8)) (nI (wqn n Lq ((a + 1 + i) / 8)))) : wX2_put post tr nw qu qd (nI n) (nn K) (nn F) (nn B) (nI a) (nI i) v := by
  have hr := rfw_lt (nw a)
  have hz := szw_lt (nw a)
  have ha := (LV_ge hI l).2
  have hin := hS.in hI l
  unfold wX2_put
  refine e_hasWord hI (fun _ _ _ _ _ _ => ⟨fun g => absurd g (by decide), fun _ => e_refsOf ha (pk_le (rfw (nw a)) i (fun _ => ?_) (fun g => absurd g (by omega)) rfl rfl (by omega) (by omega))⟩) (fun g => absurd ⟨a, i, rfl, rfl, l, h2⟩ g)
  unfold wX2_wordOf
  rw [nI_1, nI_add]
  exact e_write hQ (by omega) (settle0 ⟨nb_1, h⟩)
theorem cl_put_f {post : Int32 → Int32 → (Nat → Int32) → (Nat → Int32) → (Nat → Int32) → Int32 → Prop} {tr v x y ql : Int32} (hI : PI K F B) (hn : ¬ PU K F B nw x y) (h : post 0 2 nw qu qd ql) : wX2_put post tr nw qu qd ql (nn K) (nn F) (nn B) x y v := by
  have h18 : wX2_put_18 post (nn K) (nn F) (nn B) tr nw qu qd ql := settle2 ⟨nb_0, h⟩
  unfold wX2_put
  refine e_hasWord hI (fun a i e1 e2 l g => ⟨fun z => absurd z (by decide), fun _ => ?_⟩) (fun _ => ⟨fun _ => h18, fun z => absurd rfl z⟩)
  subst e1 e2
  have hr := rfw_lt (nw a)
  have hz := szw_lt (nw a)
  exact e_refsOf (LV_ge hI l).2 (pk_le (rfw (nw a)) i (fun w => absurd ⟨a, i, rfl, rfl, l, w, g⟩ hn) (fun _ => h18) rfl rfl (by omega) (by omega))
theorem mo_put_t {post : Int32 → (Nat → Int32) → (Nat → Int32) → (Nat → Int32) → Int32 → Int32 → Int32 → Prop} {mt mth v : Int32} {a i : Nat} (hI : PI K F B) (hS : SI K F B nw) (hQ : QI nw kp qu qd n Lq) (l : LV K F B a = true) (h1 : rfw (nw a) ≤ i) (h2 : i < szw (nw a)) (h : post 1 (upd nw (a + 1 + i) v) (wqd qd n Lq ((a + 1 + i) / 8)) (wqu qu n Lq ((a + 1 + i) / 8)) (nI (wqn n Lq ((a + 1 + i) / 8))) 0 0) : wX3_put post nw (bz (LV K F B)) qd qu (nI n) mt mth (nI a) (nI i) v := by
  have hr := rfw_lt (nw a)
  have hz := szw_lt (nw a)
  have ha := (LV_ge hI l).2
  have hin := hS.in hI l
  unfold wX3_put
  refine e_isBlock hI ?_
  rw [LX_N (by omega), l]
  refine ⟨fun g => absurd g (by decide), fun _ => e_refsAt ha (e_sizeAt ha ?_)⟩
  rw [show nI (szw (nw a)) - 1 = nI (szw (nw a) - 1) from pk_sub (b := 1) (by omega)]
  refine e_is_t (nI_nlt h1 (by omega)) (nI_nlt (by omega) (by omega)) ⟨fun _ => ?_, fun g => absurd g (by decide)⟩
  rw [nI_1, nI_add]
  exact e_mwrite hQ (by omega) h
theorem mo_put_f {post : Int32 → (Nat → Int32) → (Nat → Int32) → (Nat → Int32) → Int32 → Int32 → Int32 → Prop} {mt mth v x y mn : Int32} (hI : PI K F B) (hS : SI K F B nw) (hn : ¬ PU K F B nw x y) (h : post 0 nw qd qu mn 2 0) : wX3_put post nw (bz (LV K F B)) qd qu mn mt mth x y v := by
  have h33 : wX3_put_33 post (bz (LV K F B)) nw qd qu mn mt 0 := ⟨nb_0, h⟩
  unfold wX3_put
  refine e_isBlock hI (br_b (fun _ => h33) (fun g => ?_))
  obtain ⟨a, ha, rfl, l⟩ := LX_t g
  have hr := rfw_lt (nw a)
  have hz := szw_lt (nw a)
  have h1 := (hS a l).1
  refine e_refsAt ha (e_sizeAt ha ?_)
  rw [show nI (szw (nw a)) - 1 = nI (szw (nw a) - 1) from pk_sub (b := 1) h1]
  refine e_is (fun q1 q2 => absurd ?_ hn) (fun _ => ⟨fun z => absurd rfl z, fun _ => h33⟩)
  have h0 : ¬ y < 0 := fun z => q1 (by
    rw [Int32.lt_iff_toInt_lt] at z ⊢
    rw [nI_toInt (by omega)]
    have e0 : (0 : Int32).toInt = 0 := by decide
    omega)
  obtain ⟨j, hj, rfl⟩ := nI_of h0
  refine ⟨a, j, rfl, rfl, l, ?_, ?_⟩
  · rcases Nat.lt_or_ge j (rfw (nw a)) with w | w
    · exact absurd (nI_lt w (by omega)) q1
    · exact w
  · rcases Nat.lt_or_ge (szw (nw a) - 1) j with w | w
    · exact absurd (nI_lt w hj) q2
    · omega
-- refer
def RE (K F B : Nat → Nat) (nw : Nat → Int32) (x y z : Int32) : Prop := ∃ a i, x = nI a ∧ y = nI i ∧ LV K F B a = true ∧ i < rfw (nw a) ∧ TG K F B z = true
theorem cl_refer_t {post : Int32 → Int32 → (Nat → Int32) → (Nat → Int32) → (Nat → Int32) → Int32 → Prop} {tr v : Int32} {a i : Nat} (hI : PI K F B) (hS : SI K F B nw) (hQ : QI nw kp qu qd n Lq) (l : LV K F B a = true) (h1 : i < rfw (nw a)) (ht : TG K F B v = true) (h : post 1 0 (upd nw (a + 1 + i) v) (wqu qu n Lq ((a + 1 + i) / 8)) (wqd qd n Lq ((a + 1 + i) / 8)) (nI (wqn n Lq ((a + 1 + i) / 8)))) : wX2_refer post tr nw qu qd (nI n) (nn K) (nn F) (nn B) (nI a) (nI i) v := by
  have hr := rfw_lt (nw a)
  have hrs := (hS a l).2.1
  have ha := (LV_ge hI l).2
  have hin := hS.in hI l
  unfold wX2_refer
  refine e_hasWord hI (fun _ _ _ _ _ _ => ⟨fun g => absurd g (by decide), fun _ => e_refsOf ha (pk_le (rfw (nw a)) i (fun g => absurd g (by omega)) (fun _ => e_isTarget hI ?_) rfl rfl (by omega) (by omega))⟩) (fun g => absurd ⟨a, i, rfl, rfl, l, by omega⟩ g)
  rw [ht]
  refine ⟨fun _ => ?_, fun g => absurd g (by decide)⟩
  unfold wX2_wordOf
  rw [nI_1, nI_add]
  exact e_write hQ (by omega) (settle0 ⟨nb_1, h⟩)
theorem cl_refer_f {post : Int32 → Int32 → (Nat → Int32) → (Nat → Int32) → (Nat → Int32) → Int32 → Prop} {tr v x y ql : Int32} (hI : PI K F B) (hn : ¬ RE K F B nw x y v) (h : post 0 2 nw qu qd ql) : wX2_refer post tr nw qu qd ql (nn K) (nn F) (nn B) x y v := by
  have h26 : wX2_refer_26 post (nn K) (nn F) (nn B) tr nw qu qd ql := settle2 ⟨nb_0, h⟩
  unfold wX2_refer
  refine e_hasWord hI (fun a i e1 e2 l g => ⟨fun z => absurd z (by decide), fun _ => ?_⟩) (fun _ => ⟨fun _ => h26, fun z => absurd rfl z⟩)
  subst e1 e2
  have hr := rfw_lt (nw a)
  have hz := szw_lt (nw a)
  exact e_refsOf (LV_ge hI l).2 (pk_le (rfw (nw a)) i (fun _ => h26) (fun w => e_isTarget hI (br_nb (fun q => absurd ⟨a, i, rfl, rfl, l, w, q⟩ hn) (fun _ => h26))) rfl rfl (by omega) (by omega))
theorem mo_refer_t {post : Int32 → (Nat → Int32) → (Nat → Int32) → (Nat → Int32) → Int32 → Int32 → Int32 → Prop} {mt mth v : Int32} {a i : Nat} (hI : PI K F B) (hS : SI K F B nw) (hQ : QI nw kp qu qd n Lq) (l : LV K F B a = true) (h1 : i < rfw (nw a)) (ht : TG K F B v = true) (h : post 1 (upd nw (a + 1 + i) v) (wqd qd n Lq ((a + 1 + i) / 8)) (wqu qu n Lq ((a + 1 + i) / 8)) (nI (wqn n Lq ((a + 1 + i) / 8))) 0 0) : wX3_refer post nw (bz (LV K F B)) qd qu (nI n) mt mth (nI a) (nI i) v := by
  have hr := rfw_lt (nw a)
  have hrs := (hS a l).2.1
  have ha := (LV_ge hI l).2
  have hin := hS.in hI l
  have h47 : wX3_refer_47 post (bz (LV K F B)) (nI a) (nI i) v nw qd qu (nI n) mt 0 := by
    unfold wX3_refer_47
    rw [nI_1, nI_add]
    exact e_mwrite hQ (by omega) h
  unfold wX3_refer
  refine e_isBlock hI ?_
  rw [LX_N (by omega), l]
  refine ⟨fun g => absurd g (by decide), fun _ => e_refsAt ha ?_⟩
  rw [show nI (rfw (nw a)) - 1 = nI (rfw (nw a) - 1) from pk_sub (b := 1) (by omega)]
  refine e_is_t (nI_pos (by omega)) (nI_nlt (by omega) (by omega)) ⟨fun g => absurd g (by decide), fun _ => ⟨fun _ => h47, fun g0 => e_isBlock hI ?_⟩⟩
  unfold TG at ht
  rw [decide_eq_false g0, Bool.false_or] at ht
  rw [ht]
  exact ⟨fun _ => h47, fun g => absurd g (by decide)⟩
theorem mo_refer_f {post : Int32 → (Nat → Int32) → (Nat → Int32) → (Nat → Int32) → Int32 → Int32 → Int32 → Prop} {mt mth v x y mn : Int32} (hI : PI K F B) (hn : ¬ RE K F B nw x y v) (h : post 0 nw qd qu mn 2 0) : wX3_refer post nw (bz (LV K F B)) qd qu mn mt mth x y v := by
  have h41 : wX3_refer_41 post (bz (LV K F B)) nw qd qu mn mt 0 := ⟨nb_0, h⟩
  unfold wX3_refer
  refine e_isBlock hI (br_b (fun _ => h41) (fun g => ?_))
  obtain ⟨a, ha, rfl, l⟩ := LX_t g
  have hr := rfw_lt (nw a)
  refine e_refsAt ha (e_is (fun q1 q2 => ?_) (fun _ => ⟨fun _ => h41, fun z => absurd rfl z⟩))
  obtain ⟨j, hj, rfl⟩ := nI_of q1
  have hjr : j < rfw (nw a) := by
    by_cases e0 : rfw (nw a) = 0
    · exfalso
      rw [e0] at q2
      apply q2
      rw [Int32.lt_iff_toInt_lt, nI_toInt hj]
      have : (nI 0 - 1).toInt = -1 := by decide
      omega
    · rw [show nI (rfw (nw a)) - 1 = nI (rfw (nw a) - 1) from pk_sub (b := 1) (by omega)] at q2
      rcases Nat.lt_or_ge (rfw (nw a) - 1) j with w | w
      · exact absurd (nI_lt w hj) q2
      · omega
  have htg : ¬ TG K F B v = true := fun q => hn ⟨a, j, rfl, rfl, l, hjr, q⟩
  refine ⟨fun z => absurd z (by decide), fun _ => ⟨fun z => ?_, fun z => e_isBlock hI (br_nb (fun q => ?_) (fun _ => h41))⟩⟩
  · exact absurd (by unfold TG; rw [decide_eq_true z]; rfl) htg
  · exact absurd (by unfold TG; rw [q, Bool.or_true]) htg
-- get
theorem cl_get {post : Int32 → Prop} {x y : Int32} (hI : PI K F B) (hS : SI K F B nw) (ht : ∀ a i, x = nI a → y = nI i → LV K F B a = true → i < szw (nw a) → post (nw (a + 1 + i))) (hf : ¬ HW K F B nw x y → post 0) : wX2_get post nw (nn K) (nn F) (nn B) x y := by
  unfold wX2_get
  refine e_hasWord hI (fun a i e1 e2 l g => ⟨fun z => absurd z (by decide), fun _ => ?_⟩) (fun g => ⟨fun _ => hf g, fun z => absurd rfl z⟩)
  have hin := hS.in hI l
  have := ht a i e1 e2 l g
  subst e1 e2
  unfold wX2_wordOf
  rw [nI_1, nI_add]
  exact e_at (by omega) this
theorem mo_get {post : Int32 → Int32 → Prop} {x y mth : Int32} (hI : PI K F B) (hS : SI K F B nw) (ht : ∀ a i, x = nI a → y = nI i → LV K F B a = true → i < szw (nw a) → post (nw (a + 1 + i)) 0) (hf : ¬ HW K F B nw x y → post 0 0) : wX3_get post nw (bz (LV K F B)) mth x y := by
  unfold wX3_get
  refine e_isBlock hI (br_b (fun g => hf ?_) (fun g => ?_))
  · rintro ⟨a, i, rfl, -, l, -⟩
    have := (LV_ge hI l).2
    rw [LX_N (by omega), l] at g; cases g
  · obtain ⟨a, ha, rfl, l⟩ := LX_t g
    have hz := szw_lt (nw a)
    have h1 := (hS a l).1
    have hin := hS.in hI l
    refine e_sizeAt ha ?_
    rw [show nI (szw (nw a)) - 1 = nI (szw (nw a) - 1) from pk_sub (b := 1) h1]
    refine e_is (fun q1 q2 => ⟨fun z => absurd z (by decide), fun _ => ?_⟩) (fun q => ⟨fun _ => hf ?_, fun z => absurd rfl z⟩)
    · obtain ⟨j, hj, rfl⟩ := nI_of q1
      have hjs : j < szw (nw a) := by
        rcases Nat.lt_or_ge (szw (nw a) - 1) j with w | w
        · exact absurd (nI_lt w hj) q2
        · omega
      rw [nI_1, nI_add]
      refine ⟨pk_in (a + 1 + j) 4096 (by omega), ?_⟩
      rw [nI_clamp (by omega)]
      exact ht a j rfl rfl l hjs
    · rintro ⟨a', i, e1, rfl, l', g2⟩
      have := (nI_eq (by omega) (by have := (LV_ge hI l').2; omega)).mp e1
      subst this
      rcases q with q | q
      · exact absurd q (nI_pos (by omega))
      · exact absurd q (nI_nlt (by omega) (by omega))
-- roots
def RT (K F B : Nat → Nat) (x z : Int32) : Prop := ∃ i, i < 8 ∧ x = nI i ∧ TG K F B z = true
theorem cl_root_t {post : Int32 → Int32 → (Nat → Int32) → (Nat → Int32) → (Nat → Int32) → Int32 → Prop} {tr v : Int32} {i : Nat} (hI : PI K F B) (hQ : QI nw kp qu qd n Lq) (hi : i < 8) (ht : TG K F B v = true) (h : post 1 0 (upd nw (1 + i) v) (wqu qu n Lq ((1 + i) / 8)) (wqd qd n Lq ((1 + i) / 8)) (nI (wqn n Lq ((1 + i) / 8)))) : wX2_root post tr nw qu qd (nI n) (nn K) (nn F) (nn B) (nI i) v := by
  unfold wX2_root
  refine e_isRoot_t hi ⟨fun g => absurd g (by decide), fun _ => e_isTarget hI ?_⟩
  rw [ht]
  refine ⟨fun _ => ?_, fun g => absurd g (by decide)⟩
  show wX1_write _ nw qu qd (nI n) (nI 1 + nI i) v
  rw [nI_add]
  exact e_write hQ (by omega) (settle0 ⟨nb_1, h⟩)
theorem cl_root_f {post : Int32 → Int32 → (Nat → Int32) → (Nat → Int32) → (Nat → Int32) → Int32 → Prop} {tr v x ql : Int32} (hI : PI K F B) (hn : ¬ RT K F B x v) (h : post 0 2 nw qu qd ql) : wX2_root post tr nw qu qd ql (nn K) (nn F) (nn B) x v := by
  have h15 : wX2_root_15 post (nn K) (nn F) (nn B) tr nw qu qd ql := settle2 ⟨nb_0, h⟩
  unfold wX2_root
  rcases pk_ix x (n := 8) (by omega) with g | g | ⟨i, hi, rfl⟩
  · exact e_isRoot_f (Or.inl g) ⟨fun _ => h15, fun z => absurd rfl z⟩
  · exact e_isRoot_f (Or.inr g) ⟨fun _ => h15, fun z => absurd rfl z⟩
  · exact e_isRoot_t hi ⟨fun z => absurd z (by decide), fun _ => e_isTarget hI (br_nb (fun q => absurd ⟨i, hi, rfl, q⟩ hn) (fun _ => h15))⟩
theorem mo_root_t {post : Int32 → (Nat → Int32) → (Nat → Int32) → (Nat → Int32) → Int32 → Int32 → Int32 → Prop} {mt mth v : Int32} {i : Nat} (hI : PI K F B) (hQ : QI nw kp qu qd n Lq) (hi : i < 8) (ht : TG K F B v = true) (h : post 1 (upd nw (1 + i) v) (wqd qd n Lq ((1 + i) / 8)) (wqu qu n Lq ((1 + i) / 8)) (nI (wqn n Lq ((1 + i) / 8))) 0 0) : wX3_root post nw (bz (LV K F B)) qd qu (nI n) mt mth (nI i) v := by
  have h34 : wX3_root_34 post (bz (LV K F B)) (nI i) v nw qd qu (nI n) mt 0 := by
    unfold wX3_root_34
    show wX3_write _ nw qd qu (nI n) (nI 1 + nI i) v
    rw [nI_add]
    exact e_mwrite hQ (by omega) h
  unfold wX3_root
  refine e_is_t (nI_pos (by omega)) (nI_nlt (b := i) (a := 7) (by omega) (by omega)) ⟨fun g => absurd g (by decide), fun _ => ⟨fun _ => h34, fun g0 => e_isBlock hI ?_⟩⟩
  unfold TG at ht
  rw [decide_eq_false g0, Bool.false_or] at ht
  rw [ht]
  exact ⟨fun _ => h34, fun g => absurd g (by decide)⟩
theorem mo_root_f {post : Int32 → (Nat → Int32) → (Nat → Int32) → (Nat → Int32) → Int32 → Int32 → Int32 → Prop} {mt mth v x mn : Int32} (hI : PI K F B) (hn : ¬ RT K F B x v) (h : post 0 nw qd qu mn 2 0) : wX3_root post nw (bz (LV K F B)) qd qu mn mt mth x v := by
  have h28 : wX3_root_28 post (bz (LV K F B)) nw qd qu mn mt 0 := ⟨nb_0, h⟩
  unfold wX3_root
  refine e_is (fun q1 q2 => ?_) (fun _ => ⟨fun _ => h28, fun z => absurd rfl z⟩)
  obtain ⟨j, hj, rfl⟩ := nI_of q1
  have hj8 : j < 8 := by
    rcases Nat.lt_or_ge 7 j with w | w
    · exact absurd (show nI 7 < nI j from nI_lt w hj) q2
    · omega
  have htg : ¬ TG K F B v = true := fun q => hn ⟨j, hj8, rfl, q⟩
  refine ⟨fun z => absurd z (by decide), fun _ => ⟨fun z => ?_, fun z => e_isBlock hI (br_nb (fun q => ?_) (fun _ => h28))⟩⟩
  · exact absurd (by unfold TG; rw [decide_eq_true z]; rfl) htg
  · exact absurd (by unfold TG; rw [q, Bool.or_true]) htg
theorem cl_rootOf {post : Int32 → Prop} {x : Int32} (ht : ∀ i, i < 8 → x = nI i → post (nw (1 + i))) (hf : (¬ ∃ i, i < 8 ∧ x = nI i) → post (-1)) : wX2_rootOf post nw x := by
  unfold wX2_rootOf
  rcases pk_ix x (n := 8) (by omega) with g | g | ⟨i, hi, rfl⟩
  · refine e_isRoot_f (Or.inl g) ⟨fun _ => hf ?_, fun z => absurd rfl z⟩
    rintro ⟨i, hi, rfl⟩
    exact absurd g (nI_pos (by omega))
  · refine e_isRoot_f (Or.inr g) ⟨fun _ => hf ?_, fun z => absurd rfl z⟩
    rintro ⟨i, hi, rfl⟩
    exact absurd ((nI_leI (by omega) (by omega)).mp g) (by omega)
  · refine e_isRoot_t hi ⟨fun z => absurd z (by decide), fun _ => ?_⟩
    show wX1_at _ nw (nI 1 + nI i)
    rw [nI_add]
    exact e_at (by omega) (ht i hi rfl)
theorem mo_rootOf {post : Int32 → Int32 → Prop} {x mth : Int32} (ht : ∀ i, i < 8 → x = nI i → post (nw (1 + i)) 0) (hf : (¬ ∃ i, i < 8 ∧ x = nI i) → post (-1) 0) : wX3_rootOf post nw mth x := by
  unfold wX3_rootOf
  refine e_is (fun q1 q2 => ⟨fun z => absurd z (by decide), fun _ => ?_⟩) (fun q => ⟨fun _ => hf ?_, fun z => absurd rfl z⟩)
  · obtain ⟨j, hj, rfl⟩ := nI_of q1
    have hj8 : j < 8 := by
      rcases Nat.lt_or_ge 7 j with w | w
      · exact absurd (show nI 7 < nI j from nI_lt w hj) q2
      · omega
    show vp_in (nI 1 + nI j) 4096 ∧ post (nw (nI 1 + nI j).toNatClampNeg) 0
    rw [nI_add]
    refine ⟨pk_in (1 + j) 4096 (by omega), ?_⟩
    rw [nI_clamp (by omega)]
    exact ht j hj8 rfl
  · rintro ⟨i, hi, rfl⟩
    rcases q with q | q
    · exact absurd q (nI_pos (by omega))
    · exact absurd q (nI_nlt (a := 7) (b := i) (by omega) (by omega))
-- word
theorem cl_word {post : Int32 → Prop} {x z : Int32} (ht : ∀ i, i < 4096 → x = nI i → post (if z = 0 then nw i else kp i)) (hf : (¬ ∃ i, i < 4096 ∧ x = nI i) → post 0) : wX2_word post nw kp x z := by
  have hbad : (x < 0 ∨ nI 4096 ≤ x) → ¬ ∃ i, i < 4096 ∧ x = nI i := by
    rintro g ⟨i, hi, rfl⟩
    rcases g with g | g
    · exact absurd g (nI_pos (by omega))
    · exact absurd ((nI_leI (by omega) (by omega)).mp g) (by omega)
  unfold wX2_word
  refine ⟨fun g => ?_, fun g => ?_⟩
  · rcases pk_ix x (n := 4096) (by omega) with q | q | ⟨i, hi, rfl⟩
    · exact e_at_f (Or.inl q) (hf (hbad (Or.inl q)))
    · exact e_at_f (Or.inr q) (hf (hbad (Or.inr q)))
    · have := ht i hi rfl
      rw [if_pos g] at this
      exact e_at hi this
  · rcases pk_ix x (n := 4096) (by omega) with q | q | ⟨i, hi, rfl⟩
    · exact e_keptAt_f (Or.inl q) (hf (hbad (Or.inl q)))
    · exact e_keptAt_f (Or.inr q) (hf (hbad (Or.inr q)))
    · have := ht i hi rfl
      rw [if_neg g] at this
      exact e_keptAt hi this
theorem mo_word {post : Int32 → Int32 → Prop} {x z mth : Int32} (ht : ∀ i, i < 4096 → x = nI i → post (if z = 0 then nw i else kp i) 0) (hf : (¬ ∃ i, i < 4096 ∧ x = nI i) → post 0 0) : wX3_word post nw kp mth x z := by
  unfold wX3_word
  refine e_is (fun q1 q2 => ⟨fun _ => ?_, fun w => absurd w (by decide)⟩) (fun q => ⟨fun w => absurd rfl w, fun _ => hf ?_⟩)
  · obtain ⟨j, hj, rfl⟩ := nI_of q1
    have hj8 : j < 4096 := by
      rcases Nat.lt_or_ge 4095 j with w | w
      · exact absurd (show nI 4095 < nI j from nI_lt w hj) q2
      · omega
    have := ht j hj8 rfl
    rw [nI_clamp (by omega)]
    refine ⟨fun g => ⟨pk_in j 4096 hj8, ?_⟩, fun g => ⟨pk_in j 4096 hj8, ?_⟩⟩
    · rw [if_pos g] at this; exact this
    · rw [if_neg g] at this; exact this
  · rintro ⟨i, hi, rfl⟩
    rcases q with q | q
    · exact absurd q (nI_pos (by omega))
    · exact absurd q (nI_nlt (a := 4095) (b := i) (by omega) (by omega))
-- waits
theorem cl_waits {post : Int32 → Prop} {x : Int32} (hn : n ≤ 512) (ht : ∀ j, j < n → x = nI j → post (qu j)) (hf : (¬ ∃ j, j < n ∧ x = nI j) → post (-1)) : wX2_waits post qu (nI n) x := by
  unfold wX2_waits
  rcases pk_ix x (n := n) (by omega) with q | q | ⟨j, hj, rfl⟩
  · have hb : ¬ ∃ j, j < n ∧ x = nI j := by
      rintro ⟨j, hj, rfl⟩
      exact absurd q (nI_pos (by omega))
    exact ⟨fun _ => hf hb, fun g => absurd q g⟩
  · have hb : ¬ ∃ j, j < n ∧ x = nI j := by
      rintro ⟨j, hj, rfl⟩
      exact absurd ((nI_leI (by omega) (by omega)).mp q) (by omega)
    exact ⟨fun _ => hf hb, fun _ => ⟨fun _ => hf hb, fun g => absurd q g⟩⟩
  · exact e_lineAt hn hj (ht j hj rfl)
theorem mo_waits {post : Int32 → Int32 → Prop} {x mth : Int32} (hn : n ≤ 512) (ht : ∀ j, j < n → x = nI j → post (qu j) 0) (hf : (¬ ∃ j, j < n ∧ x = nI j) → post (-1) 0) : wX3_waits post qu (nI n) mth x := by
  unfold wX3_waits
  refine e_is (fun q1 q2 => ⟨fun w => absurd w (by decide), fun _ => ?_⟩) (fun q => ⟨fun _ => hf ?_, fun w => absurd rfl w⟩)
  · obtain ⟨j, hj, rfl⟩ := nI_of q1
    have hjn : j < n := by
      by_cases e0 : n = 0
      · exfalso
        rw [e0] at q2
        apply q2
        rw [Int32.lt_iff_toInt_lt, nI_toInt hj]
        have : (nI 0 - 1).toInt = -1 := by decide
        omega
      · rw [show nI n - 1 = nI (n - 1) from pk_sub (b := 1) (by omega)] at q2
        rcases Nat.lt_or_ge (n - 1) j with w | w
        · exact absurd (nI_lt w hj) q2
        · omega
    refine ⟨pk_in j 512 (by omega), ?_⟩
    rw [nI_clamp (by omega)]
    exact ht j hjn rfl
  · rintro ⟨i, hi, rfl⟩
    rcases q with q | q
    · exact absurd q (nI_pos (by omega))
    · rw [show nI n - 1 = nI (n - 1) from pk_sub (b := 1) (by omega)] at q
      exact absurd q (nI_nlt (by omega) (by omega))
end OA
