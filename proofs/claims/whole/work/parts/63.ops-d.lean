/-! OPS D: count, free -/
section OD
variable {K F B : Nat → Nat} {nw kp qu qd : Nat → Int32} {n : Nat} {Lq : Nat → Nat}
def kc (K : Nat → Nat) (v : Nat) : Nat → Bool := fun p => decide (K p = v)
theorem e_howMany {post : Int32 → Prop} {v : Nat} (hk : ∀ p, K p ≤ 4) (hv : v < 100) (h : post (nI (cnt (kc K v) 256))) : wX0_howMany post (nn K) (nI v) := by
  have st : ∀ d i : Nat, i + d = 256 → wX0_howMany_4 post (nn K) (d + 1) (nI v) (nI (cnt (kc K v) i)) (nI i) := by
    intro d
    induction d with
    | zero =>
      intro i hi
      have e : i = 256 := by omega
      subst e
      unfold wX0_howMany_4
      exact pk_le 256 256 (fun _ => h) (fun g => absurd g (by omega)) rfl rfl (by omega) (by omega)
    | succ d ih =>
      intro i hi
      have hki := hk i
      unfold wX0_howMany_4
      refine pk_le 256 i (fun g => absurd g (by omega)) (fun _ => ?_) rfl rfl (by omega) (by omega)
      refine e_kindOf (by omega) (pk_ne (K i) v (fun g => ?_) (fun g => ?_) rfl rfl (by omega) (by omega))
      · intro x hx
        have := ih (i + 1) (by omega)
        rw [cnt_f (P := kc K v) (decide_eq_false g)] at this
        rw [hx, nI_1]; exact this
      · intro y hy x hx
        have := ih (i + 1) (by omega)
        rw [cnt_t (P := kc K v) (decide_eq_true g)] at this
        rw [hx, hy, nI_1, nI_1]; exact this
  exact ⟨_, st 256 0 (by omega)⟩
def esum (K F B : Nat → Nat) : Nat → Int32
  | 0 => 0
  | p + 1 => esum K F B p + (nI (16 / stp K F p) - nI (pop (B p)))
theorem esum_s (p : Nat) : esum K F B (p + 1) = esum K F B p + (nI (16 / stp K F p) - nI (pop (B p))) := rfl
theorem e_emptySlots {post : Int32 → Prop} (hI : PI K F B) (h : post (esum K F B 256)) : wX0_emptySlots post (nn K) (nn F) (nn B) := by
  have st : ∀ d i : Nat, i + d = 256 → wX0_emptySlots_4 post (nn K) (nn F) (nn B) (d + 1) (esum K F B i) (nI i) := by
    intro d
    induction d with
    | zero =>
      intro i hi
      have e : i = 256 := by omega
      subst e
      unfold wX0_emptySlots_4
      exact pk_le 256 256 (fun _ => h) (fun g => absurd g (by omega)) rfl rfl (by omega) (by omega)
    | succ d ih =>
      intro i hi
      unfold wX0_emptySlots_4
      refine pk_le 256 i (fun g => absurd g (by omega)) (fun _ => ?_) rfl rfl (by omega) (by omega)
      refine e_slotsOf hI (by omega) (e_blocksOn hI (by omega) ?_)
      intro y hy x hx
      rw [hx, hy, nI_1]
      exact ih (i + 1) (by omega)
  exact ⟨_, st 256 0 (by omega)⟩
def lwn (nw : Nat → Int32) (a : Nat) : Nat := szw (nw a) + 1
theorem e_liveWords {post : Int32 → (Nat → Int32) → Prop} {ro : Nat → Int32} (hI : PI K F B) (h : ∀ ro', post (nI (sumL (LV K F B) (lwn nw) 4096)) ro') : wX2_liveWords post ro nw (nn K) (nn F) (nn B) := by
  unfold wX2_liveWords
  refine e_listLive hI (fun ro' hr hc => ?_)
  have st : ∀ (d k m : Nat), k + d = cnt (LV K F B) 4096 → m ≤ 4096 → cnt (LV K F B) m = k → wX2_liveWords_9 post nw (nn K) (nn F) (nn B) (d + 1) (nI (cnt (LV K F B) 4096)) (nI (sumL (LV K F B) (lwn nw) m)) (nI k) ro' := by
    intro d
    induction d with
    | zero =>
      intro k m hk hm hc'
      unfold wX2_liveWords_9
      refine pk_le (cnt (LV K F B) 4096) k (fun _ => ?_) (fun g => absurd g (by omega)) rfl rfl (by omega) (by omega)
      rw [sumL_cnt (a := m) (b := 4096) (by omega)]; exact h ro'
    | succ d ih =>
      intro k m hk hm hc'
      obtain ⟨a, a1, a2, a3⟩ := cnt_inv (P := LV K F B) (j := k) (m := 4096) (by omega)
      have er : ro' k = nI a := by rw [← a3]; exact hr a a1 a2
      unfold wX2_liveWords_9
      refine pk_le (cnt (LV K F B) 4096) k (fun g => absurd g (by omega)) (fun _ => ?_) rfl rfl (by omega) (by omega)
      refine e_rowAt (by omega) ?_
      rw [er]
      refine e_lengthOf a1 ?_
      intro y hy x hx
      rw [hx, hy, nI_1, nI_add]
      have := ih (k + 1) (a + 1) (by omega) (by omega) (by rw [cnt_t a2, a3])
      rw [sumL_s, if_pos a2, sumL_cnt (a := a) (b := m) (by omega)] at this
      exact this
  exact ⟨_, st (cnt (LV K F B) 4096) 0 0 (by omega) (by omega) rfl⟩
def ctv (K F B : Nat → Nat) (nw : Nat → Int32) (n : Nat) (cd cr x : Int32) : Int32 := if x = 0 then nI (cnt (LV K F B) 4096) else if x = 1 then nI (cnt (kc K 0) 256) else if x = 2 then nI (cnt (kc K 1) 256) else if x = 3 then esum K F B 256 else if x = 4 then nI n else if x = 5 then cd else if x = 6 then nI (sumL (LV K F B) (lwn nw) 4096) else if x = 7 then cr else -1
theorem ctv_f {cd cr x : Int32} (h : x < 0 ∨ 7 < x) : ctv K F B nw n cd cr x = -1 := by
  unfold ctv
  have ne : ∀ y : Int32, ¬ y < 0 → ¬ 7 < y → ¬ x = y := fun y h1 h2 e => by
    subst e
    rcases h with h | h
    · exact h1 h
    · exact h2 h
  rw [if_neg (ne 0 (by decide) (by decide)), if_neg (ne 1 (by decide) (by decide)), if_neg (ne 2 (by decide) (by decide)), if_neg (ne 3 (by decide) (by decide)), if_neg (ne 4 (by decide) (by decide)), if_neg (ne 5 (by decide) (by decide)), if_neg (ne 6 (by decide) (by decide)), if_neg (ne 7 (by decide) (by decide))]
theorem cl_count {post : Int32 → (Nat → Int32) → Prop} {ro : Nat → Int32} {cd cr x : Int32} (hI : PI K F B) (h : ∀ ro', post (ctv K F B nw n cd cr x) ro') : wX2_count post cd cr ro nw (nI n) (nn K) (nn F) (nn B) x := by
  unfold wX2_count
  refine ⟨fun g => ?_, fun g1 => ⟨fun g => ?_, fun g2 => ⟨fun e => ?_, fun e => ?_, fun e => ?_, fun e => ?_, fun e => ?_, fun e => ?_, fun e => ?_, fun e => ?_⟩⟩⟩
  · rw [ctv_f (Or.inl g)] at h; exact h _
  · rw [ctv_f (Or.inr g)] at h; exact h _
  · subst e
    exact e_listLive hI (fun ro' _ _ => h ro')
  · subst e
    exact e_howMany (v := 0) hI.k (by omega) (h _)
  · subst e
    exact e_howMany (v := 1) hI.k (by omega) (h _)
  · subst e
    exact e_emptySlots hI (h _)
  · subst e
    exact h _
  · subst e
    exact h _
  · subst e
    exact e_liveWords hI h
  · subst e
    exact h _
theorem mo_count {post : Int32 → Int32 → (Nat → Int32) → (Nat → Int32) → (Nat → Int32) → (Nat → Int32) → (Nat → Int32) → Prop} {cd cr x mth : Int32} {mkind msort mfirst mblk mfree : Nat → Int32} (hI : PI K F B) (hS : SI K F B nw) (h : ∀ a b c d e, post (ctv K F B nw n cd cr x) 0 a b c d e) : wX3_count post nw (bz (LV K F B)) (nI n) cd cr mth mkind msort mfirst mblk mfree x := by
  unfold wX3_count
  refine e_map hI hS (fun ma mb mc md me hM => ?_)
  refine ⟨fun g => ?_, fun g1 => ⟨fun g => ?_, fun g2 => ⟨fun e => ?_, fun e => ?_, fun e => ?_, fun e => ?_, fun e => ?_, fun e => ?_, fun e => ?_, fun e => ?_⟩⟩⟩
  · rw [ctv_f (Or.inl g)] at h; exact h _ _ _ _ _
  · rw [ctv_f (Or.inr g)] at h; exact h _ _ _ _ _
  · subst e
    have c16 : cnt (LV K F B) 16 = 0 := cnt_skip (a := 0) (by omega) (fun x _ h2 => LV_16 hI h2)
    have st : ∀ d a : Nat, a + d = 4096 → wX3_count_63 post nw (bz (LV K F B)) (nI n) cd cr (d + 1) (nI (cnt (LV K F B) a)) (nI a) 0 ma mb mc md me := by
      intro d
      induction d with
      | zero =>
        intro a hd
        have e : a = 4096 := by omega
        subst e
        unfold wX3_count_63
        exact pk_le 4096 4096 (fun _ => h _ _ _ _ _) (fun g => absurd g (by omega)) rfl rfl (by omega) (by omega)
      | succ d ih =>
        intro a hd
        have := ih (a + 1) (by omega)
        unfold wX3_count_63
        refine pk_le 4096 a (fun g => absurd g (by omega)) (fun _ => ⟨pk_in a 4096 (by omega), ?_⟩) rfl rfl (by omega) (by omega)
        rw [nI_clamp (by omega), bz_v]
        refine br_b (fun l => ?_) (fun l => ?_)
        · intro y hy x hx
          rw [cnt_f l] at this
          rw [hx, hy, nI_1, nI_z]; exact this
        · intro y hy x hx
          rw [cnt_t l] at this
          rw [hx, hy, nI_1, nI_1]; exact this
    have := st 4080 16 (by omega)
    rw [c16] at this
    exact ⟨_, this⟩
  · subst e
    have st : ∀ d p : Nat, p + d = 256 → wX3_count_97 post nw (bz (LV K F B)) (nI n) cd cr (d + 1) (nI (cnt (kc K 0) p)) (nI p) 0 ma mb mc md me := by
      intro d
      induction d with
      | zero =>
        intro p hd
        have e : p = 256 := by omega
        subst e
        unfold wX3_count_97
        exact pk_le 256 256 (fun _ => h _ _ _ _ _) (fun g => absurd g (by omega)) rfl rfl (by omega) (by omega)
      | succ d ih =>
        intro p hd
        have := ih (p + 1) (by omega)
        have hk := hI.k p
        unfold wX3_count_97
        refine pk_le 256 p (fun g => absurd g (by omega)) (fun _ => ⟨pk_in p 256 (by omega), ?_⟩) rfl rfl (by omega) (by omega)
        rw [nI_clamp (by omega), (hM p (by omega)).1]
        refine pk_ne (K p) 0 (fun g => ?_) (fun g => ?_) rfl rfl (by omega) (by omega)
        · intro y hy x hx
          rw [cnt_f (P := kc K 0) (decide_eq_false g)] at this
          rw [hx, hy, nI_1, nI_z]; exact this
        · intro y hy x hx
          rw [cnt_t (P := kc K 0) (decide_eq_true g)] at this
          rw [hx, hy, nI_1, nI_1]; exact this
    exact ⟨_, st 256 0 (by omega)⟩
  · subst e
    have st : ∀ d p : Nat, p + d = 256 → wX3_count_131 post nw (bz (LV K F B)) (nI n) cd cr (d + 1) (nI (cnt (kc K 1) p)) (nI p) 0 ma mb mc md me := by
      intro d
      induction d with
      | zero =>
        intro p hd
        have e : p = 256 := by omega
        subst e
        unfold wX3_count_131
        exact pk_le 256 256 (fun _ => h _ _ _ _ _) (fun g => absurd g (by omega)) rfl rfl (by omega) (by omega)
      | succ d ih =>
        intro p hd
        have := ih (p + 1) (by omega)
        have hk := hI.k p
        unfold wX3_count_131
        refine pk_le 256 p (fun g => absurd g (by omega)) (fun _ => ⟨pk_in p 256 (by omega), ?_⟩) rfl rfl (by omega) (by omega)
        rw [nI_clamp (by omega), (hM p (by omega)).1]
        refine pk_ne (K p) 1 (fun g => ?_) (fun g => ?_) rfl rfl (by omega) (by omega)
        · intro y hy x hx
          rw [cnt_f (P := kc K 1) (decide_eq_false g)] at this
          rw [hx, hy, nI_1, nI_z]; exact this
        · intro y hy x hx
          rw [cnt_t (P := kc K 1) (decide_eq_true g)] at this
          rw [hx, hy, nI_1, nI_1]; exact this
    exact ⟨_, st 256 0 (by omega)⟩
  · subst e
    have st : ∀ d p : Nat, p + d = 256 → wX3_count_166 post nw (bz (LV K F B)) (nI n) cd cr (d + 1) (esum K F B p) (nI p) 0 ma mb mc md me := by
      intro d
      induction d with
      | zero =>
        intro p hd
        have e : p = 256 := by omega
        subst e
        unfold wX3_count_166
        exact pk_le 256 256 (fun _ => h _ _ _ _ _) (fun g => absurd g (by omega)) rfl rfl (by omega) (by omega)
      | succ d ih =>
        intro p hd
        have := ih (p + 1) (by omega)
        rw [esum_s] at this
        have hk := hI.k p
        obtain ⟨m1, m2, m3, m4, m5⟩ := hM p (by omega)
        unfold wX3_count_166
        refine pk_le 256 p (fun g => absurd g (by omega)) (fun _ => ⟨pk_in p 256 (by omega), ?_⟩) rfl rfl (by omega) (by omega)
        rw [nI_clamp (by omega), m1]
        refine pk_ne (K p) 1 (fun g => ?_) (fun g => ?_) rfl rfl (by omega) (by omega)
        · intro y hy x hx
          have ez : nI (16 / stp K F p) - nI (pop (B p)) = 0 := by
            by_cases g2 : K p = 2
            · rw [stp2 g2, (hI.s2 g2).2.2.2.1]; decide
            · rw [stp0 g g2, hI.b0 g g2]; decide
          rw [ez] at this
          rw [hx, hy, nI_1]; exact this
        · have hst := hI.st1 g
          have hpv : pgv K F p = nI (F p) := by unfold pgv; rw [if_neg (by omega), if_neg (by omega)]
          unfold wX3_slots
          rw [nI_clamp (by omega), m2, hpv]
          refine ⟨pk_in p 256 (by omega), nI_ne0 (by omega) (by omega), pk_in p 256 (by omega), ?_⟩
          intro y hy x hx
          rw [hx, hy, nI_1, m4, show (16 : Int32) / nI (F p) = nI (16 / F p) from (pk_div (by omega) (by omega) (by omega) : nI 16 / nI (F p) = nI (16 / F p)), ← hst.1]
          exact this
    exact ⟨_, st 256 0 (by omega)⟩
  · subst e
    exact h _ _ _ _ _
  · subst e
    exact h _ _ _ _ _
  · subst e
    have s16 : sumL (LV K F B) (lwn nw) 16 = 0 := sumL_skip (a := 0) (by omega) (fun x _ h2 => LV_16 hI h2)
    have st : ∀ d a : Nat, a + d = 4096 → wX3_count_223 post nw (bz (LV K F B)) (nI n) cd cr (d + 1) (nI (sumL (LV K F B) (lwn nw) a)) (nI a) 0 ma mb mc md me := by
      intro d
      induction d with
      | zero =>
        intro a hd
        have e : a = 4096 := by omega
        subst e
        unfold wX3_count_223
        exact pk_le 4096 4096 (fun _ => h _ _ _ _ _) (fun g => absurd g (by omega)) rfl rfl (by omega) (by omega)
      | succ d ih =>
        intro a hd
        have := ih (a + 1) (by omega)
        rw [sumL_s] at this
        unfold wX3_count_223
        refine pk_le 4096 a (fun g => absurd g (by omega)) (fun _ => ⟨pk_in a 4096 (by omega), ?_⟩) rfl rfl (by omega) (by omega)
        rw [nI_clamp (by omega), bz_v]
        refine br_b (fun l => ?_) (fun l => ?_)
        · intro y hy x hx
          rw [l] at this
          rw [hx, hy, nI_1, nI_z]; exact this
        · rw [if_pos l] at this
          refine e_sizeAt (by omega) ?_
          intro y hy x hx
          rw [hx, hy, nI_1, nI_1, nI_add]; exact this
    have := st 4080 16 (by omega)
    rw [s16] at this
    exact ⟨_, this⟩
  · subst e
    exact h _ _ _ _ _
-- a block goes
theorem bz_upd {P Q : Nat → Bool} {a : Nat} {v : Bool} (h : ∀ x, Q x = if x = a then v else P x) : upd (bz P) a (bI v) = bz Q := by
  funext j
  by_cases e : j = a
  · rw [e, pk_us, bz_v, h a, if_pos rfl]
  · rw [pk_un e, bz_v, bz_v, h j, if_neg e]
theorem rK_nz {a p : Nat} (h : rK K F B a p ≠ 0) : rK K F B a p = K p ∧ rF K F B a p = F p := by
  unfold rK rF at *
  by_cases g : clr (B (a / 16)) (sl K F a) = 0
  · rw [if_pos g] at h ⊢
    rw [if_pos g]
    unfold ran at *
    by_cases z : a / 16 ≤ p ∧ p < a / 16 + rmm K F (a / 16)
    · rw [if_pos z] at h; exact absurd rfl h
    · rw [if_neg z, if_neg z]; exact ⟨rfl, rfl⟩
  · rw [if_neg g, if_neg g]; exact ⟨rfl, rfl⟩
theorem LV_rem (hI : PI K F B) {a x : Nat} (hl : LV K F B a = true) : LV (rK K F B a) (rF K F B a) (rB K F B a) x = true ↔ LV K F B x = true ∧ x ≠ a := by
  rw [(PI_rem hI hl).2 x, Bool.and_eq_true]
  by_cases e : x = a
  · rw [decide_eq_true e]; simp [e]
  · rw [decide_eq_false e]; simp [e]
theorem SI_rem (hI : PI K F B) (hS : SI K F B nw) {a : Nat} (hl : LV K F B a = true) : SI (rK K F B a) (rF K F B a) (rB K F B a) nw := by
  intro x h
  have hx := (LV_rem hI hl).mp h
  have hk := LV_k h
  have := rK_nz (K := K) (F := F) (B := B) (a := a) (p := x / 16) (by omega)
  rw [this.1, this.2]
  exact hS x hx.1
theorem bz_rem (hI : PI K F B) {a : Nat} (hl : LV K F B a = true) : upd (bz (LV K F B)) a 0 = bz (LV (rK K F B a) (rF K F B a) (rB K F B a)) :=
  bz_upd (v := false) (fun x => by
    rw [(PI_rem hI hl).2 x]
    by_cases e : x = a
    · rw [if_pos e, decide_eq_true e, Bool.not_true, Bool.and_false]
    · rw [if_neg e, decide_eq_false e, Bool.not_false, Bool.and_true])
theorem e_release {post : (Nat → Int32) → (Nat → Int32) → (Nat → Int32) → Int32 → (Nat → Int32) → (Nat → Int32) → (Nat → Int32) → Prop} {a : Nat} (hI : PI K F B) (hQ : QI nw kp qu qd n Lq) (l : LV K F B a = true) (h : post (upd nw a 0) (wqu qu n Lq (a / 8)) (wqd qd n Lq (a / 8)) (nI (wqn n Lq (a / 8))) (nn (rK K F B a)) (nn (rF K F B a)) (nn (rB K F B a))) : wX2_release post nw qu qd (nI n) (nn K) (nn F) (nn B) (nI a) := by
  unfold wX2_release
  exact e_remove hI l (e_write hQ (LV_ge hI l).2 h)
theorem e_freed {post : Int32 → (Nat → Int32) → (Nat → Int32) → (Nat → Int32) → (Nat → Int32) → Int32 → Prop} {a : Nat} (hI : PI K F B) (hQ : QI nw kp qu qd n Lq) (l : LV K F B a = true) (h : post (nI (szw (nw a) + 1)) (upd nw a 0) (bz (LV (rK K F B a) (rF K F B a) (rB K F B a))) (wqd qd n Lq (a / 8)) (wqu qu n Lq (a / 8)) (nI (wqn n Lq (a / 8)))) : wX3_freed post nw (bz (LV K F B)) qd qu (nI n) (nI a) := by
  have ha := (LV_ge hI l).2
  unfold wX3_freed
  refine e_sizeAt ha ?_
  intro x hx
  refine ⟨pk_in a 4096 ha, ?_⟩
  rw [nI_clamp (by omega), nar0, bz_rem hI l, hx, nI_1]
  exact e_mwrite hQ ha h
theorem cl_free {post : Int32 → Int32 → (Nat → Int32) → (Nat → Int32) → (Nat → Int32) → (Nat → Int32) → Int32 → (Nat → Int32) → (Nat → Int32) → (Nat → Int32) → Prop} {tr x : Int32} {ro : Nat → Int32} (hI : PI K F B) (hS : SI K F B nw) (hQ : QI nw kp qu qd n Lq) (h2 : LX K F B x = false → post (-1) 2 ro nw qu qd (nI n) (nn K) (nn F) (nn B)) (h4 : LX K F B x = true → 0 < LDs K F B nw x → ∀ ro', post (-1) 4 ro' nw qu qd (nI n) (nn K) (nn F) (nn B)) (h0 : ∀ a, x = nI a → LV K F B a = true → LDs K F B nw x = 0 → ∀ ro', post (nI (szw (nw a) + 1)) 0 ro' (upd nw a 0) (wqu qu n Lq (a / 8)) (wqd qd n Lq (a / 8)) (nI (wqn n Lq (a / 8))) (nn (rK K F B a)) (nn (rF K F B a)) (nn (rB K F B a))) : wX2_free post tr ro nw qu qd (nI n) (nn K) (nn F) (nn B) x := by
  unfold wX2_free
  refine e_isLiveX hI (br_nb (fun g => e_leadsTo hI hS (fun ro' => ?_)) (fun g => h2 g))
  have hlt := LDs_lt (K := K) (F := F) (B := B) (nw := nw) x
  obtain ⟨a, ha, e, l⟩ := LX_t g
  refine pk_le (LDs K F B nw x) 0 (fun w => ?_) (fun w => h4 g w ro') rfl rfl hlt (by omega)
  have := h0 a e l (by omega) ro'
  subst e
  exact e_lengthOf ha (e_release hI hQ l this)
theorem mo_free {post : Int32 → (Nat → Int32) → (Nat → Int32) → (Nat → Int32) → (Nat → Int32) → Int32 → Int32 → Int32 → Prop} {mt mth x : Int32} (hI : PI K F B) (hS : SI K F B nw) (hQ : QI nw kp qu qd n Lq) (h2 : LX K F B x = false → post (-1) nw (bz (LV K F B)) qd qu (nI n) 2 0) (h4 : LX K F B x = true → 0 < LDs K F B nw x → post (-1) nw (bz (LV K F B)) qd qu (nI n) 4 0) (h0 : ∀ a, x = nI a → LV K F B a = true → LDs K F B nw x = 0 → post (nI (szw (nw a) + 1)) (upd nw a 0) (bz (LV (rK K F B a) (rF K F B a) (rB K F B a))) (wqd qd n Lq (a / 8)) (wqu qu n Lq (a / 8)) (nI (wqn n Lq (a / 8))) 0 0) : wX3_free post nw (bz (LV K F B)) qd qu (nI n) mt mth x := by
  unfold wX3_free
  refine e_isBlock hI (br_nb (fun g => e_leading hI hS ?_) (fun g => h2 g))
  have hlt := LDs_lt (K := K) (F := F) (B := B) (nw := nw) x
  obtain ⟨a, ha, e, l⟩ := LX_t g
  refine pk_le (LDs K F B nw x) 0 (fun w => ?_) (fun w => h4 g w) rfl rfl hlt (by omega)
  have := h0 a e l (by omega)
  subst e
  exact e_freed hI hQ l this
end OD
