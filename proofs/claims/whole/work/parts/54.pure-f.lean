/-! PURE F: what is kept: fence() and the first half of crash() -/
def mb (x : Int32) (s : Nat) : Bool := decide (x.toBitVec.toNat / 2 ^ s % 2 = 1)
theorem bI_mod (v : Nat) : nI (v % 2) = bI (decide (v % 2 = 1)) := by
  rcases (show v % 2 = 0 ∨ v % 2 = 1 by omega) with e | e <;> rw [e] <;> rfl
theorem mb_u (x : Int32) {s : Nat} (hs : s < 32) : ((x.toUInt32 >>> ((nI s).toUInt32 &&& Int32.toUInt32 31)).toInt32 &&& 1) = bI (mb x s) := by
  rw [pk_and _ 1 (by decide), pk_ushr x (nI s) s (ush31 s hs)]
  exact bI_mod _
theorem mb_s (x : Int32) {s : Nat} (hs : s < 32) : ((x >>> (nI s &&& 31)) &&& 1) = bI (mb x s) := by
  rw [pk_and _ 1 (by decide)]
  have h : (x >>> (nI s &&& 31)).toBitVec = x.toBitVec.sshiftRight s := by
    have h1 : (x >>> (nI s &&& 31)).toBitVec = x.toBitVec.sshiftRight' ((nI s &&& 31).toBitVec.smod 32) := rfl
    rw [h1]
    show x.toBitVec.sshiftRight ((nI s &&& 31).toBitVec.smod 32).toNat = _
    rw [shm31 s hs]
  have h2 : (x >>> (nI s &&& 31)).toBitVec.getLsbD 0 = x.toBitVec.getLsbD s := by
    rw [h, BitVec.getLsbD_sshiftRight]
    simp [hs]
  have h3 : decide ((x >>> (nI s &&& 31)).toBitVec.toNat % 2 = 1) = decide (x.toBitVec.toNat / 2 ^ s % 2 = 1) := by
    have e1 : (x >>> (nI s &&& 31)).toBitVec.getLsbD 0 = decide ((x >>> (nI s &&& 31)).toBitVec.toNat % 2 = 1) := Nat.testBit_zero _
    have e2 : x.toBitVec.getLsbD s = decide (x.toBitVec.toNat / 2 ^ s % 2 = 1) := Nat.testBit_eq_decide_div_mod_eq
    rw [← e1, ← e2, h2]
  rw [show (2 : Nat) ^ 1 = 2 from rfl, bI_mod, h3]
  rfl
theorem bI_1 {b : Bool} {A B : Prop} (f : b = false → A) (g : b = true → B) : (¬ bI b = 1 → A) ∧ (bI b = 1 → B) := by
  cases b
  · exact ⟨fun _ => f rfl, fun h => absurd h (by decide)⟩
  · exact ⟨fun h => absurd rfl h, fun _ => g rfl⟩
def sel (Lq : Nat → Nat) (P : Nat → Bool) (k i : Nat) : Bool := (List.range k).any (fun j => decide (Lq j = i) && P j)
theorem sel_iff {Lq : Nat → Nat} {P : Nat → Bool} {k i : Nat} : sel Lq P k i = true ↔ ∃ j, j < k ∧ Lq j = i ∧ P j = true := by
  unfold sel
  rw [List.any_eq_true]
  constructor
  · rintro ⟨j, h1, h2⟩
    rw [Bool.and_eq_true] at h2
    exact ⟨j, List.mem_range.mp h1, of_decide_eq_true h2.1, h2.2⟩
  · rintro ⟨j, h1, h2, h3⟩
    exact ⟨j, List.mem_range.mpr h1, by rw [Bool.and_eq_true]; exact ⟨decide_eq_true h2, h3⟩⟩
theorem sel_0 {Lq : Nat → Nat} {P : Nat → Bool} {i : Nat} : sel Lq P 0 i = false := rfl
theorem sel_s {Lq : Nat → Nat} {P : Nat → Bool} {k i : Nat} : sel Lq P (k + 1) i = (sel Lq P k i || (decide (Lq k = i) && P k)) := by
  unfold sel
  rw [List.range_succ, List.any_append]
  simp
section PF
variable {nw kp qu qd : Nat → Int32} {n : Nat} {Lq : Nat → Nat}
/-- what stands behind a crash: the kept lines as they are, all others as they were kept -/
def MK (nw kp : Nat → Int32) (n : Nat) (Lq : Nat → Nat) (P : Nat → Bool) : Nat → Int32 := fun w => if sel Lq P n (w / 8) = true then nw w else kp w
def NK (nw kp : Nat → Int32) (n : Nat) (Lq : Nat → Nat) (P : Nat → Bool) : Nat → Int32 := fun w => if sel Lq (fun j => !P j) n (w / 8) = true then kp w else nw w
theorem NK_MK (h : QI nw kp qu qd n Lq) (P : Nat → Bool) : NK nw kp n Lq P = MK nw kp n Lq P := by
  funext w
  unfold NK MK
  by_cases g : wt n Lq (w / 8) = true
  · obtain ⟨j, h1, h2⟩ := wt_iff.mp g
    by_cases p : P j = true
    · have e1 : sel Lq P n (w / 8) = true := sel_iff.mpr ⟨j, h1, h2, p⟩
      have e2 : ¬ sel Lq (fun j => !P j) n (w / 8) = true := fun q => by
        obtain ⟨i, g1, g2, g3⟩ := sel_iff.mp q
        have := h.2.2.1 i j g1 h1 (by rw [g2, h2])
        subst this
        simp [p] at g3
      rw [if_pos e1, if_neg e2]
    · have e1 : ¬ sel Lq P n (w / 8) = true := fun q => by
        obtain ⟨i, g1, g2, g3⟩ := sel_iff.mp q
        have := h.2.2.1 i j g1 h1 (by rw [g2, h2])
        subst this
        exact p g3
      have e2 : sel Lq (fun j => !P j) n (w / 8) = true := sel_iff.mpr ⟨j, h1, h2, by simp [p]⟩
      rw [if_neg e1, if_pos e2]
  · have hn : ∀ Q : Nat → Bool, ¬ sel Lq Q n (w / 8) = true := fun Q q => by
      obtain ⟨i, g1, g2, -⟩ := sel_iff.mp q
      exact g (wt_iff.mpr ⟨i, g1, g2⟩)
    rw [if_neg (hn _), if_neg (hn _)]
    exact h.2.2.2.2 w (Bool.eq_false_iff.mpr g)
theorem e_keepSome {post : (Nat → Int32) → (Nat → Int32) → (Nat → Int32) → Int32 → Prop} {x : Int32} (hQ : QI nw kp qu qd n Lq) (h : post (MK nw kp n Lq (fun j => mb x (j % 32))) (MK nw kp n Lq (fun j => mb x (j % 32))) (fun _ => 0) 0) : wX1_keepSome post nw kp qu qd (nI n) x := by
  obtain ⟨h1, h2, h3, h4, h5⟩ := id hQ
  have st : ∀ (d k : Nat) (qd' : Nat → Int32), k + d = n → (∀ i, qd' i = if wt k Lq i = true then 0 else qd i) → wX1_keepSome_2 post qu (d + 1) x (nI k) (NK nw kp k Lq (fun j => mb x (j % 32))) (MK nw kp k Lq (fun j => mb x (j % 32))) qd' (nI n) := by
    intro d
    induction d with
    | zero =>
      intro k qd' hk hq
      have hkn : k = n := by omega
      subst hkn
      unfold wX1_keepSome_2
      refine pk_le k k (fun _ => ?_) (fun g => absurd g (by omega)) rfl rfl (by omega) (by omega)
      have e : qd' = fun _ => 0 := by
        funext i
        rw [hq i, h4]
        by_cases g : wt k Lq i = true
        · rw [if_pos g]
        · rw [if_neg g, Bool.eq_false_iff.mpr g]; rfl
      rw [e, NK_MK hQ]; exact h
    | succ d ih =>
      intro k qd' hk hq
      have hkl := h2 k (by omega)
      have hfr : ∀ Q : Nat → Bool, ∀ w, w / 8 = Lq k → ¬ sel Lq Q k (w / 8) = true := fun Q w hw q => by
        obtain ⟨i, g1, g2, -⟩ := sel_iff.mp q
        have := h3 i k (by omega) (by omega) (by rw [g2, hw])
        omega
      have hqn : ∀ i, upd qd' (Lq k) 0 i = if wt (k + 1) Lq i = true then 0 else qd i := fun i => by
        by_cases e : i = Lq k
        · rw [e, pk_us, if_pos (wt_iff.mpr ⟨k, by omega, rfl⟩)]
        · rw [pk_un e, hq i]
          have ew : wt (k + 1) Lq i = wt k Lq i := by
            rw [Bool.eq_iff_iff, wt_iff, wt_iff]
            constructor
            · rintro ⟨j, hj, ej⟩
              refine ⟨j, ?_, ej⟩
              rcases Nat.lt_or_ge j k with z | z
              · exact z
              · rw [show j = k by omega] at ej; exact absurd ej.symm e
            · rintro ⟨j, hj, ej⟩
              exact ⟨j, by omega, ej⟩
          rw [ew]
      unfold wX1_keepSome_2
      refine pk_le n k (fun g => absurd g (by omega)) (fun _ => ?_) rfl rfl (by omega) (by omega)
      have hrem : nI k - nI k / 32 * 32 = nI (k % 32) := pk_rem (d := 32) (by omega) (by omega) (by omega)
      rw [hrem, mb_u x (by omega)]
      have body : ∀ z : Bool, z = mb x (k % 32) → wX1_keepSome_27 post qu (wX1_keepSome_2 post qu (d + 1)) x (nI k) (bI z) (NK nw kp k Lq (fun j => mb x (j % 32))) (MK nw kp k Lq (fun j => mb x (j % 32))) qd' (nI n) := by
        intro z hz
        unfold wX1_keepSome_27
        refine e_lineAt h1 (by omega) ?_
        rw [hkl.1]
        refine br_b (fun g => ?_) (fun g => ?_)
        · refine e_settle_b hkl.2 ?_
          intro y hy
          rw [hy, nI_1]
          have e1 : cpl (MK nw kp k Lq (fun j => mb x (j % 32))) (NK nw kp k Lq (fun j => mb x (j % 32))) (Lq k) = NK nw kp (k + 1) Lq (fun j => mb x (j % 32)) := by
            funext w
            unfold cpl NK MK
            rw [sel_s]
            by_cases c : w / 8 = Lq k
            · rw [if_pos c, if_neg (hfr _ w c), if_pos (by simp [c, ← hz, g])]
            · rw [if_neg c]
              have : decide (Lq k = w / 8) = false := decide_eq_false (fun q => c q.symm)
              rw [this, Bool.false_and, Bool.or_false]
          have e2 : MK nw kp k Lq (fun j => mb x (j % 32)) = MK nw kp (k + 1) Lq (fun j => mb x (j % 32)) := by
            funext w
            unfold MK
            rw [sel_s, ← hz, g, Bool.and_false, Bool.or_false]
          rw [e1, e2]
          exact ih (k + 1) _ (by omega) hqn
        · refine e_settle_a hkl.2 ?_
          intro y hy
          rw [hy, nI_1]
          have e1 : cpl (NK nw kp k Lq (fun j => mb x (j % 32))) (MK nw kp k Lq (fun j => mb x (j % 32))) (Lq k) = MK nw kp (k + 1) Lq (fun j => mb x (j % 32)) := by
            funext w
            unfold cpl NK MK
            rw [sel_s]
            by_cases c : w / 8 = Lq k
            · rw [if_pos c, if_neg (hfr _ w c), if_pos (by simp [c, ← hz, g])]
            · rw [if_neg c]
              have : decide (Lq k = w / 8) = false := decide_eq_false (fun q => c q.symm)
              rw [this, Bool.false_and, Bool.or_false]
          have e2 : NK nw kp k Lq (fun j => mb x (j % 32)) = NK nw kp (k + 1) Lq (fun j => mb x (j % 32)) := by
            funext w
            unfold NK
            have hm : (!(fun j => mb x (j % 32)) k) = false := by
              show (!mb x (k % 32)) = false
              rw [← hz, g]; rfl
            rw [sel_s, hm, Bool.and_false, Bool.or_false]
          rw [e1, e2]
          exact ih (k + 1) _ (by omega) hqn
      exact bI_1 (fun g => body false g.symm) (fun g => body true g.symm)
  have e0 : NK nw kp 0 Lq (fun j => mb x (j % 32)) = nw := by funext w; unfold NK; rw [sel_0]; rfl
  have e1 : MK nw kp 0 Lq (fun j => mb x (j % 32)) = kp := by funext w; unfold MK; rw [sel_0]; rfl
  have := st n 0 qd (by omega) (fun i => by rw [if_neg (by simp [wt])])
  rw [e0, e1] at this
  exact ⟨_, this⟩
theorem MK_all (h : QI nw kp qu qd n Lq) {P : Nat → Bool} (hp : ∀ j, j < n → P j = true) : MK nw kp n Lq P = nw := by
  funext w
  unfold MK
  by_cases g : sel Lq P n (w / 8) = true
  · rw [if_pos g]
  · rw [if_neg g]
    refine (h.2.2.2.2 w (wt_n.mpr (fun j hj e => g (sel_iff.mpr ⟨j, hj, e, hp j hj⟩)))).symm
theorem mb_m1 : ∀ s, s < 32 → mb (-1) s = true := by decide +kernel
theorem e_keepAll {post : Int32 → (Nat → Int32) → (Nat → Int32) → (Nat → Int32) → Int32 → Prop} (hQ : QI nw kp qu qd n Lq) (h : post (nI n) nw nw (fun _ => 0) 0) : wX1_keepAll post nw kp qu qd (nI n) := by
  unfold wX1_keepAll
  refine e_keepSome hQ ?_
  rw [MK_all hQ (fun j _ => mb_m1 _ (Nat.mod_lt j (by omega)))]
  exact h
theorem QI_0 (f : Nat → Int32) (qu : Nat → Int32) (Lq : Nat → Nat) : QI f f qu (fun _ => 0) 0 Lq :=
  ⟨by omega, fun j h => absurd h (by omega), fun i j h => absurd h (by omega), fun i => rfl, fun w _ => rfl⟩
theorem QI.big (h : QI nw kp qu qd n Lq) {i : Nat} (hi : 512 ≤ i) : wt n Lq i = false :=
  wt_n.mpr (fun j hj e => by have := (h.2.1 j hj).2; omega)
theorem QI.qd0 (h : QI nw kp qu qd n Lq) : (fun i => if i < 512 then 0 else qd i) = fun _ => (0 : Int32) := by
  funext i
  by_cases g : i < 512
  · rw [if_pos g]
  · rw [if_neg g, h.2.2.2.1 i, h.big (by omega)]; rfl
theorem e_mfence {post : Int32 → (Nat → Int32) → (Nat → Int32) → Int32 → Int32 → Prop} {mth : Int32} (hQ : QI nw kp qu qd n Lq) (h : post (nI n) nw (fun _ => 0) 0 0) : wX3_fence post nw kp qd qu (nI n) mth := by
  obtain ⟨h1, h2, h3, h4, h5⟩ := id hQ
  have st : ∀ (d k : Nat), k + d = n → wX3_fence_12 post nw qu (d + 1) (nI n) (nI k) (MK nw kp k Lq (fun _ => true)) qd (nI n) 0 := by
    intro d
    induction d with
    | zero =>
      intro k hk
      have hkn : k = n := by omega
      subst hkn
      unfold wX3_fence_12
      refine pk_le k k (fun _ => e_nothingWaits ?_) (fun g => absurd g (by omega)) rfl rfl (by omega) (by omega)
      rw [hQ.qd0, MK_all hQ (fun _ _ => rfl)]; exact h
    | succ d ih =>
      intro k hk
      have hkl := h2 k (by omega)
      unfold wX3_fence_12
      refine pk_le n k (fun g => absurd g (by omega)) (fun _ => ⟨pk_in k 512 (by omega), ?_⟩) rfl rfl (by omega) (by omega)
      rw [nI_clamp (by omega), hkl.1]
      refine e_keepLine hkl.2 ?_
      intro y hy
      rw [hy, nI_1]
      have e1 : cpl nw (MK nw kp k Lq (fun _ => true)) (Lq k) = MK nw kp (k + 1) Lq (fun _ => true) := by
        funext w
        unfold cpl MK
        rw [sel_s]
        by_cases c : w / 8 = Lq k
        · rw [if_pos c, if_pos (by simp [c])]
        · have : decide (Lq k = w / 8) = false := decide_eq_false (fun q => c q.symm)
          rw [if_neg c, this, Bool.false_and, Bool.or_false]
      rw [e1]
      exact ih (k + 1) (by omega)
  have e1 : MK nw kp 0 Lq (fun _ => true) = kp := by funext w; unfold MK; rw [sel_0]; rfl
  have := st n 0 (by omega)
  rw [e1] at this
  exact ⟨_, this⟩
/-- the first half of the model's crash() -/
theorem e_mcrash_a {post : Int32 → (Nat → Int32) → (Nat → Int32) → (Nat → Int32) → (Nat → Int32) → (Nat → Int32) → Int32 → Int32 → Int32 → Int32 → (Nat → Int32) → (Nat → Int32) → (Nat → Int32) → (Nat → Int32) → (Nat → Int32) → (Nat → Int32) → Int32 → Prop} {x mcl mcr mth mfm : Int32} {ml mkind msort mfirst mblk mfree mfnd : Nat → Int32} (hQ : QI nw kp qu qd n Lq) (hl : ∀ i, 4096 ≤ i → ml i = 0)
    (h : ∃ fu, wX3_crash_103 post fu 1 (MK nw kp n Lq (fun j => mb x (j % 32))) (MK nw kp n Lq (fun j => mb x (j % 32))) (fun _ => 0) (fun _ => 0) qu 0 0 (mcr + 1) 0 mkind msort mfirst mblk mfree mfnd 0) :
    wX3_crash post nw kp ml qd qu (nI n) mcl mcr mth mkind msort mfirst mblk mfree mfnd mfm x := by
  obtain ⟨h1, h2, h3, h4, h5⟩ := id hQ
  have cp : ∀ (d k : Nat) (w l : Nat → Int32), k + d = 4096 → (∀ i, w i = if i < k then MK nw kp n Lq (fun j => mb x (j % 32)) i else nw i) → (∀ i, l i = if i < k then 0 else ml i) → wX3_crash_45 post (d + 1) (nI k) w (MK nw kp n Lq (fun j => mb x (j % 32))) l qd qu (nI n) mcl mcr 0 mkind msort mfirst mblk mfree mfnd mfm := by
    intro d
    induction d with
    | zero =>
      intro k w l hk hw hl'
      unfold wX3_crash_45
      refine pk_le 4096 k (fun _ => e_nothingWaits ?_) (fun g => absurd g (by omega)) rfl rfl (by omega) (by omega)
      have e1 : w = MK nw kp n Lq (fun j => mb x (j % 32)) := by
        funext i
        rw [hw i]
        by_cases g : i < k
        · rw [if_pos g]
        · rw [if_neg g]
          have hb := hQ.big (i := i / 8) (by omega)
          unfold MK
          rw [if_neg (fun q => by
            obtain ⟨j, g1, g2, -⟩ := sel_iff.mp q
            exact wt_n.mp hb j g1 g2)]
          exact h5 i hb
      have e2 : l = fun _ => 0 := by
        funext i
        rw [hl' i]
        by_cases g : i < k
        · rw [if_pos g]
        · rw [if_neg g]; exact hl i (by omega)
      rw [e1, e2, hQ.qd0]
      exact h
    | succ d ih =>
      intro k w l hk hw hl'
      unfold wX3_crash_45
      refine pk_le 4096 k (fun g => absurd g (by omega)) (fun _ => ⟨pk_in k 4096 (by omega), pk_in k 4096 (by omega), pk_in k 4096 (by omega), ?_⟩) rfl rfl (by omega) (by omega)
      intro y hy
      rw [hy, nI_1, nI_clamp (by omega), nar0]
      refine ih (k + 1) _ _ (by omega) (fun i => ?_) (fun i => ?_)
      · by_cases e : i = k
        · rw [e, pk_us, if_pos (by omega)]
        · rw [pk_un e, hw i]
          by_cases g : i < k
          · rw [if_pos g, if_pos (by omega)]
          · rw [if_neg g, if_neg (by omega)]
      · by_cases e : i = k
        · rw [e, pk_us, if_pos (by omega)]
        · rw [pk_un e, hl' i]
          by_cases g : i < k
          · rw [if_pos g, if_pos (by omega)]
          · rw [if_neg g, if_neg (by omega)]
  have st : ∀ (d k : Nat), k + d = n → wX3_crash_7 post (d + 1) x (nI k) nw (MK nw kp k Lq (fun j => mb x (j % 32))) ml qd qu (nI n) mcl mcr 0 mkind msort mfirst mblk mfree mfnd mfm := by
    intro d
    induction d with
    | zero =>
      intro k hk
      have hkn : k = n := by omega
      subst hkn
      unfold wX3_crash_7
      refine pk_le k k (fun _ => ⟨_, cp 4096 0 nw ml (by omega) (fun i => by rw [if_neg (by omega)]) (fun i => by rw [if_neg (by omega)])⟩) (fun g => absurd g (by omega)) rfl rfl (by omega) (by omega)
    | succ d ih =>
      intro k hk
      have hkl := h2 k (by omega)
      unfold wX3_crash_7
      refine pk_le n k (fun g => absurd g (by omega)) (fun _ => ?_) rfl rfl (by omega) (by omega)
      have hrem : nI k - nI k / 32 * 32 = nI (k % 32) := pk_rem (d := 32) (by omega) (by omega) (by omega)
      rw [hrem, mb_s x (by omega)]
      refine bI_1 (fun g => ?_) (fun g => ⟨pk_in k 512 (by omega), ?_⟩)
      · intro y hy
        rw [hy, nI_1]
        have e2 : MK nw kp k Lq (fun j => mb x (j % 32)) = MK nw kp (k + 1) Lq (fun j => mb x (j % 32)) := by
          funext w
          unfold MK
          rw [sel_s, g, Bool.and_false, Bool.or_false]
        rw [e2]
        exact ih (k + 1) (by omega)
      · rw [nI_clamp (by omega), hkl.1]
        refine e_keepLine hkl.2 ?_
        intro y hy
        rw [hy, nI_1]
        have e1 : cpl nw (MK nw kp k Lq (fun j => mb x (j % 32))) (Lq k) = MK nw kp (k + 1) Lq (fun j => mb x (j % 32)) := by
          funext w
          unfold cpl MK
          rw [sel_s]
          by_cases c : w / 8 = Lq k
          · rw [if_pos c, if_pos (by simp [c, g])]
          · have : decide (Lq k = w / 8) = false := decide_eq_false (fun q => c q.symm)
            rw [if_neg c, this, Bool.false_and, Bool.or_false]
        rw [e1]
        exact ih (k + 1) (by omega)
  have e1 : MK nw kp 0 Lq (fun j => mb x (j % 32)) = kp := by funext w; unfold MK; rw [sel_0]; rfl
  have := st n 0 (by omega)
  rw [e1] at this
  exact ⟨_, this⟩
end PF
