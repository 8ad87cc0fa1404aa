/-! OPS I: the model's recovery -/
section OI
variable {kp : Nat → Int32}
theorem lk_ro {S : RS} {w j : Nat} (hj : j < S.m) : (lk S w).ro j = S.ro j ∧ S.m ≤ (lk S w).m := by
  rcases lk_cases S w with ⟨-, e⟩ | ⟨-, a, -, -, -, -, -, -, -, -, e⟩ | ⟨-, -, e⟩
  · rw [e]; exact ⟨rfl, Nat.le_refl _⟩
  · rw [e]
    exact ⟨up_n _ (by omega), Nat.le_succ _⟩
  · rw [e]; exact ⟨rfl, Nat.le_refl _⟩
theorem lks_ro {S : RS} {f j : Nat} (hj : j < S.m) : ∀ i, (lks S f i).ro j = S.ro j ∧ S.m ≤ (lks S f i).m := by
  intro i
  induction i with
  | zero => exact ⟨rfl, Nat.le_refl _⟩
  | succ i ih =>
    have := lk_ro (S := lks S f i) (w := f + i) (j := j) (by omega)
    exact ⟨by rw [← ih.1]; exact this.1, Nat.le_trans ih.2 this.2⟩
theorem mo_look {post : (Nat → Int32) → (Nat → Int32) → (Nat → Int32) → (Nat → Int32) → Int32 → Int32 → (Nat → Int32) → (Nat → Int32) → (Nat → Int32) → (Nat → Int32) → (Nat → Int32) → (Nat → Int32) → Int32 → Prop} {S : RS} {w : Nat} {mf mkind msort mfirst mblk mfree : Nat → Int32} (hR : RI kp S) (hw : w < 4096) (hl : S.lv w = false) (hA : AG mf S) (h : ∀ a b c d e mf', AG mf' (lk S w) → post (lk S w).W.nw (bz (lk S w).lv) (lk S w).W.qd (lk S w).W.qu (nI (lk S w).W.n) (nI (lk S w).c) a b c d e mf' (nI (lk S w).m)) : wX3_look post S.W.nw (bz S.lv) S.W.qd S.W.qu (nI S.W.n) (nI S.c) mkind msort mfirst mblk mfree mf (nI S.m) (nI w) := by
  have hm := hR.le
  unfold wX3_look
  refine ⟨pk_in w 4096 hw, ?_⟩
  intro x hx
  rw [nI_clamp (by omega)] at hx
  subst hx
  rcases lk_cases S w with ⟨t, e⟩ | ⟨t, a, ev, rx, h16, ha, g1, g2, hH, hla, e⟩ | ⟨t, rx, e⟩
  · rw [e] at h
    refine ⟨fun _ => h _ _ _ _ _ mf hA, fun g0 => e_isBlock hR.pi ?_⟩
    unfold TG at t
    rw [decide_eq_false g0, Bool.false_or] at t
    rw [t]
    exact ⟨fun z => absurd z (by decide), fun _ => h _ _ _ _ _ mf hA⟩
  · rw [e] at h
    unfold TG at t
    rw [Bool.or_eq_false_iff] at t
    refine ⟨fun g0 => absurd g0 (of_decide_eq_false t.1), fun g0 => e_isBlock hR.pi ?_⟩
    rw [t.2]
    refine ⟨fun _ => e_fits hR.pi hR.si (fun ka kb kc kd ke => ?_), fun z => absurd rfl z⟩
    rw [ev, rx]
    have hm' : S.m < 2040 := by
      have h1 := (lk_RI hR hw hl).le
      rw [e] at h1
      exact h1
    refine ⟨fun z => absurd z (by decide), fun _ => ⟨pk_in a 4096 ha, pk_in S.m 2048 (by omega), ?_⟩⟩
    rw [nI_clamp (by omega), nI_clamp (by omega), nI_1, nar1]
    have hz := szw_lt (S.W.nw a)
    have eb : upd (bz S.lv) a 1 = bz (S.rv a).lv := bz_add hR.pi ha (by omega) hH
    rw [eb]
    exact h _ _ _ _ _ _ (AG_rv hA a)
  · rw [e] at h
    unfold TG at t
    rw [Bool.or_eq_false_iff] at t
    refine ⟨fun g0 => absurd g0 (of_decide_eq_false t.1), fun g0 => e_isBlock hR.pi ?_⟩
    rw [t.2]
    refine ⟨fun _ => e_fits hR.pi hR.si (fun ka kb kc kd ke => ?_), fun z => absurd rfl z⟩
    rw [rx]
    refine ⟨fun _ => e_mwrite hR.ok hw ?_, fun z => absurd rfl z⟩
    rw [nI_1]
    exact h _ _ _ _ _ mf hA
theorem mo_rec_l {post : Int32 → (Nat → Int32) → (Nat → Int32) → (Nat → Int32) → (Nat → Int32) → (Nat → Int32) → Int32 → Int32 → Int32 → Int32 → (Nat → Int32) → (Nat → Int32) → (Nat → Int32) → (Nat → Int32) → (Nat → Int32) → (Nat → Int32) → Int32 → Prop} {M : Nat → Int32} {mcr mth : Int32} : ∀ (f k : Nat) (S : RS) (mf mkind msort mfirst mblk mfree : Nat → Int32), k + f = 2040 → RI kp S → AG mf S → (∀ a b c d e mf', post (nI (rcs (f + 1) S k).m) (rcs (f + 1) S k).W.nw M (bz (rcs (f + 1) S k).lv) (rcs (f + 1) S k).W.qd (rcs (f + 1) S k).W.qu (nI (rcs (f + 1) S k).W.n) (nI (rcs (f + 1) S k).c) mcr mth a b c d e mf' (nI (rcs (f + 1) S k).m)) → wX3_crash_122 post (f + 1) (nI k) S.W.nw M (bz S.lv) S.W.qd S.W.qu (nI S.W.n) (nI S.c) mcr mth mkind msort mfirst mblk mfree mf (nI S.m) := by
  intro f
  induction f with
  | zero =>
    intro k S mf mkind msort mfirst mblk mfree hk hR hA h
    have hm := hR.le
    unfold wX3_crash_122
    have e : rcs (0 + 1) S k = S := by unfold rcs; rw [if_pos (by omega)]
    rw [e] at h
    exact pk_le S.m k (fun _ => h _ _ _ _ _ mf) (fun z => absurd z (by omega)) rfl rfl (by omega) (by omega)
  | succ f ih =>
    intro k S mf mkind msort mfirst mblk mfree hk hR hA h
    have hm := hR.le
    unfold wX3_crash_122
    refine pk_le S.m k (fun g => ?_) (fun g => ?_) rfl rfl (by omega) (by omega)
    · have e : rcs (f + 1 + 1) S k = S := by unfold rcs; rw [if_pos g]
      rw [e] at h
      exact h _ _ _ _ _ mf
    · have e : rcs (f + 1 + 1) S k = rcs (f + 1) (lks S (S.ro k + 1) (rfw (S.W.nw (S.ro k)))) (k + 1) := by
        rw [rcs, if_neg (by omega)]
      rw [e] at h
      have hl := hR.rl g
      have hb := LV_ge hR.pi hl
      have hr := rfw_lt (S.W.nw (S.ro k))
      have hF : FR S (S.ro k + 1) (rfw (S.W.nw (S.ro k))) := Or.inr ⟨S.ro k, rfl, hl, rfl⟩
      have st : ∀ (d i : Nat) (T : RS) (mf mkind msort mfirst mblk mfree : Nat → Int32), i + d = rfw (S.W.nw (S.ro k)) → T = lks S (S.ro k + 1) i → AG mf T → wX3_crash_132 post (wX3_crash_122 post (f + 1)) (d + 1) (nI k) (nI i) T.W.nw M (bz T.lv) T.W.qd T.W.qu (nI T.W.n) (nI T.c) mcr mth mkind msort mfirst mblk mfree mf (nI T.m) := by
        intro d
        induction d with
        | zero =>
          intro i T mf mkind msort mfirst mblk mfree hi hT hA
          obtain ⟨hRT, hFT⟩ := lks_RI hR hF i (by omega)
          have hro := lks_ro (S := S) (f := S.ro k + 1) g i
          rw [← hT] at hRT hFT hro
          have hlen : rfw (T.W.nw (S.ro k)) = rfw (S.W.nw (S.ro k)) := by
            rcases hFT with ⟨z, -⟩ | ⟨a, z1, -, z2⟩
            · omega
            · rw [show a = S.ro k by omega] at z2; exact z2.symm
          unfold wX3_crash_132
          refine ⟨pk_in k 2048 (by omega), ?_⟩
          rw [nI_clamp (by omega), hA k (by omega), hro.1]
          refine e_refsAt hb.2 ?_
          rw [hlen]
          refine pk_le (rfw (S.W.nw (S.ro k))) i (fun _ => ?_) (fun z => absurd z (by omega)) rfl rfl (by omega) (by omega)
          intro x hx
          rw [hx, nI_1]
          have ei : i = rfw (S.W.nw (S.ro k)) := by omega
          rw [← ei, ← hT] at h
          exact ih (k + 1) T mf _ _ _ _ _ (by omega) hRT hA h
        | succ d ihd =>
          intro i T mf mkind msort mfirst mblk mfree hi hT hA
          obtain ⟨hRT, hFT⟩ := lks_RI hR hF i (by omega)
          have hro := lks_ro (S := S) (f := S.ro k + 1) g i
          rw [← hT] at hRT hFT hro
          have hin := hFT.in hRT (i := i) (by omega)
          have hlen : rfw (T.W.nw (S.ro k)) = rfw (S.W.nw (S.ro k)) := by
            rcases hFT with ⟨z, -⟩ | ⟨a, z1, -, z2⟩
            · omega
            · rw [show a = S.ro k by omega] at z2; exact z2.symm
          have nx : lks S (S.ro k + 1) (i + 1) = lk T (S.ro k + 1 + i) := by rw [hT]; rfl
          unfold wX3_crash_132
          refine ⟨pk_in k 2048 (by omega), ?_⟩
          rw [nI_clamp (by omega), hA k (by omega), hro.1]
          refine e_refsAt hb.2 ?_
          rw [hlen]
          refine pk_le (rfw (S.W.nw (S.ro k))) i (fun z => absurd z (by omega)) (fun _ => ⟨pk_in k 2048 (by omega), ?_⟩) rfl rfl (by omega) (by omega)
          rw [show nI (S.ro k) + 1 = nI (S.ro k + 1) from nI_1 .., nI_add (S.ro k + 1) i]
          refine mo_look hRT hin.1 hin.2 hA (fun ka kb kc kd ke mf' hA' => ?_)
          intro x hx
          rw [hx, nI_1]
          exact ihd (i + 1) _ mf' _ _ _ _ _ (by omega) nx.symm hA'
      exact ⟨_, st (rfw (S.W.nw (S.ro k))) 0 S mf _ _ _ _ _ (by omega) rfl hA⟩
theorem mo_crash {post : Int32 → (Nat → Int32) → (Nat → Int32) → (Nat → Int32) → (Nat → Int32) → (Nat → Int32) → Int32 → Int32 → Int32 → Int32 → (Nat → Int32) → (Nat → Int32) → (Nat → Int32) → (Nat → Int32) → (Nat → Int32) → (Nat → Int32) → Int32 → Prop} {K F B : Nat → Nat} {nw kp qu qd : Nat → Int32} {n : Nat} {Lq : Nat → Nat} {x mcl mcr mth mfm : Int32} {mkind msort mfirst mblk mfree mfnd : Nat → Int32} (hI : PI K F B) (hQ : QI nw kp qu qd n Lq) {M : Nat → Int32} (hM : M = MK nw kp n Lq (fun j => mb x (j % 32))) (h : ∀ a b c d e mf', post (nI (RCV F M qu Lq).m) (RCV F M qu Lq).W.nw M (bz (RCV F M qu Lq).lv) (RCV F M qu Lq).W.qd (RCV F M qu Lq).W.qu (nI (RCV F M qu Lq).W.n) (nI (RCV F M qu Lq).c) (mcr + 1) 0 a b c d e mf' (nI (RCV F M qu Lq).m)) : wX3_crash post nw kp (bz (LV K F B)) qd qu (nI n) mcl mcr mth mkind msort mfirst mblk mfree mfnd mfm x := by
  refine e_mcrash_a hQ (fun i hi => ?_) ?_
  · have : LV K F B i = false := by
      rw [Bool.eq_false_iff]
      exact fun l => absurd (LV_ge hI l).2 (by omega)
    rw [bz_v, this]; rfl
  · rw [← hM]
    have hR := RS0_RI hI.f M qu Lq
    have hF : FR (RS0 F M qu Lq) 1 8 := Or.inl ⟨rfl, rfl⟩
    have st : ∀ (d i : Nat) (T : RS) (mf mkind msort mfirst mblk mfree : Nat → Int32), i + d = 8 → T = lks (RS0 F M qu Lq) 1 i → AG mf T → wX3_crash_103 post (d + 1) (nI (1 + i)) T.W.nw M (bz T.lv) T.W.qd T.W.qu (nI T.W.n) (nI T.c) (mcr + 1) 0 mkind msort mfirst mblk mfree mf (nI T.m) := by
      intro d
      induction d with
      | zero =>
        intro i T mf mkind msort mfirst mblk mfree hi hT hA
        have e : i = 8 := by omega
        subst e
        unfold wX3_crash_103
        refine pk_lt 8 (1 + 8) (fun _ => ?_) (fun z => absurd z (by omega)) rfl rfl (by omega) (by omega)
        refine ⟨_, mo_rec_l (kp := M) 2040 0 T mf _ _ _ _ _ (by omega) ?_ hA ?_⟩
        · rw [hT]; exact (lks_RI hR hF 8 (Nat.le_refl 8)).1
        · rw [hT]; exact h
      | succ d ih =>
        intro i T mf mkind msort mfirst mblk mfree hi hT hA
        obtain ⟨hRT, hFT⟩ := lks_RI hR hF i (by omega)
        rw [← hT] at hRT hFT
        have hin := hFT.in hRT (i := i) (by omega)
        have nx : lks (RS0 F M qu Lq) 1 (i + 1) = lk T (1 + i) := by rw [hT]; rfl
        unfold wX3_crash_103
        refine pk_lt 8 (1 + i) (fun z => absurd z (by omega)) (fun _ => ?_) rfl rfl (by omega) (by omega)
        refine mo_look hRT hin.1 hin.2 hA (fun ka kb kc kd ke mf' hA' => ?_)
        intro y hy
        rw [hy, nI_1]
        exact ih (i + 1) _ mf' _ _ _ _ _ (by omega) nx.symm hA'
    have eb : bz (RS0 F M qu Lq).lv = fun _ => 0 := by
      funext j
      rw [bz_v]
      show bI (LV (up (fun _ => 0) 0 4) F (fun _ => 0) j) = 0
      rw [LV_none]; rfl
    have := st 8 0 (RS0 F M qu Lq) mfnd mkind msort mfirst mblk mfree (by omega) rfl (fun j hj => absurd hj (Nat.not_lt_zero j))
    rw [eb] at this
    exact ⟨_, this⟩
end OI
