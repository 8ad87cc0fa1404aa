/-! OPS K: the sweep; collect() -/
def KS : Type := (Nat → Nat) × (Nat → Nat) × (Nat → Nat) × WS × Nat
def KS.K (S : KS) : Nat → Nat := Prod.fst S
def KS.F (S : KS) : Nat → Nat := Prod.fst (Prod.snd S)
def KS.B (S : KS) : Nat → Nat := Prod.fst (Prod.snd (Prod.snd S))
def KS.W (S : KS) : WS := Prod.fst (Prod.snd (Prod.snd (Prod.snd S)))
def KS.c (S : KS) : Nat := Prod.snd (Prod.snd (Prod.snd (Prod.snd S)))
def KS.of (K F B : Nat → Nat) (W : WS) (c : Nat) : KS := (K, F, B, W, c)
def KS.lv (S : KS) : Nat → Bool := LV S.K S.F S.B
def KS.rm (S : KS) (a : Nat) : KS := KS.of (rK S.K S.F S.B a) (rF S.K S.F S.B a) (rB S.K S.F S.B a) (S.W.wr a 0) (S.c + 1)
def sw (V : Nat → Bool) (S : KS) (a : Nat) : KS := if (S.lv a && !V a) = true then S.rm a else S
def sws (V : Nat → Bool) (S : KS) : Nat → KS
  | 0 => S
  | a + 1 => sw V (sws V S a) a
section OK
variable {K F B : Nat → Nat} {nw kp qu qd : Nat → Int32} {n : Nat} {Lq : Nat → Nat} {V : Nat → Bool}
def KI (kp : Nat → Int32) (K F B : Nat → Nat) (V : Nat → Bool) (a : Nat) (T : KS) : Prop := PI T.K T.F T.B ∧ SI T.K T.F T.B T.W.nw ∧ T.W.ok kp ∧ (∀ x, T.lv x = true ↔ LV K F B x = true ∧ (x < a → V x = true)) ∧ ∀ x, T.lv x = true → T.K (x / 16) = K (x / 16) ∧ T.F (x / 16) = F (x / 16)
theorem sw_t {T : KS} {a : Nat} (l : T.lv a = true) (v : V a = false) : sw V T a = T.rm a := by unfold sw; rw [l, v]; rfl
theorem sw_n {T : KS} {a : Nat} (l : T.lv a = false) : sw V T a = T := by unfold sw; rw [l]; rfl
theorem sw_v {T : KS} {a : Nat} (v : V a = true) : sw V T a = T := by
  unfold sw
  rw [v, Bool.not_true, Bool.and_false]; rfl
theorem KI.st {a : Nat} {T : KS} (h : KI kp K F B V a T) : KI kp K F B V (a + 1) (sw V T a) := by
  obtain ⟨h1, h2, h3, h4, h5⟩ := h
  by_cases l : T.lv a = true
  · cases v : V a with
    | false =>
      rw [sw_t l v]
      have hr := fun x => LV_rem (x := x) h1 l
      have hla : LV (rK T.K T.F T.B a) (rF T.K T.F T.B a) (rB T.K T.F T.B a) a = false := by
        rw [Bool.eq_false_iff]
        exact fun z => ((hr a).mp z).2 rfl
      refine ⟨(PI_rem h1 l).1, (SI_rem h1 h2 l).upd hla 0, WS.ok_wr h3 (LV_ge h1 l).2 0, fun x => ?_, fun x hx => ?_⟩
      · refine (hr x).trans ?_
        have := h4 x
        unfold KS.lv at this
        rw [this]
        constructor
        · rintro ⟨⟨z1, z2⟩, z3⟩
          exact ⟨z1, fun z => z2 (by omega)⟩
        · rintro ⟨z1, z2⟩
          refine ⟨⟨z1, fun z => z2 (by omega)⟩, fun z => ?_⟩
          rw [z] at z2
          rw [z2 (by omega)] at v; cases v
      · have hx' := (hr x).mp hx
        have hk := LV_k hx
        have := rK_nz (K := T.K) (F := T.F) (B := T.B) (a := a) (p := x / 16) (by
          have : (T.rm a).K (x / 16) = rK T.K T.F T.B a (x / 16) := rfl
          omega)
        have q := h5 x hx'.1
        exact ⟨by rw [← q.1]; exact this.1, by rw [← q.2]; exact this.2⟩
    | true =>
      rw [sw_v v]
      refine ⟨h1, h2, h3, fun x => ?_, h5⟩
      rw [h4 x]
      constructor
      · rintro ⟨z1, z2⟩
        refine ⟨z1, fun z => ?_⟩
        by_cases e : x = a
        · rw [e]; exact v
        · exact z2 (by omega)
      · rintro ⟨z1, z2⟩
        exact ⟨z1, fun z => z2 (by omega)⟩
  · have l' := Bool.eq_false_iff.mpr l
    rw [sw_n l']
    refine ⟨h1, h2, h3, fun x => ?_, h5⟩
    rw [h4 x]
    constructor
    · rintro ⟨z1, z2⟩
      refine ⟨z1, fun z => ?_⟩
      by_cases e : x = a
      · rw [e] at z1
        exact absurd ((h4 a).mpr ⟨z1, fun z => absurd z (by omega)⟩) l
      · exact z2 (by omega)
    · rintro ⟨z1, z2⟩
      exact ⟨z1, fun z => z2 (by omega)⟩
theorem sws_KI {S : KS} (h : KI kp K F B V 0 S) : ∀ a, KI kp K F B V a (sws V S a) := by
  intro a
  induction a with
  | zero => exact h
  | succ a ih => exact ih.st
theorem KI.at {a : Nat} {T : KS} (h : KI kp K F B V a T) : T.lv a = LV K F B a := by
  have := h.2.2.2.1 a
  cases l : LV K F B a with
  | true => exact this.mpr ⟨l, fun z => absurd z (by omega)⟩
  | false =>
    rw [Bool.eq_false_iff]
    intro z
    rw [(this.mp z).1] at l; cases l
theorem sws_skip {S : KS} (h : KI kp K F B V 0 S) {a b : Nat} (hab : a ≤ b) (hn : ∀ x, a ≤ x → x < b → LV K F B x = false) : sws V S b = sws V S a := by
  induction b with
  | zero => rw [show a = 0 by omega]
  | succ b ih =>
    by_cases e : a = b + 1
    · rw [e]
    · have h1 : sws V S (b + 1) = sws V S b := sw_n (by rw [(sws_KI h b).at]; exact hn b (by omega) (by omega))
      rw [h1]
      exact ih (by omega) (fun x g1 g2 => hn x g1 (by omega))
theorem sws_cnt {S : KS} (h : KI kp K F B V 0 S) {a b : Nat} (e : cnt (LV K F B) a = cnt (LV K F B) b) : sws V S a = sws V S b := by
  have key : ∀ a b, a ≤ b → cnt (LV K F B) a = cnt (LV K F B) b → sws V S b = sws V S a := by
    intro a b hab e
    refine sws_skip h hab (fun x h1 h2 => ?_)
    rw [Bool.eq_false_iff]
    intro q
    have g1 := cnt_le (P := LV K F B) h1
    have g2 := cnt_lt q h2
    omega
  rcases Nat.le_total a b with z | z
  · exact (key a b z e).symm
  · exact key b a z e.symm
theorem MR.to {mr : Nat → Int32} (h : MR K F B mr V) {a : Nat} {T : KS} (hK : KI kp K F B V a T) : MR T.K T.F T.B mr V := by
  obtain ⟨Mk, h1, h2⟩ := h
  refine ⟨Mk, h1, fun x hx => ?_⟩
  have e := hK.2.2.2.2 x hx
  have l := ((hK.2.2.2.1 x).mp hx).1
  have es : sl T.K T.F x = sl K F x := by
    unfold sl stp
    rw [e.1, e.2]
  rw [es]; exact h2 x l
/-- the state that collect() leaves -/
def CLT (K F B : Nat → Nat) (W : WS) : KS := sws (RCH (LV K F B) W.nw).V (KS.of K F B W 0) 4096
theorem KI_0 {W : WS} (hI : PI K F B) (hS : SI K F B W.nw) (hQ : W.ok kp) : KI kp K F B V 0 (KS.of K F B W 0) :=
  ⟨hI, hS, hQ, fun x => ⟨fun z => ⟨z, fun y => absurd y (by omega)⟩, fun z => z.1⟩, fun x _ => ⟨rfl, rfl⟩⟩
theorem cl_collect {post : Int32 → Int32 → (Nat → Int32) → (Nat → Int32) → (Nat → Int32) → (Nat → Int32) → Int32 → (Nat → Int32) → (Nat → Int32) → (Nat → Int32) → (Nat → Int32) → Prop} {W : WS} {fd : Int32} {ro mr : Nat → Int32} (hI : PI K F B) (hS : SI K F B W.nw) (hQ : W.ok kp) (h : ∀ fd' ro' mr', post (nI (CLT K F B W).c) fd' ro' (CLT K F B W).W.nw (CLT K F B W).W.qu (CLT K F B W).W.qd (nI (CLT K F B W).W.n) (nn (CLT K F B W).K) (nn (CLT K F B W).F) (nn (CLT K F B W).B) mr') : wX2_collect post fd ro W.nw W.qu W.qd (nI W.n) (nn K) (nn F) (nn B) mr := by
  unfold wX2_collect
  refine cl_markReached hI hS (fun ro' mr' hM => e_listLive hI (fun ro'' hr hc => ?_))
  have h0 := KI_0 (V := (RCH (LV K F B) W.nw).V) hI hS hQ
  have st : ∀ (d k m : Nat), k + d = cnt (LV K F B) 4096 → m ≤ 4096 → cnt (LV K F B) m = k → ∀ T : KS, T = sws (RCH (LV K F B) W.nw).V (KS.of K F B W 0) m → wX2_collect_13 post (d + 1) (nI (cnt (LV K F B) 4096)) (nI T.c) (nI k) (nI (RCH (LV K F B) W.nw).m) ro'' T.W.nw T.W.qu T.W.qd (nI T.W.n) (nn T.K) (nn T.F) (nn T.B) mr' := by
    intro d
    induction d with
    | zero =>
      intro k m hk hm hc' T hT
      have e : T = CLT K F B W := by rw [hT]; exact sws_cnt h0 (by omega)
      rw [e]
      unfold wX2_collect_13
      exact pk_le (cnt (LV K F B) 4096) k (fun _ => h _ _ _) (fun g => absurd g (by omega)) rfl rfl (by omega) (by omega)
    | succ d ih =>
      intro k m hk hm hc' T hT
      obtain ⟨a, a1, a2, a3⟩ := cnt_inv (P := LV K F B) (j := k) (m := 4096) (by omega)
      have er : ro'' k = nI a := by rw [← a3]; exact hr a a1 a2
      have hTa : T = sws (RCH (LV K F B) W.nw).V (KS.of K F B W 0) a := by rw [hT]; exact sws_cnt h0 (by omega)
      have hK := sws_KI h0 a
      rw [← hTa] at hK
      have la : T.lv a = true := by rw [hK.at]; exact a2
      have nx : sws (RCH (LV K F B) W.nw).V (KS.of K F B W 0) (a + 1) = sw (RCH (LV K F B) W.nw).V T a := by rw [hTa]; rfl
      unfold wX2_collect_13
      refine pk_le (cnt (LV K F B) 4096) k (fun g => absurd g (by omega)) (fun _ => e_rowAt (by omega) ?_) rfl rfl (by omega) (by omega)
      rw [er]
      refine e_isMarked hK.1 (hM.to hK) la (br_nb (fun v => ?_) (fun v => e_release hK.1 hK.2.2.1 la ?_))
      · intro x hx
        rw [hx, nI_1]
        exact ih (k + 1) (a + 1) (by omega) (by omega) (by rw [cnt_t a2, a3]) T (by rw [nx, sw_v v])
      · intro y hy x hx
        rw [hx, hy, nI_1, nI_1]
        exact ih (k + 1) (a + 1) (by omega) (by omega) (by rw [cnt_t a2, a3]) (T.rm a) (by rw [nx, sw_t la v])
  exact ⟨_, st (cnt (LV K F B) 4096) 0 0 (by omega) (by omega) rfl _ rfl⟩
-- the model
def SN (sn : Nat → Int32) (V : Nat → Bool) : Prop := ∀ a, a < 4096 → sn a = bI (V a)
theorem mo_see {post : (Nat → Int32) → Int32 → (Nat → Int32) → Prop} {S : MS} {mf sn : Nat → Int32} {x : Int32} (hI : PI K F B) (hS : MI (LV K F B) S) (hA : AM mf S) (hN : SN sn S.V) (h : ∀ mf' sn', AM mf' (sk (LV K F B) S x) → SN sn' (sk (LV K F B) S x).V → post mf' (nI (sk (LV K F B) S x).m) sn') : wX3_see post (bz (LV K F B)) mf (nI S.m) sn x := by
  unfold wX3_see
  refine e_isBlock hI (br_b (fun g => ?_) (fun g => ?_))
  · rw [sk_f (fun a e l => by
      rw [e, LX_N (by have := (LV_ge hI l).2; omega), l] at g; cases g)] at h
    exact h mf sn hA hN
  · obtain ⟨a, ha, rfl, l⟩ := LX_t g
    refine ⟨pk_in a 4096 ha, ?_⟩
    rw [nI_clamp (by omega), hN a ha]
    refine br_b (fun v => ?_) (fun v => ?_)
    · have hm := MI.le hI (hS.ad (LVb hI) l v)
      have hm' : S.m + 1 ≤ 2040 := hm
      rw [sk_t (by omega) l v] at h
      refine ⟨pk_in a 4096 ha, pk_in S.m 2048 (by omega), ?_⟩
      rw [nI_clamp (by omega), nI_1, nar1]
      refine h _ _ (AM_ad hA a) (fun b hb => ?_)
      show upd sn a 1 b = bI (S.V b || decide (b = a))
      by_cases e : b = a
      · rw [e, pk_us, decide_eq_true rfl, Bool.or_true]; rfl
      · rw [pk_un e, decide_eq_false e, Bool.or_false]; exact hN b hb
    · rw [sk_f (fun b e lb => by
        have := (nI_eq (by omega) (by have := (LV_ge hI lb).2; omega)).mp e
        rw [← this]; exact v)] at h
      exact h mf sn hA hN
theorem mo_collect {post : Int32 → (Nat → Int32) → (Nat → Int32) → (Nat → Int32) → (Nat → Int32) → Int32 → Int32 → (Nat → Int32) → Int32 → (Nat → Int32) → Prop} {W : WS} {mth mfm : Int32} {mfnd msn : Nat → Int32} (hI : PI K F B) (hS : SI K F B W.nw) (hQ : W.ok kp) (h : ∀ mf fm sn, post (nI (CLT K F B W).c) (CLT K F B W).W.nw (bz (CLT K F B W).lv) (CLT K F B W).W.qd (CLT K F B W).W.qu (nI (CLT K F B W).W.n) 0 mf fm sn) : wX3_collect post W.nw (bz (LV K F B)) W.qd W.qu (nI W.n) mth mfnd mfm msn := by
  have h0 := KI_0 (V := (RCH (LV K F B) W.nw).V) hI hS hQ
  have sweep : ∀ (fm : Int32) (mf sn : Nat → Int32), SN sn (RCH (LV K F B) W.nw).V → ∀ (d a : Nat) (T : KS), a + d = 4096 → T = sws (RCH (LV K F B) W.nw).V (KS.of K F B W 0) a → wX3_collect_118 post (d + 1) (nI T.c) (nI a) T.W.nw (bz T.lv) T.W.qd T.W.qu (nI T.W.n) 0 mf fm sn := by
    intro fm mf sn hN d
    induction d with
    | zero =>
      intro a T hd hT
      have e : a = 4096 := by omega
      subst e
      have e2 : T = CLT K F B W := hT
      rw [e2]
      unfold wX3_collect_118
      exact pk_le 4096 4096 (fun _ => h _ _ _) (fun g => absurd g (by omega)) rfl rfl (by omega) (by omega)
    | succ d ih =>
      intro a T hd hT
      have hK := sws_KI h0 a
      rw [← hT] at hK
      have nx : sws (RCH (LV K F B) W.nw).V (KS.of K F B W 0) (a + 1) = sw (RCH (LV K F B) W.nw).V T a := by rw [hT]; rfl
      unfold wX3_collect_118
      refine pk_le 4096 a (fun g => absurd g (by omega)) (fun _ => ⟨pk_in a 4096 (by omega), ?_⟩) rfl rfl (by omega) (by omega)
      rw [nI_clamp (by omega), bz_v, hN a (by omega)]
      refine br_b (fun l => ?_) (fun l => ⟨pk_in a 4096 (by omega), br_b (fun v => e_freed hK.1 hK.2.2.1 l ?_) (fun v => ?_)⟩)
      · intro x hx
        rw [hx, nI_1]
        exact ih (a + 1) T (by omega) (by rw [nx, sw_n l])
      · intro y hy x hx
        rw [hx, hy, nI_1, nI_1]
        exact ih (a + 1) (T.rm a) (by omega) (by rw [nx, sw_t l v])
      · intro x hx
        rw [hx, nI_1]
        exact ih (a + 1) T (by omega) (by rw [nx, sw_v v])
  have start : ∀ (fm : Int32) (mf sn : Nat → Int32), SN sn (RCH (LV K F B) W.nw).V → ∃ fu, wX3_collect_118 post fu 0 16 W.nw (bz (LV K F B)) W.qd W.qu (nI W.n) 0 mf fm sn := by
    intro fm mf sn hN
    have e : sws (RCH (LV K F B) W.nw).V (KS.of K F B W 0) 16 = KS.of K F B W 0 := sws_skip h0 (a := 0) (by omega) (fun x _ h2 => LV_16 hI h2)
    exact ⟨_, sweep fm mf sn hN 4080 16 (KS.of K F B W 0) (by omega) e.symm⟩
  have reach : ∀ (f k : Nat) (S : MS) (mf sn : Nat → Int32), k + f = 2040 → MI (LV K F B) S → AM mf S → SN sn S.V → rms (LV K F B) W.nw (f + 1) S k = RCH (LV K F B) W.nw → wX3_collect_58 post (f + 1) (nI k) W.nw (bz (LV K F B)) W.qd W.qu (nI W.n) 0 mf (nI S.m) sn := by
    intro f
    induction f with
    | zero =>
      intro k S mf sn hk hR hA hN hE
      have hm := MI.le hI hR
      unfold wX3_collect_58
      have e : rms (LV K F B) W.nw (0 + 1) S k = S := by unfold rms; rw [if_pos (by omega)]
      rw [e] at hE
      exact pk_le S.m k (fun _ => start _ mf sn (by rw [← hE]; exact hN)) (fun z => absurd z (by omega)) rfl rfl (by omega) (by omega)
    | succ f ih =>
      intro k S mf sn hk hR hA hN hE
      have hm := MI.le hI hR
      unfold wX3_collect_58
      refine pk_le S.m k (fun g => ?_) (fun g => ?_) rfl rfl (by omega) (by omega)
      · have e : rms (LV K F B) W.nw (f + 1 + 1) S k = S := by unfold rms; rw [if_pos g]
        rw [e] at hE
        exact start _ mf sn (by rw [← hE]; exact hN)
      · have e : rms (LV K F B) W.nw (f + 1 + 1) S k = rms (LV K F B) W.nw (f + 1) (sks (LV K F B) W.nw S (S.ro k + 1) (rfw (W.nw (S.ro k)))) (k + 1) := by
          rw [rms, if_neg (by omega)]
        rw [e] at hE
        have hl := hR.2.2 k g
        have hb := (LV_ge hI hl).2
        have hin := hS.in hI hl
        have hrs := (hS _ hl).2.1
        have hr := rfw_lt (W.nw (S.ro k))
        have st : ∀ (d i : Nat) (T : MS) (mf sn : Nat → Int32), i + d = rfw (W.nw (S.ro k)) → T = sks (LV K F B) W.nw S (S.ro k + 1) i → AM mf T → SN sn T.V → wX3_collect_68 post (wX3_collect_58 post (f + 1)) (d + 1) (nI k) (nI i) W.nw (bz (LV K F B)) W.qd W.qu (nI W.n) 0 mf (nI T.m) sn := by
          intro d
          induction d with
          | zero =>
            intro i T mf sn hi hT hA hN
            have hro := sks_ro (nw := W.nw) (LV K F B) (LVb hI) (S := S) (f := S.ro k + 1) g i
            rw [← hT] at hro
            unfold wX3_collect_68
            refine ⟨pk_in k 2048 (by omega), ?_⟩
            rw [nI_clamp (by omega), hA k (by omega), hro.1]
            refine e_refsAt hb (pk_le (rfw (W.nw (S.ro k))) i (fun _ => ?_) (fun z => absurd z (by omega)) rfl rfl (by omega) (by omega))
            intro x hx
            rw [hx, nI_1]
            have ei : i = rfw (W.nw (S.ro k)) := by omega
            rw [← ei, ← hT] at hE
            exact ih (k + 1) T mf sn (by omega) (by rw [hT]; exact hR.sks (LVb hI) _ _) hA hN hE
          | succ d ihd =>
            intro i T mf sn hi hT hA hN
            have hro := sks_ro (nw := W.nw) (LV K F B) (LVb hI) (S := S) (f := S.ro k + 1) g i
            rw [← hT] at hro
            have hMT : MI (LV K F B) T := by rw [hT]; exact hR.sks (LVb hI) _ i
            have nx : sks (LV K F B) W.nw S (S.ro k + 1) (i + 1) = sk (LV K F B) T (W.nw (S.ro k + 1 + i)) := by rw [hT]; rfl
            unfold wX3_collect_68
            refine ⟨pk_in k 2048 (by omega), ?_⟩
            rw [nI_clamp (by omega), hA k (by omega), hro.1]
            refine e_refsAt hb (pk_le (rfw (W.nw (S.ro k))) i (fun z => absurd z (by omega)) (fun _ => ⟨pk_in k 2048 (by omega), ?_⟩) rfl rfl (by omega) (by omega))
            rw [show nI (S.ro k) + 1 = nI (S.ro k + 1) from nI_1 .., nI_add (S.ro k + 1) i, nI_clamp (by omega)]
            refine ⟨pk_in (S.ro k + 1 + i) 4096 (by omega), mo_see hI hMT hA hN (fun mf' sn' hA' hN' => ?_)⟩
            intro x hx
            rw [hx, nI_1]
            exact ihd (i + 1) _ mf' sn' (by omega) nx.symm hA' hN'
        exact ⟨_, st (rfw (W.nw (S.ro k))) 0 S mf sn (by omega) rfl hA hN⟩
  have roots : ∀ (d i : Nat) (T : MS) (mf sn : Nat → Int32), i + d = 8 → T = sks (LV K F B) W.nw MS0 1 i → AM mf T → SN sn T.V → wX3_collect_34 post (d + 1) (nI (1 + i)) W.nw (bz (LV K F B)) W.qd W.qu (nI W.n) 0 mf (nI T.m) sn := by
    intro d
    induction d with
    | zero =>
      intro i T mf sn hi hT hA hN
      have e : i = 8 := by omega
      subst e
      unfold wX3_collect_34
      refine pk_lt 8 (1 + 8) (fun _ => ?_) (fun z => absurd z (by omega)) rfl rfl (by omega) (by omega)
      exact ⟨_, reach 2040 0 T mf sn (by omega) (by rw [hT]; exact (MS0_MI _).sks (LVb hI) 1 8) hA hN (by rw [hT]; rfl)⟩
    | succ d ih =>
      intro i T mf sn hi hT hA hN
      have hMT : MI (LV K F B) T := by rw [hT]; exact (MS0_MI _).sks (LVb hI) 1 i
      have nx : sks (LV K F B) W.nw MS0 1 (i + 1) = sk (LV K F B) T (W.nw (1 + i)) := by rw [hT]; rfl
      unfold wX3_collect_34
      refine pk_lt 8 (1 + i) (fun z => absurd z (by omega)) (fun _ => ⟨pk_in (1 + i) 4096 (by omega), ?_⟩) rfl rfl (by omega) (by omega)
      rw [nI_clamp (by omega)]
      refine mo_see hI hMT hA hN (fun mf' sn' hA' hN' => ?_)
      intro x hx
      rw [hx, nI_1]
      exact ih (i + 1) _ mf' sn' (by omega) nx.symm hA' hN'
  have init : ∀ (d i : Nat) (sn : Nat → Int32), i + d = 4096 → (∀ j, j < i → sn j = 0) → wX3_collect_7 post (d + 1) (nI i) W.nw (bz (LV K F B)) W.qd W.qu (nI W.n) 0 mfnd mfm sn := by
    intro d
    induction d with
    | zero =>
      intro i sn hi hz
      unfold wX3_collect_7
      refine pk_le 4096 i (fun _ => ?_) (fun z => absurd z (by omega)) rfl rfl (by omega) (by omega)
      exact ⟨_, roots 8 0 MS0 mfnd sn (by omega) rfl (fun j hj => absurd hj (Nat.not_lt_zero j)) (fun a ha => hz a (by omega))⟩
    | succ d ih =>
      intro i sn hi hz
      unfold wX3_collect_7
      refine pk_le 4096 i (fun z => absurd z (by omega)) (fun _ => ⟨pk_in i 4096 (by omega), ?_⟩) rfl rfl (by omega) (by omega)
      intro x hx
      rw [hx, nI_1, nI_clamp (by omega), nar0]
      refine ih (i + 1) _ (by omega) (fun j hj => ?_)
      by_cases e : j = i
      · rw [e, pk_us]
      · rw [pk_un e]; exact hz j (by omega)
  exact ⟨_, init 4096 0 msn (by omega) (fun j hj => absurd hj (by omega))⟩
end OK
