/-! OPS F: a block comes; alloc -/
/-- the words with the lines that wait -/
def WS : Type := (Nat → Int32) × (Nat → Int32) × (Nat → Int32) × Nat × (Nat → Nat)
def WS.nw (S : WS) : Nat → Int32 := Prod.fst S
def WS.qu (S : WS) : Nat → Int32 := Prod.fst (Prod.snd S)
def WS.qd (S : WS) : Nat → Int32 := Prod.fst (Prod.snd (Prod.snd S))
def WS.n (S : WS) : Nat := Prod.fst (Prod.snd (Prod.snd (Prod.snd S)))
def WS.Lq (S : WS) : Nat → Nat := Prod.snd (Prod.snd (Prod.snd (Prod.snd S)))
def WS.of (nw qu qd : Nat → Int32) (n : Nat) (Lq : Nat → Nat) : WS := (nw, qu, qd, n, Lq)
def WS.wr (S : WS) (w : Nat) (v : Int32) : WS := WS.of (upd S.nw w v) (wqu S.qu S.n S.Lq (w / 8)) (wqd S.qd S.n S.Lq (w / 8)) (wqn S.n S.Lq (w / 8)) (wql S.n S.Lq (w / 8))
def WS.ok (S : WS) (kp : Nat → Int32) : Prop := QI S.nw kp S.qu S.qd S.n S.Lq
theorem WS.ok_wr {S : WS} {kp : Nat → Int32} (h : S.ok kp) {w : Nat} (hw : w < 4096) (v : Int32) : (S.wr w v).ok kp := QI.write h hw v
def WS.zs (S : WS) (a : Nat) : Nat → WS
  | 0 => S
  | i + 1 => (S.zs a i).wr (a + 1 + i) 0
theorem WS.ok_zs {S : WS} {kp : Nat → Int32} (h : S.ok kp) {a : Nat} : ∀ i, a + i < 4096 → (S.zs a i).ok kp := by
  intro i
  induction i with
  | zero => intro _; exact h
  | succ i ih => intro hi; exact WS.ok_wr (ih (by omega)) (by omega) 0
theorem WS.zs_a (S : WS) (a : Nat) : ∀ i x, x ≤ a → (S.zs a i).nw x = S.nw x := by
  intro i
  induction i with
  | zero => intro x _; rfl
  | succ i ih =>
    intro x hx
    show upd (S.zs a i).nw (a + 1 + i) 0 x = S.nw x
    rw [pk_un (by omega)]; exact ih x hx
section OF
variable {K F B : Nat → Nat} {nw kp : Nat → Int32} {n : Nat}
theorem LV_aKF (hI : PI K F B) {a x : Nat} (hH : HD K F a n) (hl : LV K F B x = true) : aK K a n (x / 16) = K (x / 16) ∧ aF F a n (x / 16) = F (x / 16) := by
  have hk := LV_k hl
  rcases hH with ⟨h8, h1, h2, h3⟩ | ⟨h8, h1, h2, h3⟩
  · unfold aK aF
    rw [if_pos h8, if_pos h8]
    by_cases e : x / 16 = a / 16
    · rw [e, up_s, up_s]
      rw [e] at hk
      omega
    · rw [up_n _ e, up_n _ e]; exact ⟨rfl, rfl⟩
  · unfold aK aF
    rw [if_neg (by omega), if_neg (by omega)]
    obtain ⟨r1, r2⟩ := rn_iff.mp h3
    have hne : ¬ (a / 16 ≤ x / 16 ∧ x / 16 < a / 16 + 2 ^ ord n) := fun z => by
      have := r2 (x / 16 - a / 16) (by omega)
      rw [show a / 16 + (x / 16 - a / 16) = x / 16 by omega] at this
      omega
    have h0 := Nat.two_pow_pos (ord n)
    unfold ext ran
    rw [if_neg (by omega), if_neg (by omega), if_neg hne]
    exact ⟨rfl, rfl⟩
theorem LV_add (hI : PI K F B) {a x : Nat} (ha : a < 4096) (hn : n ≤ 2048) (hH : HD K F a n) : LV (aK K a n) (aF F a n) (aB B a n) x = true ↔ LV K F B x = true ∨ x = a := by
  rw [(PI_add hI ha hn hH).2 x, Bool.or_eq_true, decide_eq_true_iff]
theorem SI_add (hI : PI K F B) (hS : SI K F B nw) {a : Nat} (ha : a < 4096) (hn : n = szw (nw a) + 1) (h1 : 1 ≤ szw (nw a)) (h2 : rfw (nw a) ≤ szw (nw a)) (hH : HD K F a n) : SI (aK K a n) (aF F a n) (aB B a n) nw := by
  have hz := szw_lt (nw a)
  intro x h
  rcases (LV_add hI ha (by omega) hH).mp h with l | e
  · have := LV_aKF hI hH l
    rw [this.1, this.2]
    exact hS x l
  · subst e
    refine ⟨h1, h2, ?_⟩
    have h0 := Nat.two_pow_pos (ord n)
    rcases hH with ⟨h8, -⟩ | ⟨h8, -⟩
    · unfold aK aF
      rw [if_pos h8, if_pos h8, up_s, up_s]
      exact ⟨fun _ => ⟨by omega, by rw [hn]⟩, fun z => absurd z (by decide)⟩
    · unfold aK aF
      rw [if_neg (by omega), if_neg (by omega)]
      unfold ext ran
      rw [if_pos rfl, if_pos (by omega)]
      exact ⟨fun z => absurd z (by decide), fun _ => ⟨by omega, by rw [hn]⟩⟩
theorem bz_add (hI : PI K F B) {a : Nat} (ha : a < 4096) (hn : n ≤ 2048) (hH : HD K F a n) : upd (bz (LV K F B)) a 1 = bz (LV (aK K a n) (aF F a n) (aB B a n)) :=
  bz_upd (v := true) (fun x => by
    rw [(PI_add hI ha hn hH).2 x]
    by_cases e : x = a
    · rw [if_pos e, decide_eq_true e, Bool.or_true]
    · rw [if_neg e, decide_eq_false e, Bool.or_false])
theorem SI_zs {S : WS} (hI : PI K F B) (hS : SI K F B S.nw) {a : Nat} (l : LV K F B a = true) : ∀ i, i ≤ szw (S.nw a) → SI K F B (S.zs a i).nw := by
  intro i
  induction i with
  | zero => intro _; exact hS
  | succ i ih =>
    intro hi
    have h1 := ih (by omega)
    refine SI.upd h1 ?_ 0
    have e := WS.zs_a S a i a (Nat.le_refl a)
    have := h1.nohead hI l (i := 1 + i) (by omega) (by rw [e]; omega)
    rw [← Nat.add_assoc] at this
    exact this
-- alloc
/-- what alloc leaves: the head, then zeros -/
def als (S : WS) (a s r : Nat) : WS := (S.wr a (hdv a s r)).zs a s
theorem als_ok {S : WS} (hQ : S.ok kp) {a s r : Nat} (ha : a + s < 4096) : (als S a s r).ok kp := WS.ok_zs (WS.ok_wr hQ (by omega) _) s ha
theorem al_in (hI : PI K F B) {a s : Nat} (ha : a < 4096) (hs : s < 2048) (hH : HD K F a (s + 1)) : a + s < 4096 := by
  rcases hH with ⟨h8, h1, h2, h3⟩ | ⟨h8, h1, h2, h3⟩
  · have hc := cls_ge h8
    have hm : a % 16 / cls (s + 1) * cls (s + 1) = a % 16 := Nat.div_mul_cancel (Nat.dvd_of_mod_eq_zero h1)
    have h4 : (a % 16 / cls (s + 1) + 1) * cls (s + 1) ≤ 16 / cls (s + 1) * cls (s + 1) := Nat.mul_le_mul_right _ h2
    have h5 := Nat.div_mul_le_self 16 (cls (s + 1))
    rw [Nat.add_mul, Nat.one_mul, hm] at h4
    omega
  · have hg := ord_ge (n := s + 1) (by omega)
    have := (rn_iff.mp h3).1
    omega
theorem als_SI {S : WS} (hI : PI K F B) (hS : SI K F B S.nw) {a s r : Nat} (ha : a < 4096) (h1 : 1 ≤ s) (hs : s < 2048) (hr : r ≤ s) (hl : LV K F B a = false) (hH : HD K F a (s + 1)) : SI (aK K a (s + 1)) (aF F a (s + 1)) (aB B a (s + 1)) (als S a s r).nw := by
  have e1 : (S.wr a (hdv a s r)).nw a = hdv a s r := pk_us ..
  have es : szw ((S.wr a (hdv a s r)).nw a) = s := by rw [e1]; exact hdv_s hs (by omega)
  have er : rfw ((S.wr a (hdv a s r)).nw a) = r := by rw [e1]; exact hdv_r hs (by omega)
  have hS1 : SI K F B (S.wr a (hdv a s r)).nw := hS.upd hl _
  have hS2 := SI_add (n := s + 1) hI hS1 ha (by rw [es]) (by rw [es]; exact h1) (by rw [es, er]; exact hr) hH
  exact SI_zs (PI_add hI ha (by omega) hH).1 hS2 ((LV_add hI ha (by omega) hH).mpr (Or.inr rfl)) s (by rw [es]; exact Nat.le_refl s)
theorem cl_alloc {post : Int32 → Int32 → (Nat → Int32) → (Nat → Int32) → (Nat → Int32) → Int32 → (Nat → Int32) → (Nat → Int32) → (Nat → Int32) → Prop} {tr x y : Int32} {S : WS} (hI : PI K F B) (hQ : S.ok kp) (h3 : ¬ shp x y → post (-1) 3 S.nw S.qu S.qd (nI S.n) (nn K) (nn F) (nn B)) (h1 : ∀ s r, shp x y → x = nI s → y = nI r → 1 ≤ s → s ≤ 2047 → r ≤ s → PL K F B (s + 1) (-1) → post (-1) 1 S.nw S.qu S.qd (nI S.n) (nn K) (nn F) (nn B)) (h0 : ∀ s r a, shp x y → x = nI s → y = nI r → 1 ≤ s → s ≤ 2047 → r ≤ s → PL K F B (s + 1) (nI a) → a < 4096 → LV K F B a = false → HD K F a (s + 1) → post (nI a) 0 (als S a s r).nw (als S a s r).qu (als S a s r).qd (nI (als S a s r).n) (nn (aK K a (s + 1))) (nn (aF F a (s + 1))) (nn (aB B a (s + 1)))) : wX2_alloc post tr S.nw S.qu S.qd (nI S.n) (nn K) (nn F) (nn B) x y := by
  unfold wX2_alloc
  refine e_isShape (fun g => ⟨fun _ => ?_, fun z => absurd z (by decide)⟩) (fun g => ⟨fun z => absurd rfl z, fun _ => h3 g⟩)
  obtain ⟨s, r, s1, s2, s3, ex, ey⟩ := shp_N g
  have h1' := h1 s r g ex ey s1 s2 s3
  have h0' := fun a => h0 s r a g ex ey s1 s2 s3
  subst ex ey
  refine e_placeFor hI (by omega) (fun q hq => ?_)
  rcases PL_HD hI (by omega) hq with e | ⟨a, e, ha, hl, hH⟩
  · subst e
    exact ⟨fun z => absurd rfl z, fun _ => h1' hq⟩
  · subst e
    refine ⟨fun _ => ?_, fun z => absurd z (nI_m1 _ (by omega))⟩
    have hf := h0' a hq ha hl hH
    have hin := al_in hI ha (by omega) hH
    refine e_add hI ha (by omega) hH (e_headOf ha (by omega) (by omega) (e_write hQ ha ?_))
    have st : ∀ d i : Nat, i + d = s → wX2_alloc_62 post (d + 1) (nI s) (nI a) (nI i) tr ((S.wr a (hdv a s r)).zs a i).nw ((S.wr a (hdv a s r)).zs a i).qu ((S.wr a (hdv a s r)).zs a i).qd (nI ((S.wr a (hdv a s r)).zs a i).n) (nn (aK K a (s + 1))) (nn (aF F a (s + 1))) (nn (aB B a (s + 1))) := by
      intro d
      induction d with
      | zero =>
        intro i hi
        have e : i = s := by omega
        subst e
        unfold wX2_alloc_62
        exact pk_le i i (fun _ => hf) (fun z => absurd z (by omega)) rfl rfl (by omega) (by omega)
      | succ d ih =>
        intro i hi
        unfold wX2_alloc_62
        refine pk_le s i (fun z => absurd z (by omega)) (fun _ => e_wordOf ?_) rfl rfl (by omega) (by omega)
        refine e_write (WS.ok_zs (WS.ok_wr hQ ha _) i (by omega)) (by omega) ?_
        intro z hz
        rw [hz, nI_1]
        exact ih (i + 1) (by omega)
    exact ⟨_, st s 0 (by omega)⟩
theorem mo_alloc {post : Int32 → (Nat → Int32) → (Nat → Int32) → (Nat → Int32) → (Nat → Int32) → Int32 → Int32 → Int32 → (Nat → Int32) → (Nat → Int32) → (Nat → Int32) → (Nat → Int32) → (Nat → Int32) → Prop} {mt mth x y : Int32} {mkind msort mfirst mblk mfree : Nat → Int32} {S : WS} (hI : PI K F B) (hS : SI K F B S.nw) (hQ : S.ok kp) (h3 : ¬ shp x y → ∀ a b c d e, post (-1) S.nw (bz (LV K F B)) S.qd S.qu (nI S.n) 3 0 a b c d e) (h1 : ∀ s r, shp x y → x = nI s → y = nI r → 1 ≤ s → s ≤ 2047 → r ≤ s → PL K F B (s + 1) (-1) → ∀ a b c d e, post (-1) S.nw (bz (LV K F B)) S.qd S.qu (nI S.n) 1 0 a b c d e) (h0 : ∀ s r a, shp x y → x = nI s → y = nI r → 1 ≤ s → s ≤ 2047 → r ≤ s → PL K F B (s + 1) (nI a) → a < 4096 → LV K F B a = false → HD K F a (s + 1) → ∀ ka kb kc kd ke, post (nI a) (als S a s r).nw (bz (LV (aK K a (s + 1)) (aF F a (s + 1)) (aB B a (s + 1)))) (als S a s r).qd (als S a s r).qu (nI (als S a s r).n) 0 0 ka kb kc kd ke) : wX3_alloc post S.nw (bz (LV K F B)) S.qd S.qu (nI S.n) mt mth mkind msort mfirst mblk mfree x y := by
  unfold wX3_alloc
  refine e_is (fun q1 q2 => ⟨fun z => absurd z (by decide), fun _ => e_is (fun q3 q4 => ⟨fun _ => ?_, fun z => absurd z (by decide)⟩) (fun q => ⟨fun z => absurd rfl z, fun _ => h3 (fun g => ?_) _ _ _ _ _⟩)⟩) (fun q => ⟨fun _ => h3 (fun g => ?_) _ _ _ _ _, fun z => absurd rfl z⟩)
  · have g : shp x y := ⟨q1, q2, q3, q4⟩
    obtain ⟨s, r, s1, s2, s3, ex, ey⟩ := shp_N g
    have h1' := h1 s r g ex ey s1 s2 s3
    have h0' := fun a => h0 s r a g ex ey s1 s2 s3
    subst ex ey
    rw [nI_1]
    refine e_mplaceFor hI hS (by omega) (fun q hq ka kb kc kd ke => ?_)
    rcases PL_HD hI (by omega) hq with e | ⟨a, e, ha, hl, hH⟩
    · subst e
      exact ⟨fun z => absurd rfl z, fun _ => h1' hq _ _ _ _ _⟩
    · subst e
      refine ⟨fun _ => ⟨pk_in a 4096 ha, ?_⟩, fun z => absurd z (nI_m1 _ (by omega))⟩
      have hf := h0' a hq ha hl hH ka kb kc kd ke
      have hin := al_in hI ha (by omega) hH
      rw [nI_clamp (by omega), nar1, bz_add hI ha (by omega) hH]
      refine e_mheadOf ha (by omega) (by omega) (e_mwrite hQ ha ?_)
      have st : ∀ d i : Nat, i + d = s → wX3_alloc_74 post (d + 1) (nI s) (nI a) (nI i) ((S.wr a (hdv a s r)).zs a i).nw (bz (LV (aK K a (s + 1)) (aF F a (s + 1)) (aB B a (s + 1)))) ((S.wr a (hdv a s r)).zs a i).qd ((S.wr a (hdv a s r)).zs a i).qu (nI ((S.wr a (hdv a s r)).zs a i).n) mt 0 ka kb kc kd ke := by
        intro d
        induction d with
        | zero =>
          intro i hi
          have e : i = s := by omega
          subst e
          unfold wX3_alloc_74
          exact pk_le i i (fun _ => hf) (fun z => absurd z (by omega)) rfl rfl (by omega) (by omega)
        | succ d ih =>
          intro i hi
          unfold wX3_alloc_74
          refine pk_le s i (fun z => absurd z (by omega)) (fun _ => ?_) rfl rfl (by omega) (by omega)
          rw [show nI a + 1 = nI (a + 1) from nI_1 .., nI_add (a + 1) i]
          refine e_mwrite (WS.ok_zs (WS.ok_wr hQ ha _) i (by omega)) (by omega) ?_
          intro z hz
          rw [hz, nI_1]
          exact ih (i + 1) (by omega)
      exact ⟨_, st s 0 (by omega)⟩
  · rcases q with q | q
    · exact g.2.2.1 q
    · exact g.2.2.2 q
  · rcases q with q | q
    · exact g.1 q
    · exact g.2.1 q
end OF
