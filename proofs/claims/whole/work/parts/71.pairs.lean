/-! PAIRS: what the class answers, the model answers, and both go on alike -/
section OP
variable {K F B : Nat → Nat} {kp : Nat → Int32} {W : WS}
theorem p_alloc {mid : Int32 → Int32 → (Nat → Int32) → (Nat → Int32) → (Nat → Int32) → Int32 → (Nat → Int32) → (Nat → Int32) → (Nat → Int32) → Prop} {tr mt mth x y : Int32} {mkind msort mfirst mblk mfree : Nat → Int32} (hI : PI K F B) (hS : SI K F B W.nw) (hQ : W.ok kp) (h : ∀ (r t : Int32) (K' F' B' : Nat → Nat) (W' : WS), PI K' F' B' → SI K' F' B' W'.nw → W'.ok kp → (∀ post : Int32 → (Nat → Int32) → (Nat → Int32) → (Nat → Int32) → (Nat → Int32) → Int32 → Int32 → Int32 → (Nat → Int32) → (Nat → Int32) → (Nat → Int32) → (Nat → Int32) → (Nat → Int32) → Prop, (∀ a b c d e, post r W'.nw (bz (LV K' F' B')) W'.qd W'.qu (nI W'.n) t 0 a b c d e) → wX3_alloc post W.nw (bz (LV K F B)) W.qd W.qu (nI W.n) mt mth mkind msort mfirst mblk mfree x y) → mid r t W'.nw W'.qu W'.qd (nI W'.n) (nn K') (nn F') (nn B')) : wX2_alloc mid tr W.nw W.qu W.qd (nI W.n) (nn K) (nn F) (nn B) x y := by
  refine cl_alloc hI hQ (fun g => ?_) (fun s r g ex ey s1 s2 s3 pl => ?_) (fun s r a g ex ey s1 s2 s3 pl ha hl hH => ?_)
  · exact h (-1) 3 K F B W hI hS hQ (fun post hp => mo_alloc hI hS hQ (fun _ => hp) (fun s r g' => absurd g' g) (fun s r a g' => absurd g' g))
  · refine h (-1) 1 K F B W hI hS hQ (fun post hp => mo_alloc hI hS hQ (fun g' => absurd g g') (fun s' r' _ _ _ _ _ _ _ => hp) (fun s' r' a' _ ex' ey' t1 t2 t3 pl' ha' _ _ => ?_))
    have e := (nI_eq (by omega) (by omega)).mp (ex.symm.trans ex')
    subst e
    exact absurd (PL_one pl' pl) (nI_m1 _ (by omega))
  · have hin := al_in hI ha (by omega) hH
    refine h (nI a) 0 _ _ _ (als W a s r) (PI_add hI ha (by omega) hH).1 (als_SI hI hS ha s1 (by omega) s3 hl hH) (als_ok hQ hin) (fun post hp => mo_alloc hI hS hQ (fun g' => absurd g g') (fun s' r' _ ex' ey' t1 t2 t3 pl' => ?_) (fun s' r' a' _ ex' ey' t1 t2 t3 pl' ha' _ _ => ?_))
    · have e := (nI_eq (by omega) (by omega)).mp (ex.symm.trans ex')
      subst e
      exact absurd (PL_one pl pl') (nI_m1 _ (by omega))
    · have e := (nI_eq (by omega) (by omega)).mp (ex.symm.trans ex')
      subst e
      have e2 := (nI_eq (by omega) (by omega)).mp (ey.symm.trans ey')
      subst e2
      have e3 := (nI_eq (by omega) (by omega)).mp (PL_one pl pl')
      subst e3
      exact hp
theorem p_free {mid : Int32 → Int32 → (Nat → Int32) → (Nat → Int32) → (Nat → Int32) → (Nat → Int32) → Int32 → (Nat → Int32) → (Nat → Int32) → (Nat → Int32) → Prop} {tr mt mth x : Int32} {ro : Nat → Int32} (hI : PI K F B) (hS : SI K F B W.nw) (hQ : W.ok kp) (h : ∀ (r t : Int32) (K' F' B' : Nat → Nat) (W' : WS) (ro' : Nat → Int32), PI K' F' B' → SI K' F' B' W'.nw → W'.ok kp → (∀ post : Int32 → (Nat → Int32) → (Nat → Int32) → (Nat → Int32) → (Nat → Int32) → Int32 → Int32 → Int32 → Prop, post r W'.nw (bz (LV K' F' B')) W'.qd W'.qu (nI W'.n) t 0 → wX3_free post W.nw (bz (LV K F B)) W.qd W.qu (nI W.n) mt mth x) → mid r t ro' W'.nw W'.qu W'.qd (nI W'.n) (nn K') (nn F') (nn B')) : wX2_free mid tr ro W.nw W.qu W.qd (nI W.n) (nn K) (nn F) (nn B) x := by
  refine cl_free hI hS hQ (fun g => ?_) (fun g g0 ro' => ?_) (fun a e l g0 ro' => ?_)
  · exact h (-1) 2 K F B W ro hI hS hQ (fun post hp => mo_free hI hS hQ (fun _ => hp) (fun g' => by rw [g] at g'; cases g') (fun a e l => by
      rw [e, LX_N (by have := (LV_ge hI l).2; omega), l] at g; cases g))
  · exact h (-1) 4 K F B W ro' hI hS hQ (fun post hp => mo_free hI hS hQ (fun g' => by rw [g] at g'; cases g') (fun _ _ => hp) (fun a e l g' => absurd g' (by omega)))
  · have ha := (LV_ge hI l).2
    have hla : LV (rK K F B a) (rF K F B a) (rB K F B a) a = false := by
      rw [Bool.eq_false_iff]
      exact fun z => ((LV_rem hI l).mp z).2 rfl
    refine h (nI (szw (W.nw a) + 1)) 0 _ _ _ (W.wr a 0) ro' (PI_rem hI l).1 ((SI_rem hI hS l).upd hla 0) (WS.ok_wr hQ ha 0) (fun post hp => mo_free hI hS hQ (fun g' => ?_) (fun _ g' => absurd g' (by omega)) (fun a' e' l' _ => ?_))
    · rw [e, LX_N (by omega), l] at g'; cases g'
    · have := (nI_eq (by omega) (by have := (LV_ge hI l').2; omega)).mp (e.symm.trans e')
      subst this
      exact hp
theorem p_put {mid : Int32 → Int32 → (Nat → Int32) → (Nat → Int32) → (Nat → Int32) → Int32 → Prop} {tr mt mth x y v : Int32} (hI : PI K F B) (hS : SI K F B W.nw) (hQ : W.ok kp) (h : ∀ (r t : Int32) (W' : WS), SI K F B W'.nw → W'.ok kp → (∀ post : Int32 → (Nat → Int32) → (Nat → Int32) → (Nat → Int32) → Int32 → Int32 → Int32 → Prop, post r W'.nw W'.qd W'.qu (nI W'.n) t 0 → wX3_put post W.nw (bz (LV K F B)) W.qd W.qu (nI W.n) mt mth x y v) → mid r t W'.nw W'.qu W'.qd (nI W'.n)) : wX2_put mid tr W.nw W.qu W.qd (nI W.n) (nn K) (nn F) (nn B) x y v := by
  by_cases g : PU K F B W.nw x y
  · obtain ⟨a, i, rfl, rfl, l, h1, h2⟩ := g
    have hin := hS.in hI l
    have hn := hS.nohead hI l (i := 1 + i) (by omega) (by omega)
    rw [← Nat.add_assoc] at hn
    exact cl_put_t hI hS hQ l h1 h2 (h 1 0 (W.wr (a + 1 + i) v) (hS.upd hn v) (WS.ok_wr hQ (by omega) v) (fun post hp => mo_put_t hI hS hQ l h1 h2 hp))
  · exact cl_put_f hI g (h 0 2 W hS hQ (fun post hp => mo_put_f hI hS g hp))
theorem p_refer {mid : Int32 → Int32 → (Nat → Int32) → (Nat → Int32) → (Nat → Int32) → Int32 → Prop} {tr mt mth x y v : Int32} (hI : PI K F B) (hS : SI K F B W.nw) (hQ : W.ok kp) (h : ∀ (r t : Int32) (W' : WS), SI K F B W'.nw → W'.ok kp → (∀ post : Int32 → (Nat → Int32) → (Nat → Int32) → (Nat → Int32) → Int32 → Int32 → Int32 → Prop, post r W'.nw W'.qd W'.qu (nI W'.n) t 0 → wX3_refer post W.nw (bz (LV K F B)) W.qd W.qu (nI W.n) mt mth x y v) → mid r t W'.nw W'.qu W'.qd (nI W'.n)) : wX2_refer mid tr W.nw W.qu W.qd (nI W.n) (nn K) (nn F) (nn B) x y v := by
  by_cases g : RE K F B W.nw x y v
  · obtain ⟨a, i, rfl, rfl, l, h1, ht⟩ := g
    have hin := hS.in hI l
    have hrs := (hS a l).2.1
    have hn := hS.nohead hI l (i := 1 + i) (by omega) (by omega)
    rw [← Nat.add_assoc] at hn
    exact cl_refer_t hI hS hQ l h1 ht (h 1 0 (W.wr (a + 1 + i) v) (hS.upd hn v) (WS.ok_wr hQ (by omega) v) (fun post hp => mo_refer_t hI hS hQ l h1 ht hp))
  · exact cl_refer_f hI g (h 0 2 W hS hQ (fun post hp => mo_refer_f hI g hp))
theorem p_root {mid : Int32 → Int32 → (Nat → Int32) → (Nat → Int32) → (Nat → Int32) → Int32 → Prop} {tr mt mth x v : Int32} (hI : PI K F B) (hS : SI K F B W.nw) (hQ : W.ok kp) (h : ∀ (r t : Int32) (W' : WS), SI K F B W'.nw → W'.ok kp → (∀ post : Int32 → (Nat → Int32) → (Nat → Int32) → (Nat → Int32) → Int32 → Int32 → Int32 → Prop, post r W'.nw W'.qd W'.qu (nI W'.n) t 0 → wX3_root post W.nw (bz (LV K F B)) W.qd W.qu (nI W.n) mt mth x v) → mid r t W'.nw W'.qu W'.qd (nI W'.n)) : wX2_root mid tr W.nw W.qu W.qd (nI W.n) (nn K) (nn F) (nn B) x v := by
  by_cases g : RT K F B x v
  · obtain ⟨i, hi, rfl, ht⟩ := g
    exact cl_root_t hI hQ hi ht (h 1 0 (W.wr (1 + i) v) (hS.upd (LV_16 hI (by omega)) v) (WS.ok_wr hQ (by omega) v) (fun post hp => mo_root_t hI hQ hi ht hp))
  · exact cl_root_f hI g (h 0 2 W hS hQ (fun post hp => mo_root_f hI g hp))
theorem p_scribble {mid : Int32 → Int32 → (Nat → Int32) → (Nat → Int32) → (Nat → Int32) → Int32 → Prop} {tr mt mth x v : Int32} (hI : PI K F B) (hS : SI K F B W.nw) (hQ : W.ok kp) (h : ∀ (r t : Int32) (W' : WS), SI K F B W'.nw → W'.ok kp → (∀ post : Int32 → (Nat → Int32) → (Nat → Int32) → (Nat → Int32) → Int32 → Int32 → Int32 → Prop, post r W'.nw W'.qd W'.qu (nI W'.n) t 0 → wX3_scribble post W.nw (bz (LV K F B)) W.qd W.qu (nI W.n) mt mth x v) → mid r t W'.nw W'.qu W'.qd (nI W'.n)) : wX2_scribble mid tr W.nw W.qu W.qd (nI W.n) (nn K) (nn F) (nn B) x v := by
  by_cases g : WI x
  · obtain ⟨w, h1, h2, rfl⟩ := g
    by_cases gb : IB K F B W.nw w
    · exact cl_scr_2 hI hS h1 h2 gb (h 0 2 W hS hQ (fun post hp => mo_scr hI h1 h2 (fun _ => hp) (fun z => absurd gb z)))
    · have hl : LV K F B w = false := by
        rw [Bool.eq_false_iff]
        exact fun l => gb ⟨w, l, Nat.le_refl w, by omega⟩
      exact cl_scr_0 hI hS hQ h1 h2 gb (h 1 0 (W.wr w v) (hS.upd hl v) (WS.ok_wr hQ h2 v) (fun post hp => mo_scr hI h1 h2 (fun z => absurd z gb) (fun _ => e_mwrite hQ h2 hp)))
  · exact cl_scr_3 g (h 0 3 W hS hQ (fun post hp => mo_scr_3 g hp))
theorem p_get {mid : Int32 → Prop} {mth x y : Int32} (hI : PI K F B) (hS : SI K F B W.nw) (h : ∀ r : Int32, (∀ post : Int32 → Int32 → Prop, post r 0 → wX3_get post W.nw (bz (LV K F B)) mth x y) → mid r) : wX2_get mid W.nw (nn K) (nn F) (nn B) x y := by
  refine cl_get hI hS (fun a i e1 e2 l g => h _ (fun post hp => mo_get hI hS (fun a' i' e1' e2' l' g' => ?_) (fun g' => absurd ⟨a, i, e1, e2, l, g⟩ g'))) (fun g => h _ (fun post hp => mo_get hI hS (fun a' i' e1' e2' l' g' => absurd ⟨a', i', e1', e2', l', g'⟩ g) (fun _ => hp)))
  have z1 := (nI_eq (by have := (LV_ge hI l).2; omega) (by have := (LV_ge hI l').2; omega)).mp (e1.symm.trans e1')
  have z2 := (nI_eq (by have := szw_lt (W.nw a); omega) (by have := szw_lt (W.nw a'); omega)).mp (e2.symm.trans e2')
  subst z1 z2
  exact hp
theorem p_rootOf {mid : Int32 → Prop} {mth x : Int32} (h : ∀ r : Int32, (∀ post : Int32 → Int32 → Prop, post r 0 → wX3_rootOf post W.nw mth x) → mid r) : wX2_rootOf mid W.nw x := by
  refine cl_rootOf (fun i hi e => h _ (fun post hp => mo_rootOf (fun i' hi' e' => ?_) (fun g' => absurd ⟨i, hi, e⟩ g'))) (fun g => h _ (fun post hp => mo_rootOf (fun i' hi' e' => absurd ⟨i', hi', e'⟩ g) (fun _ => hp)))
  have z := (nI_eq (by omega) (by omega)).mp (e.symm.trans e')
  subst z
  exact hp
theorem p_word {mid : Int32 → Prop} {mth x z : Int32} (h : ∀ r : Int32, (∀ post : Int32 → Int32 → Prop, post r 0 → wX3_word post W.nw kp mth x z) → mid r) : wX2_word mid W.nw kp x z := by
  refine cl_word (fun i hi e => h _ (fun post hp => mo_word (fun i' hi' e' => ?_) (fun g' => absurd ⟨i, hi, e⟩ g'))) (fun g => h _ (fun post hp => mo_word (fun i' hi' e' => absurd ⟨i', hi', e'⟩ g) (fun _ => hp)))
  have z := (nI_eq (by omega) (by omega)).mp (e.symm.trans e')
  subst z
  exact hp
theorem p_waits {mid : Int32 → Prop} {mth x : Int32} (hQ : W.ok kp) (h : ∀ r : Int32, (∀ post : Int32 → Int32 → Prop, post r 0 → wX3_waits post W.qu (nI W.n) mth x) → mid r) : wX2_waits mid W.qu (nI W.n) x := by
  have hn : W.n ≤ 512 := hQ.1
  refine cl_waits hn (fun i hi e => h _ (fun post hp => mo_waits hn (fun i' hi' e' => ?_) (fun g' => absurd ⟨i, hi, e⟩ g'))) (fun g => h _ (fun post hp => mo_waits hn (fun i' hi' e' => absurd ⟨i', hi', e'⟩ g) (fun _ => hp)))
  have z := (nI_eq (by omega) (by omega)).mp (e.symm.trans e')
  subst z
  exact hp
theorem p_live {mid : Int32 → (Nat → Int32) → Prop} {ro : Nat → Int32} {mth x : Int32} (hI : PI K F B) (h : ∀ (r : Int32) (ro' : Nat → Int32), (∀ post : Int32 → Int32 → Prop, post r 0 → wX3_live post (bz (LV K F B)) mth x) → mid r ro') : wX2_live mid ro (nn K) (nn F) (nn B) x := by
  refine cl_live hI (fun a l e ro' => h _ ro' (fun post hp => mo_live hI (fun a' l' e' => ?_) (fun g' => absurd ⟨a, l, e⟩ g'))) (fun g ro' => h _ ro' (fun post hp => mo_live hI (fun a' l' e' => absurd ⟨a', l', e'⟩ g) (fun _ => hp)))
  have z := (nI_eq (by have := cnt_leN (LV K F B) a; have := (LV_ge hI l).2; omega) (by have := cnt_leN (LV K F B) a'; have := (LV_ge hI l').2; omega)).mp (e.symm.trans e')
  have := cnt_inj l l' z
  subst this
  exact hp
theorem p_page {mid : Int32 → Prop} {mth x y : Int32} {mkind msort mfirst mblk mfree : Nat → Int32} (hI : PI K F B) (hS : SI K F B W.nw) (h : ∀ r : Int32, (∀ post : Int32 → Int32 → (Nat → Int32) → (Nat → Int32) → (Nat → Int32) → (Nat → Int32) → (Nat → Int32) → Prop, (∀ a b c d e, post r 0 a b c d e) → wX3_page post W.nw (bz (LV K F B)) mth mkind msort mfirst mblk mfree x y) → mid r) : wX2_page mid (nn K) (nn F) (nn B) x y := by
  have inj : ∀ {p p' : Nat}, p < 256 → p' < 256 → x = nI p → x = nI p' → p = p' := fun h1 h2 e e' => (nI_eq (by omega) (by omega)).mp (e.symm.trans e')
  refine cl_page hI (fun p hp e y0 => h _ (fun post hp' => mo_page hI hS (fun p' hq e' z0 => ?_) (fun p' hq e' z0 => ?_) (fun p' hq e' z0 => ?_) (fun p' hq e' z0 => ?_) (fun z => ?_))) (fun p hp e y0 => h _ (fun post hp' => mo_page hI hS (fun p' hq e' z0 => ?_) (fun p' hq e' z0 => ?_) (fun p' hq e' z0 => ?_) (fun p' hq e' z0 => ?_) (fun z => ?_))) (fun p hp e y0 => h _ (fun post hp' => mo_page hI hS (fun p' hq e' z0 => ?_) (fun p' hq e' z0 => ?_) (fun p' hq e' z0 => ?_) (fun p' hq e' z0 => ?_) (fun z => ?_))) (fun p hp e y0 => h _ (fun post hp' => mo_page hI hS (fun p' hq e' z0 => ?_) (fun p' hq e' z0 => ?_) (fun p' hq e' z0 => ?_) (fun p' hq e' z0 => ?_) (fun z => ?_))) (fun g => h _ (fun post hp' => mo_page hI hS (fun p' hq e' z0 => ?_) (fun p' hq e' z0 => ?_) (fun p' hq e' z0 => ?_) (fun p' hq e' z0 => ?_) (fun z => hp')))
  all_goals first
    | (have := inj hp hq e e'; subst this; first | exact hp' | (exfalso; rw [y0] at z0; exact absurd z0 (by decide)))
    | (exfalso; rcases z with z | z | z; first | exact z ⟨p, hp, e⟩; (rw [y0] at z; exact absurd z (by decide)); (rw [y0] at z; exact absurd z (by decide)))
    | (exfalso; rcases g with g | g | g; first | exact g ⟨p', hq, e'⟩; (rw [z0] at g; exact absurd g (by decide)); (rw [z0] at g; exact absurd g (by decide)))
theorem p_extents {mid : Int32 → Prop} {mth x : Int32} {mkind msort mfirst mblk mfree : Nat → Int32} (hI : PI K F B) (hS : SI K F B W.nw) (h : ∀ r : Int32, (∀ post : Int32 → Int32 → (Nat → Int32) → (Nat → Int32) → (Nat → Int32) → (Nat → Int32) → (Nat → Int32) → Prop, (∀ a b c d e, post r 0 a b c d e) → wX3_extents post W.nw (bz (LV K F B)) mth mkind msort mfirst mblk mfree x) → mid r) : wX2_extents mid (nn K) x := by
  refine cl_extents hI (fun q hq e => h _ (fun post hp => mo_extents hI hS (fun q' hq' e' => ?_) (fun g' => absurd ⟨q, hq, e⟩ g'))) (fun g => h _ (fun post hp => mo_extents hI hS (fun q' hq' e' => absurd ⟨q', hq', e'⟩ g) (fun _ => hp)))
  have z := (nI_eq (by omega) (by omega)).mp (e.symm.trans e')
  subst z
  exact hp
theorem p_next {mid : Int32 → Prop} {mth x : Int32} {mkind msort mfirst mblk mfree : Nat → Int32} (hI : PI K F B) (hS : SI K F B W.nw) (h : ∀ r : Int32, (∀ post : Int32 → Int32 → (Nat → Int32) → (Nat → Int32) → (Nat → Int32) → (Nat → Int32) → (Nat → Int32) → Prop, (∀ a b c d e, post r 0 a b c d e) → wX3_next post W.nw (bz (LV K F B)) mth mkind msort mfirst mblk mfree x) → mid r) : wX2_next mid (nn K) x := by
  refine cl_next hI (fun q hq e r hr => h _ (fun post hp => mo_next hI hS (fun q' hq' e' r' hr' => ?_) (fun g' => absurd ⟨q, hq, e⟩ g'))) (fun g => h _ (fun post hp => mo_next hI hS (fun q' hq' e' => absurd ⟨q', hq', e'⟩ g) (fun _ => hp)))
  have z := (nI_eq (by omega) (by omega)).mp (e.symm.trans e')
  subst z
  rw [← XF_one hr hr']
  exact hp
theorem p_head {mid : Int32 → Prop} {mth x y z : Int32} (h : ∀ r : Int32, (∀ post : Int32 → Int32 → Prop, post r 0 → wX3_head post mth x y z) → mid r) : wX2_head mid x y z := by
  refine cl_head (fun a s r a1 ha s1 hs hr e1 e2 e3 => h _ (fun post hp => mo_head (fun a' s' r' _ ha' _ hs' hr' e1' e2' e3' => ?_) (fun g' => absurd ⟨a, s, r, a1, ha, s1, hs, hr, e1, e2, e3⟩ g'))) (fun g => h _ (fun post hp => mo_head (fun a' s' r' a1' ha' s1' hs' hr' e1' e2' e3' => absurd ⟨a', s', r', a1', ha', s1', hs', hr', e1', e2', e3'⟩ g) (fun _ => hp)))
  have z1 := (nI_eq (by omega) (by omega)).mp (e1.symm.trans e1')
  have z2 := (nI_eq (by omega) (by omega)).mp (e2.symm.trans e2')
  have z3 := (nI_eq (by omega) (by omega)).mp (e3.symm.trans e3')
  subst z1 z2 z3
  exact hp
theorem p_crash {mid : Int32 → Int32 → Int32 → Int32 → (Nat → Int32) → (Nat → Int32) → (Nat → Int32) → (Nat → Int32) → (Nat → Int32) → Int32 → (Nat → Int32) → (Nat → Int32) → (Nat → Int32) → Prop} {fd cd cr mth mfm x : Int32} {ro mkind msort mfirst mblk mfree mfnd : Nat → Int32} (hI : PI K F B) (hQ : W.ok kp) (h : ∀ (r c : Int32) (K' F' B' : Nat → Nat) (W' : WS) (M ro' : Nat → Int32), PI K' F' B' → SI K' F' B' W'.nw → W'.ok M → (∀ post : Int32 → (Nat → Int32) → (Nat → Int32) → (Nat → Int32) → (Nat → Int32) → (Nat → Int32) → Int32 → Int32 → Int32 → Int32 → (Nat → Int32) → (Nat → Int32) → (Nat → Int32) → (Nat → Int32) → (Nat → Int32) → (Nat → Int32) → Int32 → Prop, (∀ a b c' d e mf, post r W'.nw M (bz (LV K' F' B')) W'.qd W'.qu (nI W'.n) c (cr + 1) 0 a b c' d e mf r) → wX3_crash post W.nw kp (bz (LV K F B)) W.qd W.qu (nI W.n) cd cr mth mkind msort mfirst mblk mfree mfnd mfm x) → mid r r c (cr + 1) ro' W'.nw M W'.qu W'.qd (nI W'.n) (nn K') (nn F') (nn B')) : wX2_crash mid fd cd cr ro W.nw kp W.qu W.qd (nI W.n) (nn K) (nn F) (nn B) x := by
  obtain ⟨M, hM⟩ : ∃ M, M = MK W.nw kp W.n W.Lq (fun j => mb x (j % 32)) := ⟨_, rfl⟩
  have hR := RCV_RI hI.f M W.qu W.Lq
  exact cl_crash hI hQ hM (fun ro' => h _ _ _ _ _ (RCV F M W.qu W.Lq).W M ro' hR.pi hR.si hR.ok (fun post hp => mo_crash hI hQ hM hp))
theorem p_collect {mid : Int32 → Int32 → (Nat → Int32) → (Nat → Int32) → (Nat → Int32) → (Nat → Int32) → Int32 → (Nat → Int32) → (Nat → Int32) → (Nat → Int32) → (Nat → Int32) → Prop} {fd mth mfm : Int32} {ro mr mfnd msn : Nat → Int32} (hI : PI K F B) (hS : SI K F B W.nw) (hQ : W.ok kp) (h : ∀ (r fd' : Int32) (K' F' B' : Nat → Nat) (W' : WS) (ro' mr' : Nat → Int32), PI K' F' B' → SI K' F' B' W'.nw → W'.ok kp → (∀ post : Int32 → (Nat → Int32) → (Nat → Int32) → (Nat → Int32) → (Nat → Int32) → Int32 → Int32 → (Nat → Int32) → Int32 → (Nat → Int32) → Prop, (∀ mf fm sn, post r W'.nw (bz (LV K' F' B')) W'.qd W'.qu (nI W'.n) 0 mf fm sn) → wX3_collect post W.nw (bz (LV K F B)) W.qd W.qu (nI W.n) mth mfnd mfm msn) → mid r fd' ro' W'.nw W'.qu W'.qd (nI W'.n) (nn K') (nn F') (nn B') mr') : wX2_collect mid fd ro W.nw W.qu W.qd (nI W.n) (nn K) (nn F) (nn B) mr := by
  have hK := sws_KI (KI_0 (V := (RCH (LV K F B) W.nw).V) hI hS hQ) 4096
  have hK : KI kp K F B (RCH (LV K F B) W.nw).V 4096 (CLT K F B W) := hK
  exact cl_collect hI hS hQ (fun fd' ro' mr' => h _ fd' _ _ _ (CLT K F B W).W ro' mr' hK.1 hK.2.1 hK.2.2.1 (fun post hp => mo_collect hI hS hQ hp))
end OP
