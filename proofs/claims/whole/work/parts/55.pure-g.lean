/-! PURE G: a block comes to a place, a block goes -/
def ext (K : Nat → Nat) (p m : Nat) : Nat → Nat := fun j => if j = p then 2 else if p < j ∧ j < p + m then 3 else K j
def ran (F : Nat → Nat) (p m v : Nat) : Nat → Nat := fun j => if p ≤ j ∧ j < p + m then v else F j
section PG
variable {K F B : Nat → Nat}
theorem e_stepOf' {post : Int32 → Prop} {p : Nat} (hk : ∀ p, K p ≤ 4) (hp : p < 256) (h : post (nI (stp K F p))) : wX0_stepOf post (nn K) (nn F) (nI p) := by
  have hk := hk p
  unfold wX0_stepOf
  refine pk_lt p 0 (fun h => absurd h (by omega)) (fun _ => pk_lt p 256 (fun _ => ⟨pk_in p 256 hp, ?_⟩) (fun h => absurd h (by omega)))
  rw [nI_clamp (by omega)]
  refine pk_ne (K p) 1 (fun h1 => ⟨pk_in p 256 hp, ?_⟩) (fun h1 => ⟨pk_in p 256 hp, ?_⟩) rfl rfl (by omega) (by omega)
  · refine pk_ne (K p) 2 (fun h2 => ?_) (fun h2 => ?_) rfl rfl (by omega) (by omega)
    · rw [stp0 h1 h2] at h; exact h
    · rw [stp2 h2] at h; exact h
  · unfold stp at h; rw [if_pos h1] at h; exact h
theorem e_slotAt' {post : Int32 → Prop} {a : Nat} (hk : ∀ p, K p ≤ 4) (hst : stp K F (a / 16) ≤ 16) (ha : a < 4096) (h : post (slv (stp K F (a / 16)) (a % 16))) : wX0_slotAt post (nn K) (nn F) (nI a) := by
  unfold wX0_slotAt
  refine e_pageOf ha (e_stepOf' hk (by omega) ?_)
  show wX0_slotBy _ _ (nI a - nI a / nI 16 * nI 16)
  rw [pk_rem (by omega) (by omega) (by omega)]
  exact e_slotBy hst (by omega) h
theorem e_lay {post : (Nat → Int32) → (Nat → Int32) → Prop} {p v f : Nat} (hp : p < 256) (h : post (nn (up K p v)) (nn (up F p f))) : wX0_lay post (nn K) (nn F) (nI p) (nI v) (nI f) := by
  unfold wX0_lay
  refine e_isPage_t hp ⟨fun g => absurd g (by decide), fun _ => ⟨pk_in p 256 hp, pk_in p 256 hp, ?_⟩⟩
  rw [nI_clamp (by omega), nn_upd, nn_upd]; exact h
theorem e_layExtent {post : (Nat → Int32) → (Nat → Int32) → Prop} {p o : Nat} (ho : o ≤ 8) (hp : p + 2 ^ o ≤ 256) (h : post (nn (ext K p (2 ^ o))) (nn (ran F p (2 ^ o) o))) : wX0_layExtent post (nn K) (nn F) (nI p) (nI o) := by
  have h2 := p2le ho
  have st : ∀ (d i : Nat) (K' F' : Nat → Nat), i + d = 2 ^ o → 1 ≤ i → (∀ j, K' j = if j = p then 2 else if p < j ∧ j < p + i then 3 else K j) → (∀ j, F' j = if p ≤ j ∧ j < p + i then o else F j) → wX0_layExtent_22 post (d + 1) (nI p) (nI o) (nI (2 ^ o)) (nI i) (nn K') (nn F') := by
    intro d
    induction d with
    | zero =>
      intro i K' F' hi h1 hK hF
      unfold wX0_layExtent_22
      refine pk_le (2 ^ o) i (fun _ => ?_) (fun g => absurd g (by omega)) rfl rfl (by omega) (by omega)
      have e : i = 2 ^ o := by omega
      subst e
      rw [show K' = ext K p (2 ^ o) from funext hK, show F' = ran F p (2 ^ o) o from funext hF]; exact h
    | succ d ih =>
      intro i K' F' hi h1 hK hF
      unfold wX0_layExtent_22
      refine pk_le (2 ^ o) i (fun g => absurd g (by omega)) (fun _ => ?_) rfl rfl (by omega) (by omega)
      rw [nI_add]
      refine e_lay (v := 3) (by omega) ?_
      intro y hy
      rw [hy, nI_1]
      refine ih (i + 1) _ _ (by omega) (by omega) (fun j => ?_) (fun j => ?_)
      · by_cases e : j = p + i
        · rw [e, up_s, if_neg (by omega), if_pos (by omega)]
        · rw [up_n _ e, hK j]
          by_cases a : j = p
          · rw [if_pos a, if_pos a]
          · rw [if_neg a, if_neg a]
            by_cases b : p < j ∧ j < p + i
            · rw [if_pos b, if_pos (by omega)]
            · rw [if_neg b, if_neg (by omega)]
      · by_cases e : j = p + i
        · rw [e, up_s, if_pos (by omega)]
        · rw [up_n _ e, hF j]
          by_cases b : p ≤ j ∧ j < p + i
          · rw [if_pos b, if_pos (by omega)]
          · rw [if_neg b, if_neg (by omega)]
  unfold wX0_layExtent
  refine e_isOrder_t ho ⟨fun _ => e_lay (v := 2) (by omega) ?_, fun g => absurd g (by decide)⟩
  intro x hx
  rw [hx, shl1 o (by omega)]
  refine ⟨_, st (2 ^ o - 1) 1 _ _ (by omega) (by omega) (fun j => ?_) (fun j => ?_)⟩
  · by_cases e : j = p
    · rw [e, up_s, if_pos rfl]
    · rw [up_n _ e, if_neg e, if_neg (by omega)]
  · by_cases e : j = p
    · rw [e, up_s, if_pos (by omega)]
    · rw [up_n _ e, if_neg (by omega)]
/-- a block of n words has its place at a -/
def HD (K F : Nat → Nat) (a n : Nat) : Prop := (n ≤ 8 ∧ a % 16 % cls n = 0 ∧ a % 16 / cls n < 16 / cls n ∧ (K (a / 16) = 0 ∨ (K (a / 16) = 1 ∧ F (a / 16) = cls n))) ∨ (8 < n ∧ a % 16 = 0 ∧ a / 16 % 2 ^ ord n = 0 ∧ rn K (a / 16) (ord n) = true)
def aK (K : Nat → Nat) (a n : Nat) : Nat → Nat := if n ≤ 8 then up K (a / 16) 1 else ext K (a / 16) (2 ^ ord n)
def aF (F : Nat → Nat) (a n : Nat) : Nat → Nat := if n ≤ 8 then up F (a / 16) (cls n) else ran F (a / 16) (2 ^ ord n) (ord n)
def aB (B : Nat → Nat) (a n : Nat) : Nat → Nat := up B (a / 16) (sto (B (a / 16)) (if n ≤ 8 then a % 16 / cls n else 0))
theorem cls_s {n : Nat} (h : n ≤ 8) : cls n = 2 ∨ cls n = 3 ∨ cls n = 4 ∨ cls n = 6 ∨ cls n = 8 := by
  rcases cls_in n with e | e | e | e | e | e
  · exact Or.inl e
  · exact Or.inr (Or.inl e)
  · exact Or.inr (Or.inr (Or.inl e))
  · exact Or.inr (Or.inr (Or.inr (Or.inl e)))
  · exact Or.inr (Or.inr (Or.inr (Or.inr e)))
  · exact absurd (cls_0.mp e) (by omega)
theorem div_c8 : ∀ c, c = 2 ∨ c = 3 ∨ c = 4 ∨ c = 6 ∨ c = 8 → 16 / c ≤ 8 := by
  intro c h
  rcases h with rfl | rfl | rfl | rfl | rfl <;> decide
theorem e_add {post : (Nat → Int32) → (Nat → Int32) → (Nat → Int32) → Prop} {a s : Nat} (hI : PI K F B) (ha : a < 4096) (hs : s < 2048) (hH : HD K F a (s + 1)) (h : post (nn (aK K a (s + 1))) (nn (aF F a (s + 1))) (nn (aB B a (s + 1)))) : wX0_add post (nn K) (nn F) (nn B) (nI a) (nI s) := by
  have hb := hI.b (a / 16)
  unfold wX0_add
  refine e_pageOf ha (e_classFor (by omega) ?_)
  have hc8 := cls_le (s + 1)
  rcases hH with ⟨h8, h1, h2, h3⟩ | ⟨h8, h1, h2, h3⟩
  · have hc := cls_s h8
    have hd := div_c8 _ hc
    unfold aK aF aB at h
    rw [if_pos h8, if_pos h8, if_pos h8] at h
    refine pk_le (cls (s + 1)) 0 (fun g => absurd g (by omega)) (fun _ => e_lay (v := 1) (by omega) ?_) rfl rfl (by omega) (by omega)
    unfold wX0_add_36
    have est : stp (up K (a / 16) 1) (up F (a / 16) (cls (s + 1))) (a / 16) = cls (s + 1) := by
      unfold stp
      rw [up_s, if_pos rfl, up_s]
    refine e_slotAt' (fun p => ?_) (by rw [est]; omega) ha ?_
    · by_cases e : p = a / 16
      · rw [e, up_s]; omega
      · rw [up_n _ e]; exact hI.k p
    · rw [est, slv_pos (by omega) h1 h2]
      refine e_isPage_t (by omega) ⟨fun g => absurd g (by decide), fun _ => ⟨fun g => absurd g (nI_m1 _ (by omega)), fun _ => ⟨pk_in (a / 16) 256 (by omega), pk_in (a / 16) 256 (by omega), ?_⟩⟩⟩
      rw [nI_clamp (by omega)]
      show post _ _ (upd (nn B) (a / 16) (nI (B (a / 16)) ||| _))
      rw [sto_v _ hb _ (by omega), nn_upd]
      exact h
  · unfold aK aF aB at h
    rw [if_neg (by omega), if_neg (by omega), if_neg (by omega)] at h
    have ho := ord_le (s + 1)
    have h256 := (rn_iff.mp h3).1
    have h2p := p2le (o := ord (s + 1)) (by omega)
    refine pk_le (cls (s + 1)) 0 (fun _ => ?_) (fun g => absurd (cls_0.mpr h8) (by omega)) rfl rfl (by omega) (by omega)
    refine e_orderFor hs (fun _ => e_layExtent (by omega) h256 ?_) (fun g => absurd g (by omega))
    unfold wX0_add_36
    have est : stp (ext K (a / 16) (2 ^ ord (s + 1))) (ran F (a / 16) (2 ^ ord (s + 1)) (ord (s + 1))) (a / 16) = 16 := stp2 (by unfold ext; rw [if_pos rfl])
    refine e_slotAt' (fun p => ?_) (by rw [est]; omega) ha ?_
    · unfold ext
      have := hI.k p
      split
      · omega
      · split <;> omega
    · rw [est, slv_pos (by omega) (by omega) (by omega), show a % 16 / 16 = 0 by omega]
      refine e_isPage_t (by omega) ⟨fun g => absurd g (by decide), fun _ => ⟨fun g => absurd g (nI_m1 _ (by omega)), fun _ => ⟨pk_in (a / 16) 256 (by omega), pk_in (a / 16) 256 (by omega), ?_⟩⟩⟩
      rw [nI_clamp (by omega)]
      show post _ _ (upd (nn B) (a / 16) (nI (B (a / 16)) ||| _))
      rw [sto_v _ hb 0 (by omega), nn_upd]
      exact h
/-- two pages' extents are one or apart -/
theorem PI.uniq (hI : PI K F B) {p q i j : Nat} (hp : K p = 2) (hq : K q = 2) (hi : i < 2 ^ F p) (hj : j < 2 ^ F q) (e : p + i = q + j) : p = q := by
  obtain ⟨p1, p2, p3, p4, p5⟩ := hI.s2 hp
  obtain ⟨q1, q2, q3, q4, q5⟩ := hI.s2 hq
  rcases Nat.eq_zero_or_pos i with i0 | i0
  · rcases Nat.eq_zero_or_pos j with j0 | j0
    · omega
    · have := (q5 j j0 hj).1
      rw [← e, i0, Nat.add_zero, hp] at this
      exact absurd this (by omega)
  · rcases Nat.eq_zero_or_pos j with j0 | j0
    · have := (p5 i i0 hi).1
      rw [e, j0, Nat.add_zero, hq] at this
      exact absurd this (by omega)
    · have a := (p5 i i0 hi).2
      have b := (q5 j j0 hj).2
      rw [e] at a
      have ef : F p = F q := by rw [← a, ← b]
      rw [ef] at p2 hi
      rcases Nat.lt_trichotomy p q with z | z | z
      · exact absurd (mult_gap p2 q2 z (by omega)) (fun q => q)
      · exact z
      · exact absurd (mult_gap q2 p2 z (by omega)) (fun q => q)
theorem PI_add {a n : Nat} (hI : PI K F B) (ha : a < 4096) (hn : n ≤ 2048) (hH : HD K F a n) : PI (aK K a n) (aF F a n) (aB B a n) ∧ ∀ x, LV (aK K a n) (aF F a n) (aB B a n) x = (LV K F B x || decide (x = a)) := by
  have hb := hI.b (a / 16)
  have hp0 : 0 < a / 16 := by
    rcases Nat.eq_zero_or_pos (a / 16) with e | e
    · exfalso
      rcases hH with ⟨-, -, -, h3⟩ | ⟨-, -, -, h3⟩
      · rw [e, hI.k0] at h3; omega
      · have := (rn_iff.mp h3).2 0 (Nat.two_pow_pos _)
        rw [e, Nat.add_zero, hI.k0] at this
        omega
    · exact e
  rcases hH with ⟨h8, h1, h2, h3⟩ | ⟨h8, h1, h2, h3⟩
  · have hc := cls_s h8
    have hd := div_c8 _ hc
    have hc0 : 0 < cls n := by omega
    unfold aK aF aB
    rw [if_pos h8, if_pos h8, if_pos h8]
    generalize hpe : a / 16 = p at *
    generalize hce : cls n = c at *
    have hkp : K p ≠ 2 ∧ K p ≠ 3 ∧ K p ≠ 4 := by omega
    have hBp : B p < 2 ^ (16 / c) := by
      rcases h3 with z | z
      · rw [hI.b0 (by omega) (by omega)]; exact Nat.two_pow_pos _
      · have := (hI.s1 z.1).2.2
        rw [z.2] at this; exact this
    constructor
    · refine ⟨by rw [up_n _ (by omega)]; exact hI.k0, fun q => ?_, fun q => ?_, fun q => ?_, fun q hq => ?_, fun q g1 g2 => ?_, fun q g => ?_, fun q g => ?_, fun q g => ?_, fun q hq => ?_⟩
      · by_cases e : q = p
        · rw [e, up_s]; exact sto_lt _ hb _ (by omega)
        · rw [up_n _ e]; exact hI.b q
      · by_cases e : q = p
        · rw [e, up_s]; omega
        · rw [up_n _ e]; exact hI.f q
      · by_cases e : q = p
        · rw [e, up_s]; omega
        · rw [up_n _ e]; exact hI.k q
      · by_cases e : q = p
        · rw [e, up_s]; omega
        · rw [up_n _ e]; exact hI.n4 hq
      · by_cases e : q = p
        · rw [e, up_s] at g1; exact absurd rfl g1
        · rw [up_n _ e] at g1 g2 ⊢; exact hI.b0 g1 g2
      · by_cases e : q = p
        · rw [e, up_s, up_s]; exact ⟨hc, sto_nz _ hb _ (by omega), sto_in c hc _ hBp _ h2⟩
        · rw [up_n _ e] at g ⊢; rw [up_n _ e]; exact hI.s1 g
      · by_cases e : q = p
        · rw [e, up_s] at g; omega
        · rw [up_n _ e] at g
          rw [up_n _ e, up_n _ e]
          obtain ⟨s1, s2, s3, s4, s5⟩ := hI.s2 g
          refine ⟨s1, s2, s3, s4, fun i i0 i1 => ?_⟩
          have := s5 i i0 i1
          have hne : q + i ≠ p := fun z => by rw [z] at this; omega
          rw [up_n _ hne, up_n _ hne]; exact this
      · by_cases e : q = p
        · rw [e, up_s] at g; omega
        · rw [up_n _ e] at g
          rw [up_n _ e]
          obtain ⟨s1, s2, s3⟩ := hI.s3 g
          have hne : q / 2 ^ F q * 2 ^ F q ≠ p := fun z => by rw [z] at s2; omega
          rw [up_n _ hne, up_n _ hne]; exact ⟨s1, s2, s3⟩
      · rw [up_n _ (by omega)]; exact hI.o hq
    · intro x
      by_cases e : x / 16 = p
      · have est : stp (up K p 1) (up F p c) p = c := by unfold stp; rw [up_s, if_pos rfl, up_s]
        have hx : LV (up K p 1) (up F p c) (up B p (sto (B p) (a % 16 / c))) x = (decide (x < 4096 ∧ 0 < c ∧ x % 16 % c = 0 ∧ x % 16 / c < 16 / c) && bt (sto (B p) (a % 16 / c)) (x % 16 / c)) := by
          unfold LV
          rw [e, est, up_s]
        rw [hx]
        by_cases g : x < 4096 ∧ 0 < c ∧ x % 16 % c = 0 ∧ x % 16 / c < 16 / c
        · rw [decide_eq_true g, Bool.true_and, sto_bt _ hb _ (by omega) _ (by omega)]
          have hxa : decide (x % 16 / c = a % 16 / c) = decide (x = a) := by
            have m1 : x % 16 / c * c = x % 16 := Nat.div_mul_cancel (Nat.dvd_of_mod_eq_zero g.2.2.1)
            have m2 : a % 16 / c * c = a % 16 := Nat.div_mul_cancel (Nat.dvd_of_mod_eq_zero h1)
            by_cases z : x = a
            · rw [z, decide_eq_true rfl, decide_eq_true rfl]
            · rw [decide_eq_false z, decide_eq_false]
              intro q
              rw [q] at m1
              omega
          rw [hxa]
          have hl : LV K F B x = bt (B p) (x % 16 / c) := by
            unfold LV
            rw [e]
            rcases h3 with z | z
            · rw [stp0 (by omega) (by omega), hI.b0 (by omega) (by omega), bt_z, bt_z, Bool.and_false]
            · have es : stp K F p = c := by unfold stp; rw [if_pos z.1]; exact z.2
              rw [es, decide_eq_true g, Bool.true_and]
          rw [hl]
        · rw [decide_eq_false g, Bool.false_and]
          have hne : x ≠ a := fun q => g (by rw [q]; exact ⟨ha, hc0, h1, h2⟩)
          have hl : LV K F B x = false := by
            rw [Bool.eq_false_iff]
            intro q
            obtain ⟨q1, q2, q3, q4, q5⟩ := LV_iff.mp q
            rw [e] at q2 q3 q4 q5
            rcases h3 with z | z
            · rw [stp0 (by omega) (by omega)] at q2; omega
            · have es : stp K F p = c := by unfold stp; rw [if_pos z.1]; exact z.2
              rw [es] at q3 q4
              exact g ⟨q1, hc0, q3, q4⟩
          rw [hl, decide_eq_false hne]; rfl
      · have hne : x ≠ a := fun q => e (by rw [q]; exact hpe)
        rw [decide_eq_false hne, Bool.or_false]
        unfold LV stp
        rw [up_n _ e, up_n _ e, up_n _ e]
  · unfold aK aF aB
    rw [if_neg (by omega), if_neg (by omega), if_neg (by omega)]
    have ho := ord_le n
    obtain ⟨r1, r2⟩ := rn_iff.mp h3
    have h2p := p2le (o := ord n) (by omega)
    generalize hpe : a / 16 = p at *
    generalize hoe : ord n = o at *
    have hKp : K p = 0 := by have := r2 0 (by omega); rwa [Nat.add_zero] at this
    have hz : ∀ j, p ≤ j → j < p + 2 ^ o → K j = 0 := fun j g1 g2 => by have := r2 (j - p) (by omega); rwa [show p + (j - p) = j by omega] at this
    have hB0 : B p = 0 := hI.b0 (by omega) (by omega)
    have hs1 : sto (B p) 0 = 1 := by rw [hB0]; rfl
    rw [hs1]
    have kout : ∀ j, ¬ (p ≤ j ∧ j < p + 2 ^ o) → ext K p (2 ^ o) j = K j := fun j g => by unfold ext; rw [if_neg (by omega), if_neg (by omega)]
    have fout : ∀ j, ¬ (p ≤ j ∧ j < p + 2 ^ o) → ran F p (2 ^ o) o j = F j := fun j g => by unfold ran; rw [if_neg g]
    have kp : ext K p (2 ^ o) p = 2 := by unfold ext; rw [if_pos rfl]
    have kin : ∀ j, p < j → j < p + 2 ^ o → ext K p (2 ^ o) j = 3 := fun j g1 g2 => by unfold ext; rw [if_neg (by omega), if_pos ⟨g1, g2⟩]
    have fin : ∀ j, p ≤ j → j < p + 2 ^ o → ran F p (2 ^ o) o j = o := fun j g1 g2 => by unfold ran; rw [if_pos ⟨g1, g2⟩]
    have tri : ∀ j, j = p ∨ (p < j ∧ j < p + 2 ^ o) ∨ ¬ (p ≤ j ∧ j < p + 2 ^ o) := fun j => by omega
    constructor
    · refine ⟨by rw [kout 0 (by omega)]; exact hI.k0, fun q => ?_, fun q => ?_, fun q => ?_, fun q hq => ?_, fun q g1 g2 => ?_, fun q g => ?_, fun q g => ?_, fun q g => ?_, fun q hq => ?_⟩
      · by_cases e : q = p
        · rw [e, up_s]; omega
        · rw [up_n _ e]; exact hI.b q
      · unfold ran; split
        · omega
        · exact hI.f q
      · rcases tri q with rfl | ⟨g1, g2⟩ | g1
        · rw [kp]; omega
        · rw [kin q g1 g2]; omega
        · rw [kout q g1]; exact hI.k q
      · rcases tri q with rfl | ⟨g1, g2⟩ | g1
        · rw [kp]; omega
        · rw [kin q g1 g2]; omega
        · rw [kout q g1]; exact hI.n4 hq
      · rcases tri q with rfl | ⟨g3, g4⟩ | g3
        · rw [kp] at g2; exact absurd rfl g2
        · rw [up_n _ (by omega)]; exact hI.b0 (by rw [hz q (by omega) g4]; omega) (by rw [hz q (by omega) g4]; omega)
        · rw [kout q g3] at g1 g2
          by_cases e : q = p
          · exact absurd ⟨by omega, by omega⟩ g3
          · rw [up_n _ e]; exact hI.b0 g1 g2
      · rcases tri q with rfl | ⟨g3, g4⟩ | g3
        · rw [kp] at g; omega
        · rw [kin q g3 g4] at g; omega
        · rw [kout q g3] at g
          rw [fout q g3, up_n _ (by omega)]; exact hI.s1 g
      · rcases tri q with rfl | ⟨g3, g4⟩ | g3
        · rw [fin q (by omega) (by omega), up_s]
          exact ⟨ho, h2, r1, rfl, fun i i0 i1 => ⟨kin _ (by omega) (by omega), fin _ (by omega) (by omega)⟩⟩
        · rw [kin q g3 g4] at g; omega
        · rw [kout q g3] at g
          rw [fout q g3, up_n _ (by omega)]
          obtain ⟨s1, s2, s3, s4, s5⟩ := hI.s2 g
          refine ⟨s1, s2, s3, s4, fun i i0 i1 => ?_⟩
          have := s5 i i0 i1
          have hne : ¬ (p ≤ q + i ∧ q + i < p + 2 ^ o) := fun z => by rw [hz _ z.1 z.2] at this; omega
          rw [kout _ hne, fout _ hne]; exact this
      · rcases tri q with rfl | ⟨g3, g4⟩ | g3
        · rw [kp] at g; omega
        · rw [fin q (by omega) g4]
          have e : q / 2 ^ o * 2 ^ o = p := by
            have hl := al_lt q o
            rcases Nat.lt_trichotomy (q / 2 ^ o * 2 ^ o) p with z | z | z
            · exact absurd (mult_gap (m := 2 ^ o) (p := q / 2 ^ o * 2 ^ o) (p' := p) (by rw [Nat.mul_mod_left]) h2 z (by omega)) (fun q => q)
            · exact z
            · exact absurd (mult_gap (m := 2 ^ o) (p := p) (p' := q / 2 ^ o * 2 ^ o) h2 (by rw [Nat.mul_mod_left]) z (by omega)) (fun q => q)
          rw [e, kp, fin p (by omega) (by omega)]
          exact ⟨ho, rfl, rfl⟩
        · rw [kout q g3] at g
          rw [fout q g3]
          obtain ⟨s1, s2, s3⟩ := hI.s3 g
          have hne : ¬ (p ≤ q / 2 ^ F q * 2 ^ F q ∧ q / 2 ^ F q * 2 ^ F q < p + 2 ^ o) := fun z => by rw [hz _ z.1 z.2] at s2; omega
          rw [kout _ hne, fout _ hne]; exact ⟨s1, s2, s3⟩
      · rw [kout q (by omega)]; exact hI.o hq
    · intro x
      rcases tri (x / 16) with e | ⟨g3, g4⟩ | g3
      · have hl : LV K F B x = false := by
          rw [Bool.eq_false_iff]
          intro q
          obtain ⟨-, q2, -⟩ := LV_iff.mp q
          rw [e, stp0 (by omega) (by omega)] at q2; omega
        rw [hl, Bool.false_or]
        unfold LV
        rw [e, stp2 kp, up_s]
        by_cases z : x = a
        · rw [decide_eq_true z, decide_eq_true (by omega), Bool.true_and, show x % 16 / 16 = 0 by omega]; rfl
        · rw [decide_eq_false z, decide_eq_false (by omega), Bool.false_and]
      · have hl : LV K F B x = false := by
          rw [Bool.eq_false_iff]
          intro q
          obtain ⟨-, q2, -⟩ := LV_iff.mp q
          rw [stp0 (by rw [hz _ (by omega) g4]; omega) (by rw [hz _ (by omega) g4]; omega)] at q2; omega
        rw [hl, Bool.false_or, decide_eq_false (fun z => by rw [z] at g3; omega)]
        rw [Bool.eq_false_iff]
        intro q
        obtain ⟨-, q2, -⟩ := LV_iff.mp q
        rw [stp0 (by rw [kin _ g3 g4]; omega) (by rw [kin _ g3 g4]; omega)] at q2; omega
      · rw [decide_eq_false (fun z => g3 (by rw [z]; omega)), Bool.or_false]
        unfold LV stp
        rw [kout _ g3, fout _ g3, up_n _ (by omega)]
end PG
