/-! OPS E: the place for a block; alloc -/
section OE
variable {K F B : Nat → Nat} {nw kp qu qd : Nat → Int32} {n : Nat} {Lq : Nat → Nat}
/-- an empty slot of class c at a -/
def esq (K F B : Nat → Nat) (c a : Nat) : Bool := decide (a < 4096 ∧ K (a / 16) = 1 ∧ F (a / 16) = c ∧ a % 16 % c = 0 ∧ a % 16 / c < 16 / c) && !LV K F B a
theorem esq_iff {c a : Nat} : esq K F B c a = true ↔ (a < 4096 ∧ K (a / 16) = 1 ∧ F (a / 16) = c ∧ a % 16 % c = 0 ∧ a % 16 / c < 16 / c) ∧ LV K F B a = false := by
  unfold esq
  rw [Bool.and_eq_true, decide_eq_true_iff, Bool.not_eq_true']
theorem esq_slot (hI : PI K F B) {p s c : Nat} (hc : 0 < c) (hp : p < 256) (h1 : K p = 1) (h2 : F p = c) (hs : s < 16 / c) : esq K F B c (p * 16 + s * c) = !bt (B p) s := by
  have st : stp K F p = c := by rw [(hI.st1 h1).1]; exact h2
  have hl := LV_slot hI hp (s := s) (by rw [st]; exact hs)
  rw [st] at hl
  have h3 : s * c < 16 := by
    have h4 : (s + 1) * c ≤ 16 / c * c := Nat.mul_le_mul_right _ hs
    have h5 := Nat.div_mul_le_self 16 c
    rw [Nat.add_mul, Nat.one_mul] at h4
    omega
  unfold esq
  rw [hl, show (p * 16 + s * c) / 16 = p by omega, show (p * 16 + s * c) % 16 = s * c by omega, Nat.mul_mod_left, Nat.mul_div_cancel _ hc, decide_eq_true (by exact ⟨by omega, h1, h2, rfl, hs⟩), Bool.true_and]
theorem esq_gap {p s c x : Nat} (h1 : p * 16 + s * c < x) (h2 : x < p * 16 + (s + 1) * c) (h3 : x < p * 16 + 16) : esq K F B c x = false := by
  rw [Bool.eq_false_iff]
  intro q
  obtain ⟨⟨-, -, -, h5, -⟩, -⟩ := esq_iff.mp q
  rw [Nat.add_mul, Nat.one_mul] at h2
  exact mult_gap (m := c) (p := s * c) (p' := x % 16) (by rw [Nat.mul_mod_left]) h5 (by omega) (by omega)
theorem esq_rest {p c x : Nat} (h1 : p * 16 + 16 / c * c ≤ x) (h3 : x < p * 16 + 16) : esq K F B c x = false := by
  rw [Bool.eq_false_iff]
  intro q
  obtain ⟨⟨-, -, -, h5, h6⟩, -⟩ := esq_iff.mp q
  have h7 : x % 16 / c * c = x % 16 := Nat.div_mul_cancel (Nat.dvd_of_mod_eq_zero h5)
  have hc : 0 < c := by
    rcases Nat.eq_zero_or_pos c with e | e
    · rw [e] at h6; exact absurd h6 (by simp)
    · exact e
  have h8 : (x % 16 / c + 1) * c ≤ 16 / c * c := Nat.mul_le_mul_right _ h6
  rw [Nat.add_mul, Nat.one_mul, h7] at h8
  omega
theorem esq_off {p c x : Nat} (h : ¬ (K p = 1 ∧ F p = c)) (hx : x / 16 = p) : esq K F B c x = false := by
  rw [Bool.eq_false_iff]
  intro q
  obtain ⟨⟨-, h1, h2, -⟩, -⟩ := esq_iff.mp q
  rw [hx] at h1 h2
  exact h ⟨h1, h2⟩
theorem e_emptySlot {post : Int32 → Prop} {c : Nat} (hI : PI K F B) (hc : c = 2 ∨ c = 3 ∨ c = 4 ∨ c = 6 ∨ c = 8) (hn : cnt (esq K F B c) 4096 = 0 → post (-1)) (ht : ∀ a, esq K F B c a = true → cnt (esq K F B c) a = 0 → post (nI a)) : wX0_emptySlot post (nn K) (nn F) (nn B) (nI c) := by
  have hd8 := div_c8 c hc
  have hc0 : 0 < c := by omega
  have hdm := Nat.div_mul_le_self 16 c
  have inner : ∀ (J : Int32 → Int32 → Prop) (p : Nat), p < 256 → K p = 1 → F p = c → (cnt (esq K F B c) (p * 16 + 16) = 0 → J (nI c) (nI (p + 1))) → ∀ d s : Nat, s + d = 16 / c → cnt (esq K F B c) (p * 16 + s * c) = 0 → wX0_emptySlot_30 post (nn K) (nn F) (nn B) J (d + 1) (nI c) (nI p) (nI (16 / c)) (nI s) := by
    intro J p hp h1 h2 hJ d
    induction d with
    | zero =>
      intro s hs hz
      unfold wX0_emptySlot_30
      refine pk_le (16 / c) s (fun _ => ?_) (fun g => absurd g (by omega)) rfl rfl (by omega) (by omega)
      intro x hx
      rw [hx, nI_1]
      have hse : s = 16 / c := by omega
      refine hJ ?_
      rw [cnt_skip (a := p * 16 + s * c) (b := p * 16 + 16) (by rw [hse]; omega) (fun x g1 g2 => esq_rest (p := p) (by rw [← hse]; exact g1) g2)]
      exact hz
    | succ d ih =>
      intro s hs hz
      have hss : s < 16 / c := by omega
      have hq := esq_slot hI hc0 hp h1 h2 hss
      unfold wX0_emptySlot_30
      refine pk_le (16 / c) s (fun g => absurd g (by omega)) (fun _ => ?_) rfl rfl (by omega) (by omega)
      refine e_isTaken (hI.b p) hp (by omega) (br_nb (fun g => ?_) (fun g => ?_))
      · intro x hx
        rw [hx, nI_1]
        rw [g, Bool.not_true] at hq
        refine ih (s + 1) (by omega) ?_
        have h4 : (s + 1) * c ≤ 16 / c * c := Nat.mul_le_mul_right _ hss
        rw [cnt_skip (a := p * 16 + s * c + 1) (b := p * 16 + (s + 1) * c) (by rw [Nat.add_mul, Nat.one_mul]; omega) (fun x g1 g2 => esq_gap (p := p) (s := s) (by omega) g2 (by omega)), cnt_f hq]
        exact hz
      · rw [g, Bool.not_false] at hq
        have := ht _ hq hz
        show post (nI p * nI 16 + nI s * nI c)
        rw [pk_mul, pk_mul, nI_add]; exact this
  have outer : ∀ d p : Nat, p + d = 256 → cnt (esq K F B c) (p * 16) = 0 → wX0_emptySlot_2 post (nn K) (nn F) (nn B) (d + 1) (nI c) (nI p) := by
    intro d
    induction d with
    | zero =>
      intro p hp hz
      have e : p = 256 := by omega
      subst e
      unfold wX0_emptySlot_2
      exact pk_le 256 256 (fun _ => hn hz) (fun g => absurd g (by omega)) rfl rfl (by omega) (by omega)
    | succ d ih =>
      intro p hp hz
      unfold wX0_emptySlot_2
      refine pk_le 256 p (fun g => absurd g (by omega)) (fun _ => ?_) rfl rfl (by omega) (by omega)
      refine e_isSlabOf hI (by omega) (by omega) (br_nb (fun g => ?_) (fun g => ?_))
      · obtain ⟨g1, g2⟩ := of_decide_eq_true g
        refine e_slotsOf hI (by omega) ?_
        rw [(hI.st1 g1).1, g2]
        have := inner (wX0_emptySlot_2 post (nn K) (nn F) (nn B) (d + 1)) p (by omega) g1 g2 (fun w => ih (p + 1) (by omega) (by rw [Nat.add_mul, Nat.one_mul]; exact w)) (16 / c) 0 (by omega) (by rw [Nat.zero_mul, Nat.add_zero]; exact hz)
        exact ⟨_, this⟩
      · intro x hx
        rw [hx, nI_1]
        refine ih (p + 1) (by omega) ?_
        rw [cnt_skip (a := p * 16) (b := (p + 1) * 16) (by omega) (fun x g1 g2 => esq_off (p := p) (of_decide_eq_false g) (by omega))]
        exact hz
  refine ⟨_, outer 255 1 (by omega) ?_⟩
  exact cnt_skip (a := 0) (by omega) (fun x _ h2 => esq_off (p := 0) (fun z => by have := hI.k0; omega) (by omega))
/-- where a block of n words goes -/
def PL (K F B : Nat → Nat) (n : Nat) (r : Int32) : Prop := (n ≤ 8 ∧ ∃ a, esq K F B (cls n) a = true ∧ cnt (esq K F B (cls n)) a = 0 ∧ r = nI a) ∨ ((n ≤ 8 → cnt (esq K F B (cls n)) 4096 = 0) ∧ ∃ q, XF K (if n ≤ 8 then 0 else ord n) q ∧ ((q = -1 ∧ r = -1) ∨ ∃ p, q = nI p ∧ p < 256 ∧ r = nI (16 * p)))
theorem PL_one {r r' : Int32} (h : PL K F B n r) (h' : PL K F B n r') : r = r' := by
  have ab : n ≤ 8 → (∃ a, esq K F B (cls n) a = true ∧ cnt (esq K F B (cls n)) a = 0 ∧ True) → cnt (esq K F B (cls n)) 4096 = 0 → False := by
    rintro - ⟨a, h1, -, -⟩ h2
    have := cnt_lt h1 (esq_iff.mp h1).1.1
    omega
  rcases h with ⟨h8, a, h1, h2, e⟩ | ⟨h1, q, h2, h3⟩
  · rcases h' with ⟨-, a', h1', h2', e'⟩ | ⟨h1', -⟩
    · rw [e, e', cnt_inj h1 h1' (by omega)]
    · exact absurd (ab h8 ⟨a, h1, h2, trivial⟩ (h1' h8)) (fun z => z)
  · rcases h' with ⟨h8, a', h1', h2', e'⟩ | ⟨-, q', h2', h3'⟩
    · exact absurd (ab h8 ⟨a', h1', h2', trivial⟩ (h1 h8)) (fun z => z)
    · have eq := XF_one h2 h2'
      subst eq
      rcases h3 with ⟨z1, z2⟩ | ⟨p, z1, zp, z2⟩
      · rcases h3' with ⟨y1, y2⟩ | ⟨p', y1, yp, y2⟩
        · rw [z2, y2]
        · rw [z1] at y1; exact absurd y1.symm (nI_m1 _ (by omega))
      · rcases h3' with ⟨y1, y2⟩ | ⟨p', y1, yp, y2⟩
        · rw [y1] at z1; exact absurd z1.symm (nI_m1 _ (by omega))
        · rw [z1] at y1
          have := (nI_eq (by omega) (by omega)).mp y1
          subst this
          rw [z2, y2]
theorem PL_HD (hI : PI K F B) (hn : n ≤ 2048) {r : Int32} (h : PL K F B n r) : r = -1 ∨ ∃ a, r = nI a ∧ a < 4096 ∧ LV K F B a = false ∧ HD K F a n := by
  rcases h with ⟨h8, a, h1, h2, e⟩ | ⟨h1, q, h2, h3⟩
  · obtain ⟨⟨g1, g2, g3, g4, g5⟩, g6⟩ := esq_iff.mp h1
    exact Or.inr ⟨a, e, g1, g6, Or.inl ⟨h8, g4, g5, Or.inr ⟨g2, g3⟩⟩⟩
  · rcases h3 with ⟨-, z2⟩ | ⟨p, z1, zp, z2⟩
    · exact Or.inl z2
    · rcases h2 with ⟨e, -⟩ | ⟨o, p', w1, w2, w3, w4, w5, e, -⟩
      · rw [z1] at e; exact absurd e (nI_m1 _ (by omega))
      · rw [z1] at e
        have := (nI_eq (by omega) (by omega)).mp e
        subst this
        have hr : rn K p o = true := by
          unfold fe at w5
          rw [Bool.and_eq_true] at w5
          exact w5.1
        obtain ⟨r1, r2⟩ := rn_iff.mp hr
        have hk : K p = 0 := by have := r2 0 (Nat.two_pow_pos o); rwa [Nat.add_zero] at this
        have ed : 16 * p / 16 = p := by omega
        refine Or.inr ⟨16 * p, z2, by omega, ?_, ?_⟩
        · rw [Bool.eq_false_iff]
          intro l
          have := LV_k l
          rw [ed] at this
          omega
        · by_cases h8 : n ≤ 8
          · have hc := cls_s h8
            refine Or.inl ⟨h8, by rw [show 16 * p % 16 = 0 by omega]; exact Nat.zero_mod _, ?_, Or.inl (by rw [ed]; exact hk)⟩
            rw [show 16 * p % 16 = 0 by omega, Nat.zero_div]
            rcases hc with e | e | e | e | e <;> rw [e] <;> decide
          · rw [if_neg h8] at w1
            have hle : 2 ^ ord n ≤ 2 ^ o := Nat.pow_le_pow_right (by omega) w1
            refine Or.inr ⟨by omega, by omega, ?_, ?_⟩
            · rw [ed]
              exact Nat.mod_eq_zero_of_dvd (Nat.dvd_trans (Nat.pow_dvd_pow 2 w1) (Nat.dvd_of_mod_eq_zero w4))
            · rw [ed]
              exact rn_iff.mpr ⟨by omega, fun i hi => r2 i (by omega)⟩
theorem XF_p {q : Nat} {r : Int32} (h : XF K q r) : r = -1 ∨ ∃ p, r = nI p ∧ p < 256 := by
  rcases h with ⟨e, -⟩ | ⟨o, p', w1, w2, w3, w4, w5, e, -⟩
  · exact Or.inl e
  · exact Or.inr ⟨p', e, w3⟩
theorem e_placeFor {post : Int32 → Prop} {s : Nat} (hI : PI K F B) (hs : s < 2048) (h : ∀ r, PL K F B (s + 1) r → post r) : wX0_placeFor post (nn K) (nn F) (nn B) (nI s) := by
  have hc8 := cls_le (s + 1)
  have h39 : ∀ q : Nat, q ≤ 8 → (s + 1 ≤ 8 → cnt (esq K F B (cls (s + 1))) 4096 = 0) → q = (if s + 1 ≤ 8 then 0 else ord (s + 1)) → wX0_placeFor_39 post (nn K) (nn F) (nn B) (nI q) := by
    intro q hq hz e
    unfold wX0_placeFor_39
    refine e_extentFor hI.k hq (fun r hr => ⟨fun g => ?_, fun g => ?_⟩)
    · rcases XF_p hr with w | ⟨p, w, wp⟩
      · exact absurd w g
      · have := h (nI (16 * p)) (Or.inr ⟨hz, r, by rw [← e]; exact hr, Or.inr ⟨p, w, wp, rfl⟩⟩)
        rw [w]
        show post (nI p * nI 16)
        rw [pk_mul, Nat.mul_comm]; exact this
    · exact h (-1) (Or.inr ⟨hz, r, by rw [← e]; exact hr, Or.inl ⟨g, rfl⟩⟩)
  unfold wX0_placeFor
  refine e_classFor (by omega) (pk_le (cls (s + 1)) 0 (fun g => ?_) (fun g => ?_) rfl rfl (by omega) (by omega))
  · have h9 : 8 < s + 1 := cls_0.mp (by omega)
    have ho := ord_le (s + 1)
    unfold wX0_placeFor_18
    refine ⟨fun _ => pk_le (cls (s + 1)) 0 (fun _ => e_orderFor hs (fun _ => h39 _ (by omega) (fun z => absurd z (by omega)) (by rw [if_neg (by omega)])) (fun z => absurd z (by omega))) (fun z => absurd z (by omega)) rfl rfl (by omega) (by omega), fun z => absurd rfl z⟩
  · have h9 : s + 1 ≤ 8 := by
      have := (not_congr (cls_0 (n := s + 1))).mp (by omega)
      omega
    refine e_emptySlot hI (cls_s h9) (fun hz => ?_) (fun a h1 h2 => ?_)
    · unfold wX0_placeFor_18
      exact ⟨fun _ => pk_le (cls (s + 1)) 0 (fun z => absurd z (by omega)) (fun _ => h39 0 (by omega) (fun _ => hz) (by rw [if_pos h9])) rfl rfl (by omega) (by omega), fun z => absurd rfl z⟩
    · unfold wX0_placeFor_18
      have ha := (esq_iff.mp h1).1.1
      exact ⟨fun z => absurd z (nI_m1 _ (by omega)), fun _ => h (nI a) (Or.inl ⟨h9, a, h1, h2, rfl⟩)⟩
theorem e_mplaceFor {post : Int32 → (Nat → Int32) → (Nat → Int32) → (Nat → Int32) → (Nat → Int32) → (Nat → Int32) → Prop} {mkind msort mfirst mblk mfree : Nat → Int32} {s : Nat} (hI : PI K F B) (hS : SI K F B nw) (hs : s < 2048) (h : ∀ r, PL K F B (s + 1) r → ∀ a b c d e, post r a b c d e) : wX3_placeFor post nw (bz (LV K F B)) mkind msort mfirst mblk mfree (nI (s + 1)) := by
  have hc8 := cls_le (s + 1)
  unfold wX3_placeFor
  refine e_map hI hS (fun ma mb mc md me hM => e_classOf (by omega) ?_)
  have tk : ∀ q : Nat, q ≤ 8 → (s + 1 ≤ 8 → cnt (esq K F B (cls (s + 1))) 4096 = 0) → q = (if s + 1 ≤ 8 then 0 else ord (s + 1)) → wX3_taken (fun r => ((¬ (r = (-1)) → post (16 * r) ma mb mc md me) ∧ ((r = (-1)) → post (-1) ma mb mc md me))) mc me (nI q) := by
    intro q hq hz e
    refine e_taken hM hq (fun r hr => ⟨fun g => ?_, fun g => ?_⟩)
    · rcases XF_p hr with w | ⟨p, w, wp⟩
      · exact absurd w g
      · have := h (nI (16 * p)) (Or.inr ⟨hz, r, by rw [← e]; exact hr, Or.inr ⟨p, w, wp, rfl⟩⟩) ma mb mc md me
        rw [w]
        show post (nI 16 * nI p) ma mb mc md me
        rw [pk_mul]; exact this
    · exact h (-1) (Or.inr ⟨hz, r, by rw [← e]; exact hr, Or.inl ⟨g, rfl⟩⟩) ma mb mc md me
  refine pk_ne (cls (s + 1)) 0 (fun g => ?_) (fun g => ?_) rfl rfl (by omega) (by omega)
  · have h9 : s + 1 ≤ 8 := by
      have := (not_congr (cls_0 (n := s + 1))).mp (by omega)
      omega
    have hc := cls_s h9
    have hce : ∃ c, c = cls (s + 1) := ⟨_, rfl⟩
    obtain ⟨c, hce⟩ := hce
    rw [← hce] at hc g tk ⊢
    have hd8 := div_c8 c hc
    have hc0 : 0 < c := by omega
    have hdm := Nat.div_mul_le_self 16 c
    have inner : ∀ (J : Int32 → Int32 → (Nat → Int32) → (Nat → Int32) → (Nat → Int32) → (Nat → Int32) → (Nat → Int32) → Prop) (p : Nat), p < 256 → K p = 1 → F p = c → (cnt (esq K F B c) (p * 16 + 16) = 0 → J (nI c) (nI (p + 1)) ma mb mc md me) → ∀ d t : Nat, t + d = 16 / c → cnt (esq K F B c) (p * 16 + t * c) = 0 → wX3_placeFor_73 post nw (bz (LV K F B)) J (d + 1) (nI c) (nI p) (nI t) ma mb mc md me := by
      intro J p hp h1 h2 hJ d
      have hsort : mb p = nI c := by
        rw [(hM p hp).2.1]
        unfold pgv
        rw [if_neg (by omega), if_neg (by omega), h2]
      have hsl : ∀ {Q : Int32 → Prop}, Q (nI (16 / c)) → wX3_slots Q mb (nI p) := by
        intro Q hQ
        unfold wX3_slots
        rw [nI_clamp (by omega), hsort]
        refine ⟨pk_in p 256 hp, nI_ne0 hc0 (by omega), ?_⟩
        show Q (nI 16 / nI c)
        rw [pk_div (by omega) hc0 (by omega)]; exact hQ
      induction d with
      | zero =>
        intro t hs hz
        unfold wX3_placeFor_73
        refine hsl (pk_le (16 / c) t (fun _ => ?_) (fun g => absurd g (by omega)) rfl rfl (by omega) (by omega))
        intro x hx
        rw [hx, nI_1]
        have hse : t = 16 / c := by omega
        refine hJ ?_
        rw [cnt_skip (a := p * 16 + t * c) (b := p * 16 + 16) (by rw [hse]; omega) (fun x g1 g2 => esq_rest (p := p) (by rw [← hse]; exact g1) g2)]
        exact hz
      | succ d ih =>
        intro t hs hz
        have hss : t < 16 / c := by omega
        have hq := esq_slot hI hc0 hp h1 h2 hss
        have hl := LV_slot hI hp (s := t) (by rw [(hI.st1 h1).1, h2]; exact hss)
        rw [(hI.st1 h1).1, h2] at hl
        have h4 : (t + 1) * c ≤ 16 / c * c := Nat.mul_le_mul_right _ hss
        have h4' : (t + 1) * c = t * c + c := by rw [Nat.add_mul, Nat.one_mul]
        have ead : (16 * nI p + nI c * nI t) = nI (p * 16 + t * c) := by
          show (nI 16 * nI p + nI c * nI t) = _
          rw [pk_mul, pk_mul, nI_add, Nat.mul_comm 16 p, Nat.mul_comm c t]
        unfold wX3_placeFor_73
        refine hsl (pk_le (16 / c) t (fun g => absurd g (by omega)) (fun _ => ?_) rfl rfl (by omega) (by omega))
        rw [ead, nI_clamp (by omega), bz_v, hl]
        refine ⟨pk_in (p * 16 + t * c) 4096 (by omega), br_nb (fun g => ?_) (fun g => ?_)⟩
        · intro x hx
          rw [hx, nI_1]
          rw [g, Bool.not_true] at hq
          refine ih (t + 1) (by omega) ?_
          rw [cnt_skip (a := p * 16 + t * c + 1) (b := p * 16 + (t + 1) * c) (by omega) (fun x g1 g2 => esq_gap (p := p) (s := t) (by omega) g2 (by omega)), cnt_f hq]
          exact hz
        · rw [g, Bool.not_false] at hq
          exact h _ (Or.inl ⟨h9, _, by rw [← hce]; exact hq, by rw [← hce]; exact hz, rfl⟩) _ _ _ _ _
    have outer : ∀ d p : Nat, p + d = 256 → cnt (esq K F B c) (p * 16) = 0 → wX3_placeFor_40 post nw (bz (LV K F B)) (d + 1) (nI c) (nI p) ma mb mc md me := by
      intro d
      induction d with
      | zero =>
        intro p hp hz
        have e : p = 256 := by omega
        subst e
        unfold wX3_placeFor_40
        exact pk_le 256 256 (fun _ => tk 0 (by omega) (fun _ => hz) (by rw [if_pos h9])) (fun g => absurd g (by omega)) rfl rfl (by omega) (by omega)
      | succ d ih =>
        intro p hp hz
        have hk := hI.k p
        have hf := hI.f p
        have skip : ¬ (K p = 1 ∧ F p = c) → ∀ x : Int32, x = nI p + 1 → wX3_placeFor_40 post nw (bz (LV K F B)) (d + 1) (nI c) x ma mb mc md me := by
          intro g x hx
          rw [hx, nI_1]
          refine ih (p + 1) (by omega) ?_
          rw [cnt_skip (a := p * 16) (b := (p + 1) * 16) (by omega) (fun x g1 g2 => esq_off (p := p) g (by omega))]
          exact hz
        obtain ⟨m1, m2, -⟩ := hM p (by omega)
        unfold wX3_placeFor_40
        refine pk_le 256 p (fun g => absurd g (by omega)) (fun _ => ⟨pk_in p 256 (by omega), ?_⟩) rfl rfl (by omega) (by omega)
        rw [nI_clamp (by omega), m1]
        refine pk_ne (K p) 1 (fun g => skip (fun z => g z.1)) (fun g => ⟨pk_in p 256 (by omega), ?_⟩) rfl rfl (by omega) (by omega)
        have hpv : pgv K F p = nI (F p) := by unfold pgv; rw [if_neg (by omega), if_neg (by omega)]
        rw [m2, hpv]
        refine pk_eq (F p) c (fun g2 => ?_) (fun g2 => skip (fun z => g2 z.2)) rfl rfl (by omega) (by omega)
        have := inner (wX3_placeFor_40 post nw (bz (LV K F B)) (d + 1)) p (by omega) g g2 (fun w => ih (p + 1) (by omega) (by rw [Nat.add_mul, Nat.one_mul]; exact w)) (16 / c) 0 (by omega) (by rw [Nat.zero_mul, Nat.add_zero]; exact hz)
        exact ⟨_, this⟩
    refine ⟨_, outer 255 1 (by omega) ?_⟩
    exact cnt_skip (a := 0) (by omega) (fun x _ h2 => esq_off (p := 0) (fun z => by have := hI.k0; omega) (by omega))
  · have h9 : 8 < s + 1 := cls_0.mp g
    have ho := ord_le (s + 1)
    exact e_orderOf (by omega) (tk _ (by omega) (fun z => absurd z (by omega)) (by rw [if_neg (by omega)]))
end OE
