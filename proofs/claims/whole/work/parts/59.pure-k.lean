/-! PURE K: the model's map(), its first two loops and the whole -/
section PN
variable {K F B : Nat → Nat} {nw : Nat → Int32}
def cov (K F : Nat → Nat) (x q : Nat) : Prop := (K (x / 16) = 1 ∧ q = x / 16) ∨ (K (x / 16) = 2 ∧ x / 16 ≤ q ∧ q < x / 16 + 2 ^ F (x / 16))
def dn (K F B : Nat → Nat) (q a : Nat) : Prop := ∃ x, x < a ∧ LV K F B x = true ∧ cov K F x q
def pgc (K F B : Nat → Nat) (q : Nat) : Nat → Bool := fun x => LV K F B x && decide (x / 16 = q)
def P2 (K F B : Nat → Nat) (a : Nat) (mk so fi bl fr : Nat → Int32) : Prop := ∀ q, q < 256 → (dn K F B q a → mk q = nI (K q) ∧ so q = nI (F q) ∧ fi q = nI (fsv K F q)) ∧ (¬ dn K F B q a → mk q = nI (if q = 0 then 4 else 0) ∧ so q = -1 ∧ fi q = nI q) ∧ bl q = nI (cnt (pgc K F B q) a) ∧ fr q = -1
theorem dn_s {q a : Nat} (h : LV K F B a = true) : dn K F B q (a + 1) ↔ dn K F B q a ∨ cov K F a q := by
  constructor
  · rintro ⟨x, h1, h2, h3⟩
    by_cases e : x = a
    · subst e; exact Or.inr h3
    · exact Or.inl ⟨x, by omega, h2, h3⟩
  · rintro (⟨x, h1, h2, h3⟩ | h3)
    · exact ⟨x, by omega, h2, h3⟩
    · exact ⟨a, by omega, h, h3⟩
theorem dn_n {q a : Nat} (h : LV K F B a = false) : dn K F B q (a + 1) ↔ dn K F B q a := by
  constructor
  · rintro ⟨x, h1, h2, h3⟩
    have e : x ≠ a := fun z => by rw [z, h] at h2; cases h2
    exact ⟨x, by omega, h2, h3⟩
  · rintro ⟨x, h1, h2, h3⟩
    exact ⟨x, by omega, h2, h3⟩
theorem fsv_al (hI : PI K F B) {p q : Nat} (h : K p = 2) (h1 : p ≤ q) (h2 : q < p + 2 ^ F p) : F q = F p ∧ fsv K F q = p ∧ (q = p ∨ K q = 3) := by
  obtain ⟨s1, s2, s3, s4, s5⟩ := hI.s2 h
  by_cases e : q = p
  · subst e
    refine ⟨rfl, ?_, Or.inl rfl⟩
    unfold fsv
    rw [if_neg (by omega), if_neg (by omega)]
    exact blk_al s2 (by omega) h2
  · have := s5 (q - p) (by omega) (by omega)
    rw [show p + (q - p) = q by omega] at this
    refine ⟨this.2, ?_, Or.inr this.1⟩
    unfold fsv
    rw [if_neg (by omega), if_neg (by omega), this.2]
    exact blk_al s2 h1 h2
theorem map2 {post : (Nat → Int32) → (Nat → Int32) → (Nat → Int32) → (Nat → Int32) → (Nat → Int32) → Prop} (hI : PI K F B) (hS : SI K F B nw) (h : ∀ mk so fi bl fr, P2 K F B 4096 mk so fi bl fr → ∃ fu, wX3_map_204 post nw (bz (LV K F B)) fu 8 mk so fi bl fr) :
    ∀ (d a : Nat) (mk so fi bl fr : Nat → Int32), a + d = 4096 → P2 K F B a mk so fi bl fr → wX3_map_61 post nw (bz (LV K F B)) (d + 1) (nI a) mk so fi bl fr := by
  intro d
  induction d with
  | zero =>
    intro a mk so fi bl fr hd h2
    have e : a = 4096 := by omega
    subst e
    unfold wX3_map_61
    exact pk_le 4096 4096 (fun _ => h mk so fi bl fr h2) (fun g => absurd g (by omega)) rfl rfl (by omega) (by omega)
  | succ d ih =>
    intro a mk so fi bl fr hd h2
    unfold wX3_map_61
    refine pk_le 4096 a (fun g => absurd g (by omega)) (fun _ => ⟨pk_in a 4096 (by omega), ?_⟩) rfl rfl (by omega) (by omega)
    rw [nI_clamp (by omega), bz_v]
    refine br_nb (fun l => ?_) (fun l => ?_)
    · have hz := szw_lt (nw a)
      obtain ⟨z1, z2, z3, z4⟩ := hS a l
      refine e_sizeAt (by omega) ?_
      intro x2 hx2 x3 hx3
      have hx3' : x3 = nI (a / 16) := by rw [hx3]; exact pk_div (d := 16) (by omega) (by omega) (by omega)
      rw [hx2, hx3', nI_1]
      refine ⟨pk_in (a / 16) 256 (by omega), pk_in (a / 16) 256 (by omega), ?_⟩
      rw [nI_clamp (show a / 16 < 2 ^ 31 by omega)]
      have hbl : bl (a / 16) + 1 = nI (cnt (pgc K F B (a / 16)) (a + 1)) := by
        rw [(h2 (a / 16) (by omega)).2.2.1, nI_1, cnt_t (by unfold pgc; rw [l, decide_eq_true rfl]; rfl)]
      have hcn : ∀ q, q ≠ a / 16 → cnt (pgc K F B q) (a + 1) = cnt (pgc K F B q) a := fun q e => cnt_f (by unfold pgc; rw [decide_eq_false (fun z => e z.symm), Bool.and_false])
      refine pk_lt 8 (szw (nw a) + 1) (fun g => ?_) (fun g => ⟨pk_in (a / 16) 256 (by omega), ?_⟩) rfl rfl (by omega) (by omega)
      · have hk2 : K (a / 16) = 2 := by
          rcases LV_k l with e | e
          · have := z3 e; omega
          · exact e
        have hF := (z4 hk2).2
        obtain ⟨s1, s2, s3, s4, s5⟩ := hI.s2 hk2
        have h2p := p2le (o := F (a / 16)) (by omega)
        refine e_orderOf (by omega) ?_
        rw [hF]
        have st : ∀ (e i : Nat) (mk' so' fi' : Nat → Int32), i + e = 2 ^ F (a / 16) → (∀ q, (a / 16 ≤ q ∧ q < a / 16 + i → mk' q = nI (K q) ∧ so' q = nI (F (a / 16)) ∧ fi' q = nI (a / 16)) ∧ (¬ (a / 16 ≤ q ∧ q < a / 16 + i) → mk' q = mk q ∧ so' q = so q ∧ fi' q = fi q)) → wX3_map_140 post nw (bz (LV K F B)) (wX3_map_61 post nw (bz (LV K F B)) (d + 1)) (e + 1) (nI a) (nI (a / 16)) (nI (F (a / 16))) (nI i) mk' so' fi' (upd bl (a / 16) (bl (a / 16) + 1)) fr := by
          intro e
          induction e with
          | zero =>
            intro i mk' so' fi' hi hq
            unfold wX3_map_140
            rw [shl1 _ (by omega)]
            refine pk_le (2 ^ F (a / 16)) i (fun _ => ?_) (fun g => absurd g (by omega)) rfl rfl (by omega) (by omega)
            intro x hx
            rw [hx, nI_1]
            refine ih (a + 1) _ _ _ _ _ (by omega) (fun q hq' => ?_)
            obtain ⟨b1, b2⟩ := hq q
            obtain ⟨c1, c2, c3, c4⟩ := h2 q hq'
            have hbq : upd bl (a / 16) (bl (a / 16) + 1) q = nI (cnt (pgc K F B q) (a + 1)) := by
              by_cases w : q = a / 16
              · rw [w, pk_us, hbl]
              · rw [pk_un w, hcn q w]; exact c3
            rw [dn_s l]
            by_cases w : a / 16 ≤ q ∧ q < a / 16 + i
            · have hf := fsv_al hI hk2 w.1 (by omega)
              obtain ⟨e1, e2, e3⟩ := b1 w
              refine ⟨fun _ => ⟨e1, by rw [hf.1]; exact e2, by rw [hf.2.1]; exact e3⟩, fun z => absurd (Or.inr (Or.inr ⟨hk2, w.1, by omega⟩)) z, hbq, c4⟩
            · obtain ⟨e1, e2, e3⟩ := b2 w
              have hnc : ¬ cov K F a q := by
                rintro (⟨y1, y2⟩ | ⟨y1, y2, y3⟩)
                · omega
                · exact w ⟨y2, by omega⟩
              rw [e1, e2, e3]
              exact ⟨fun z => c1 (z.resolve_right hnc), fun z => c2 (fun y => z (Or.inl y)), hbq, c4⟩
          | succ e ihe =>
            intro i mk' so' fi' hi hq
            unfold wX3_map_140
            rw [shl1 _ (by omega)]
            refine pk_le (2 ^ F (a / 16)) i (fun g => absurd g (by omega)) (fun _ => ?_) rfl rfl (by omega) (by omega)
            rw [nI_add]
            have fin : ∀ v : Nat, v = K (a / 16 + i) → wX3_map_167 post nw (bz (LV K F B)) (wX3_map_61 post nw (bz (LV K F B)) (d + 1)) (wX3_map_140 post nw (bz (LV K F B)) (wX3_map_61 post nw (bz (LV K F B)) (d + 1)) (e + 1)) (nI a) (nI (a / 16)) (nI (F (a / 16))) (nI i) (nI v) (nI (a / 16 + i)) mk' so' fi' (upd bl (a / 16) (bl (a / 16) + 1)) fr := by
              intro v hv
              unfold wX3_map_167
              rw [nI_add]
              refine ⟨pk_in (a / 16 + i) 256 (by omega), pk_in (a / 16 + i) 256 (by omega), pk_in (a / 16 + i) 256 (by omega), ?_⟩
              intro x hx
              rw [hx, nI_1, nI_clamp (by omega)]
              refine ihe (i + 1) _ _ _ (by omega) (fun q => ?_)
              obtain ⟨b1, b2⟩ := hq q
              by_cases z : q = a / 16 + i
              · rw [z, pk_us, pk_us, pk_us, hv]
                exact ⟨fun _ => ⟨rfl, rfl, rfl⟩, fun w => absurd ⟨by omega, by omega⟩ w⟩
              · rw [pk_un z, pk_un z, pk_un z]
                exact ⟨fun w => b1 (by omega), fun w => b2 (by omega)⟩
            refine pk_ne i 0 (fun z => fin 3 ?_) (fun z => fin 2 ?_) rfl rfl (by omega) (by omega)
            · exact (s5 i (by omega) (by omega)).1.symm
            · rw [z, Nat.add_zero]; exact hk2.symm
        exact ⟨_, st (2 ^ F (a / 16)) 0 mk so fi (by omega) (fun q => ⟨fun w => absurd w (by omega), fun _ => ⟨rfl, rfl, rfl⟩⟩)⟩
      · have hk1 : K (a / 16) = 1 := by
          rcases LV_k l with e | e
          · exact e
          · have := z4 e; omega
        have hF := (z3 hk1).2
        refine e_classOf (by omega) ⟨pk_in (a / 16) 256 (by omega), ?_⟩
        intro x hx
        rw [hx, nI_1, hF]
        refine ih (a + 1) _ _ _ _ _ (by omega) (fun q hq' => ?_)
        obtain ⟨c1, c2, c3, c4⟩ := h2 q hq'
        rw [dn_s l]
        by_cases w : q = a / 16
        · subst w
          rw [pk_us, pk_us, pk_us, hk1, hbl]
          refine ⟨fun _ => ⟨rfl, rfl, ?_⟩, fun z => absurd (Or.inr (Or.inl ⟨hk1, rfl⟩)) z, rfl, c4⟩
          have hfs : fsv K F (a / 16) = a / 16 := by unfold fsv; rw [if_pos (Or.inl hk1)]
          rw [hfs]
          by_cases y : dn K F B (a / 16) a
          · have := (c1 y).2.2
            rw [hfs] at this; exact this
          · exact (c2 y).2.2
        · have hnc : ¬ cov K F a q := by
            rintro (⟨y1, y2⟩ | ⟨y1, y2, y3⟩)
            · exact w y2
            · omega
          rw [pk_un w, pk_un w, pk_un w, hcn q w]
          exact ⟨fun z => c1 (z.resolve_right hnc), fun z => c2 (fun y => z (Or.inl y)), c3, c4⟩
    · intro x hx
      rw [hx, nI_1]
      refine ih (a + 1) _ _ _ _ _ (by omega) (fun q hq' => ?_)
      rw [dn_n l, cnt_f (by unfold pgc; rw [l]; rfl)]
      exact h2 q hq'
-- how many live blocks a page has
theorem cnt_add (P : Nat → Bool) (m n : Nat) : cnt P (m + n) = cnt P m + cnt (fun i => P (m + i)) n := by
  induction n with
  | zero => rfl
  | succ n ih => rw [← Nat.add_assoc, cnt_s, cnt_s, ih, Nat.add_assoc]
theorem cnt_ext {P Q : Nat → Bool} {n : Nat} (h : ∀ i, i < n → P i = Q i) : cnt P n = cnt Q n := by
  induction n with
  | zero => rfl
  | succ n ih => rw [cnt_s, cnt_s, ih (fun i hi => h i (by omega)), h n (by omega)]
def slq (c b : Nat) : Nat → Bool := fun o => decide (0 < c ∧ o % c = 0 ∧ o / c < 16 / c) && bt b (o / c)
theorem slq2 : ∀ b, b < 256 → cnt (slq 2 b) 16 = pop b := by decide +kernel
theorem slq3 : ∀ b, b < 32 → cnt (slq 3 b) 16 = pop b := by decide +kernel
theorem slq4 : ∀ b, b < 16 → cnt (slq 4 b) 16 = pop b := by decide +kernel
theorem slq6 : ∀ b, b < 4 → cnt (slq 6 b) 16 = pop b := by decide +kernel
theorem slq8 : ∀ b, b < 4 → cnt (slq 8 b) 16 = pop b := by decide +kernel
theorem slq16 : cnt (slq 16 1) 16 = pop 1 := by decide +kernel
theorem cnt_page (hI : PI K F B) {q : Nat} (hq : q < 256) : cnt (pgc K F B q) 4096 = pop (B q) := by
  have e1 : cnt (pgc K F B q) 4096 = cnt (pgc K F B q) (q * 16 + 16) := cnt_skip (by omega) (fun x h1 h2 => by unfold pgc; rw [decide_eq_false (by omega), Bool.and_false])
  have e0 : cnt (pgc K F B q) (q * 16) = 0 := by
    have : cnt (pgc K F B q) (q * 16) = cnt (pgc K F B q) 0 := cnt_skip (by omega) (fun x h1 h2 => by unfold pgc; rw [decide_eq_false (by omega), Bool.and_false])
    rw [this]; rfl
  have e2 : cnt (fun i => pgc K F B q (q * 16 + i)) 16 = cnt (slq (stp K F q) (B q)) 16 := cnt_ext (fun i hi => by
    unfold pgc slq LV
    rw [show (q * 16 + i) / 16 = q by omega, show (q * 16 + i) % 16 = i by omega, decide_eq_true rfl, Bool.and_true]
    congr 1
    exact decide_eq_decide.mpr ⟨fun z => ⟨z.2.1, z.2.2.1, z.2.2.2⟩, fun z => ⟨by omega, z.1, z.2.1, z.2.2⟩⟩)
  rw [e1, cnt_add, e0, e2, Nat.zero_add]
  by_cases h1 : K q = 1
  · obtain ⟨t1, t2, t3⟩ := hI.s1 h1
    rw [(hI.st1 h1).1]
    rcases t1 with e | e | e | e | e
    · rw [e] at t3 ⊢; exact slq2 _ t3
    · rw [e] at t3 ⊢; exact slq3 _ t3
    · rw [e] at t3 ⊢; exact slq4 _ t3
    · rw [e] at t3 ⊢; exact slq6 _ t3
    · rw [e] at t3 ⊢; exact slq8 _ t3
  · by_cases h2 : K q = 2
    · rw [stp2 h2, (hI.s2 h2).2.2.2.1]; exact slq16
    · rw [hI.b0 h1 h2, stp0 h1 h2]; decide +kernel
theorem dn_all (hI : PI K F B) {q : Nat} (hq : q < 256) : dn K F B q 4096 ↔ (K q = 1 ∨ K q = 2 ∨ K q = 3) := by
  constructor
  · rintro ⟨x, h1, h2, ⟨y1, y2⟩ | ⟨y1, y2, y3⟩⟩
    · subst y2; exact Or.inl y1
    · have := (fsv_al hI y1 y2 y3).2.2
      rcases this with e | e
      · subst e; exact Or.inr (Or.inl y1)
      · exact Or.inr (Or.inr e)
  · have two : ∀ r, K r = 2 → LV K F B (r * 16) = true ∧ r * 16 < 4096 := by
      intro r hr
      have h := hI.s2 hr
      have := LV_slot hI (p := r) (s := 0) (by omega) (by rw [stp2 hr]; omega)
      rw [Nat.zero_mul, Nat.add_zero, h.2.2.2.1] at this
      have h1 := Nat.two_pow_pos (F r)
      exact ⟨by rw [this]; decide, by omega⟩
    rintro (h | h | h)
    · obtain ⟨t1, t2, t3⟩ := hI.s1 h
      obtain ⟨s, hs, hb⟩ := bt_ex _ (hI.b q) t2
      have hs' := bt_lt _ t1 _ t3 s hs hb
      have est := (hI.st1 h).1
      have hl := LV_slot hI (p := q) (s := s) hq (by rw [est]; exact hs')
      rw [hb] at hl
      have hsub := (LV_iff.mp hl).1
      have hdiv : (q * 16 + s * stp K F q) / 16 = q := by
        have h2 : (s + 1) * F q ≤ 16 / F q * F q := Nat.mul_le_mul_right _ hs'
        have h3 := Nat.div_mul_le_self 16 (F q)
        rw [Nat.add_mul, Nat.one_mul] at h2
        rw [est]
        have := (hI.st1 h).2.1
        omega
      exact ⟨_, hsub, hl, Or.inl ⟨by rw [hdiv]; exact h, hdiv.symm⟩⟩
    · obtain ⟨l, l2⟩ := two q h
      have h1 := Nat.two_pow_pos (F q)
      refine ⟨q * 16, l2, l, Or.inr ?_⟩
      rw [show q * 16 / 16 = q by omega]
      exact ⟨h, by omega, by omega⟩
    · obtain ⟨t1, t2, t3⟩ := hI.s3 h
      obtain ⟨l, l2⟩ := two _ t2
      have hal := al_lt q (F q)
      refine ⟨_, l2, l, Or.inr ?_⟩
      rw [show q / 2 ^ F q * 2 ^ F q * 16 / 16 = q / 2 ^ F q * 2 ^ F q by omega]
      exact ⟨t2, hal.1, by rw [t3]; exact hal.2⟩
/-- what map() leaves -/
def MP (K F B : Nat → Nat) (mk so fi bl fr : Nat → Int32) : Prop := ∀ q, q < 256 → mk q = nI (K q) ∧ so q = pgv K F q ∧ fi q = nI (fsv K F q) ∧ bl q = nI (pop (B q)) ∧ fr q = (if K q = 0 then nI (fo K q) else -1)
theorem e_map {post : (Nat → Int32) → (Nat → Int32) → (Nat → Int32) → (Nat → Int32) → (Nat → Int32) → Prop} {mkind msort mfirst mblk mfree : Nat → Int32} (hI : PI K F B) (hS : SI K F B nw) (h : ∀ mk so fi bl fr, MP K F B mk so fi bl fr → post mk so fi bl fr) : wX3_map post nw (bz (LV K F B)) mkind msort mfirst mblk mfree := by
  have h8 : (8 : Int32) = nI 8 := rfl
  have fin : ∀ mk so fi bl fr, P2 K F B 4096 mk so fi bl fr → ∃ fu, wX3_map_204 post nw (bz (LV K F B)) fu 8 mk so fi bl fr := by
    intro mk so fi bl fr h2
    have hm : ∀ q, q < 256 → mk q = nI (K q) := by
      intro q hq
      obtain ⟨c1, c2, c3, c4⟩ := h2 q hq
      by_cases y : dn K F B q 4096
      · exact (c1 y).1
      · rw [(c2 y).1]
        have hn := (not_congr (dn_all hI hq)).mp y
        by_cases e : q = 0
        · subst e; rw [if_pos rfl, hI.k0]
        · rw [if_neg e]
          have := hI.n4 (p := q) (by omega)
          have := hI.k q
          rw [show K q = 0 by omega]
    rw [h8]
    refine ⟨_, map3 (S2 := so) (F2 := fi) hm hI.k (fun so' fi' fr' h3 => h _ _ _ _ _ (fun q hq => ?_)) 8 so fi fr (by omega) (fun q hq => ?_)⟩
    · obtain ⟨a1, a2⟩ := h3 q hq
      obtain ⟨c1, c2, c3, c4⟩ := h2 q hq
      refine ⟨hm q hq, ?_⟩
      have hbl : bl q = nI (pop (B q)) := by rw [c3, cnt_page hI hq]
      unfold pgv fsv
      by_cases z : K q = 0
      · obtain ⟨b1, b2, b3⟩ := a1 ⟨z, by omega⟩
        rw [if_neg (by omega), if_pos z, if_neg (by omega), if_pos z, if_pos z]
        exact ⟨b2, b3, hbl, b1⟩
      · obtain ⟨b1, b2, b3⟩ := a2 (fun y => z y.1)
        rw [if_neg z, if_neg z, if_neg z, b1, b2, b3]
        refine ⟨?_, ?_, hbl, rfl⟩
        · by_cases y : dn K F B q 4096
          · have hd := (dn_all hI hq).mp y
            rw [if_neg (by omega)]; exact (c1 y).2.1
          · have hn := (not_congr (dn_all hI hq)).mp y
            have := hI.k q
            rw [if_pos (by omega)]; exact (c2 y).2.1
        · by_cases y : dn K F B q 4096
          · have := (c1 y).2.2
            unfold fsv at this
            rw [if_neg z] at this; exact this
          · have hn := (not_congr (dn_all hI hq)).mp y
            have := hI.k q
            rw [if_pos (by omega)]; exact (c2 y).2.2
    · have := fo_le (K := K) q
      exact ⟨fun z => absurd z.2 (by omega), fun _ => ⟨(h2 q hq).2.2.2, rfl, rfl⟩⟩
  have st : ∀ (d p : Nat) (mk so fi bl fr : Nat → Int32), p + d = 256 → (∀ q, q < p → mk q = nI (if q = 0 then 4 else 0) ∧ so q = -1 ∧ fi q = nI q ∧ bl q = 0 ∧ fr q = -1) → wX3_map_2 post nw (bz (LV K F B)) (d + 1) (nI p) mk so fi bl fr := by
    intro d
    induction d with
    | zero =>
      intro p mk so fi bl fr hd hp
      unfold wX3_map_2
      refine pk_le 256 p (fun _ => ?_) (fun g => absurd g (by omega)) rfl rfl (by omega) (by omega)
      refine ⟨_, map2 hI hS fin 4080 16 mk so fi bl fr (by omega) (fun q hq => ?_)⟩
      obtain ⟨a1, a2, a3, a4, a5⟩ := hp q (by omega)
      have hnd : ¬ dn K F B q 16 := by
        rintro ⟨x, h1, h2, -⟩
        exact absurd (LV_ge hI h2).1 (by omega)
      have hc : cnt (pgc K F B q) 16 = 0 := by
        have : cnt (pgc K F B q) 16 = cnt (pgc K F B q) 0 := cnt_skip (by omega) (fun x h1 h2 => by
          have : LV K F B x = false := by
            rw [Bool.eq_false_iff]
            exact fun z => absurd (LV_ge hI z).1 (by omega)
          unfold pgc; rw [this]; rfl)
        rw [this]; rfl
      exact ⟨fun z => absurd z hnd, fun _ => ⟨a1, a2, a3⟩, by rw [a4, hc]; rfl, a5⟩
    | succ d ih =>
      intro p mk so fi bl fr hd hp
      have body : ∀ v : Nat, v = (if p = 0 then 4 else 0) → wX3_map_23 post nw (bz (LV K F B)) (wX3_map_2 post nw (bz (LV K F B)) (d + 1)) (nI p) (nI v) (nI p) mk so fi bl fr := by
        intro v hv
        unfold wX3_map_23
        refine ⟨pk_in p 256 (by omega), pk_in p 256 (by omega), pk_in p 256 (by omega), pk_in p 256 (by omega), pk_in p 256 (by omega), ?_⟩
        intro x hx
        rw [hx, nI_1, nI_clamp (by omega)]
        refine ih (p + 1) _ _ _ _ _ (by omega) (fun q hq => ?_)
        by_cases e : q = p
        · rw [e, pk_us, pk_us, pk_us, pk_us, pk_us, hv]
          exact ⟨rfl, rfl, rfl, rfl, rfl⟩
        · rw [pk_un e, pk_un e, pk_un e, pk_un e, pk_un e]
          exact hp q (by omega)
      unfold wX3_map_2
      refine pk_le 256 p (fun g => absurd g (by omega)) (fun _ => pk_ne p 0 (fun z => body 0 (by rw [if_neg z])) (fun z => body 4 (by rw [if_pos z])) rfl rfl (by omega) (by omega)) rfl rfl (by omega) (by omega)
  exact ⟨_, st 256 0 _ _ _ _ _ (by omega) (fun q hq => absurd hq (by omega))⟩
end PN
