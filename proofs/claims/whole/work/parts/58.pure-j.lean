/-! PURE J: the model's map() -/
section PM
variable {K F B : Nat → Nat} {nw : Nat → Int32}
theorem e_areFree {post : Int32 → Prop} {mk : Nat → Int32} {p o : Nat} (hm : ∀ q, q < 256 → mk q = nI (K q)) (hk : ∀ p, K p ≤ 4) (hp : p < 256) (ho : o ≤ 8) (h : post (bI (rn K p o))) : wX3_areFree post mk (nI p) (nI (2 ^ o)) := by
  have h2 := p2le ho
  unfold wX3_areFree
  rw [nI_add]
  refine pk_le (p + 2 ^ o) 256 (fun g => ?_) (fun g => ?_) rfl rfl (by omega) (by omega)
  · have st : ∀ d i : Nat, i + d = 2 ^ o → (∀ j, j < i → K (p + j) = 0) → wX3_areFree_13 post mk (d + 1) (nI p) (nI (2 ^ o)) (nI i) := by
      intro d
      induction d with
      | zero =>
        intro i hi hj
        unfold wX3_areFree_13
        refine pk_le (2 ^ o) i (fun _ => ?_) (fun g => absurd g (by omega)) rfl rfl (by omega) (by omega)
        have e : rn K p o = true := rn_iff.mpr ⟨g, fun j h => hj j (by omega)⟩
        rw [e] at h; exact h
      | succ d ih =>
        intro i hi hj
        unfold wX3_areFree_13
        refine pk_le (2 ^ o) i (fun g => absurd g (by omega)) (fun _ => ?_) rfl rfl (by omega) (by omega)
        rw [nI_add, nI_clamp (by omega), hm (p + i) (by omega)]
        have hk' := hk (p + i)
        refine ⟨pk_in (p + i) 256 (by omega), pk_eq (K (p + i)) 0 (fun z => ?_) (fun z => ?_) rfl rfl (by omega) (by omega)⟩
        · intro y hy
          rw [hy, nI_1]
          refine ih (i + 1) (by omega) (fun j hj' => ?_)
          by_cases e : j = i
          · rw [e]; exact z
          · exact hj j (by omega)
        · have e : rn K p o = false := by
            rw [Bool.eq_false_iff]
            exact fun q => z ((rn_iff.mp q).2 i (by omega))
          rw [e] at h; exact h
    exact ⟨_, st (2 ^ o) 0 (by omega) (fun j h => absurd h (by omega))⟩
  · have e : rn K p o = false := by
      rw [Bool.eq_false_iff]
      exact fun q => absurd (rn_iff.mp q).1 (by omega)
    rw [e] at h; exact h
theorem blk_al {p q o : Nat} (hp : p % 2 ^ o = 0) (h1 : p ≤ q) (h2 : q < p + 2 ^ o) : q / 2 ^ o * 2 ^ o = p := by
  have hl := al_lt q o
  rcases Nat.lt_trichotomy (q / 2 ^ o * 2 ^ o) p with z | z | z
  · exact absurd (mult_gap (m := 2 ^ o) (p := q / 2 ^ o * 2 ^ o) (p' := p) (by rw [Nat.mul_mod_left]) hp z (by omega)) (fun q => q)
  · exact z
  · exact absurd (mult_gap (m := 2 ^ o) (p := p) (p' := q / 2 ^ o * 2 ^ o) hp (by rw [Nat.mul_mod_left]) z (by omega)) (fun q => q)
theorem blk_ra {p q o : Nat} (hp : p % 2 ^ o = 0) (h1 : p ≤ q) (h2 : q < p + 2 ^ o) : ra K q (o + 1) = ra K p (o + 1) := by
  have e := blk_al hp h1 h2
  have e2 : p / 2 ^ o * 2 ^ o = p := Nat.div_mul_cancel (Nat.dvd_of_mod_eq_zero hp)
  unfold ra
  rw [← al_al q o, ← al_al p o, e, e2]
theorem fo_ge {p o : Nat} (ho : o ≤ 8) (h : ra K p o = true) : o ≤ fo K p := by
  rcases Nat.lt_or_ge (fo K p) o with z | z
  · rw [fo_f z (by omega)] at h; cases h
  · exact z
theorem fo_eq {p o : Nat} (hp : p < 256) (h0 : K p = 0) (ho : o ≤ 8) (h : ra K p o = true) : fo K p = o ↔ ra K p (o + 1) = false := by
  constructor
  · intro e
    exact fo_f (by omega) (by omega)
  · intro e
    have h1 := fo_ge ho h
    rcases Nat.lt_or_ge o (fo K p) with z | z
    · have := ra_le (K := K) (o := o + 1) (n := fo K p) z (fo_t hp h0)
      rw [e] at this; cases this
    · omega
def P3 (K : Nat → Nat) (S2 F2 : Nat → Int32) (o p : Nat) (so fi fr : Nat → Int32) : Prop := ∀ q, q < 256 → ((K q = 0 ∧ (o < fo K q ∨ (fo K q = o ∧ q < p))) → fr q = nI (fo K q) ∧ so q = nI (fo K q) ∧ fi q = nI (q / 2 ^ fo K q * 2 ^ fo K q)) ∧ (¬ (K q = 0 ∧ (o < fo K q ∨ (fo K q = o ∧ q < p))) → fr q = -1 ∧ so q = S2 q ∧ fi q = F2 q)
theorem map3_p {post : (Nat → Int32) → (Nat → Int32) → (Nat → Int32) → (Nat → Int32) → (Nat → Int32) → Prop} {ml mk bl S2 F2 : Nat → Int32} {J : Int32 → (Nat → Int32) → (Nat → Int32) → (Nat → Int32) → (Nat → Int32) → (Nat → Int32) → Prop} (hm : ∀ q, q < 256 → mk q = nI (K q)) (hk : ∀ p, K p ≤ 4) {o : Nat} (ho : o ≤ 8) (hJ : ∀ so fi fr, P3 K S2 F2 o 256 so fi fr → J (nI o + (-1)) mk so fi bl fr) :
    ∀ (d p : Nat) (so fi fr : Nat → Int32), p % 2 ^ o = 0 → p + d * 2 ^ o = 256 → P3 K S2 F2 o p so fi fr → wX3_map_210 post nw ml J (d + 1) (nI o) (nI p) mk so fi bl fr := by
  have h2 := p2le ho
  intro d
  induction d with
  | zero =>
    intro p so fi fr hp hd h3
    have e : p = 256 := by omega
    subst e
    unfold wX3_map_210
    refine pk_le 256 256 (fun _ => ?_) (fun g => absurd g (by omega)) rfl rfl (by omega) (by omega)
    intro x hx
    rw [hx]
    exact hJ so fi fr h3
  | succ d ih =>
    intro p so fi fr hp hd h3
    rw [Nat.add_mul, Nat.one_mul] at hd
    unfold wX3_map_210
    refine pk_le 256 p (fun g => absurd g (by omega)) (fun _ => ?_) rfl rfl (by omega) (by omega)
    rw [shl1 o (by omega), nI_add]
    refine e_areFree hm hk (by omega) ho (br_b (fun g => ?_) (fun g => ⟨pk_in p 256 (by omega), ?_⟩))
    · intro x hx
      rw [hx]
      refine ih (p + 2 ^ o) so fi fr (p2dvd hp) (by omega) (fun q hq => ?_)
      obtain ⟨a1, a2⟩ := h3 q hq
      have key : (K q = 0 ∧ (o < fo K q ∨ (fo K q = o ∧ q < p + 2 ^ o))) ↔ (K q = 0 ∧ (o < fo K q ∨ (fo K q = o ∧ q < p))) := by
        constructor
        · rintro ⟨z0, z1 | ⟨z1, z2⟩⟩
          · exact ⟨z0, Or.inl z1⟩
          · refine ⟨z0, Or.inr ⟨z1, ?_⟩⟩
            rcases Nat.lt_or_ge q p with w | w
            · exact w
            · exfalso
              have hr := fo_t hq z0
              rw [z1] at hr
              unfold ra at hr
              rw [blk_al hp w z2, g] at hr
              cases hr
        · rintro ⟨z0, z1 | ⟨z1, z2⟩⟩
          · exact ⟨z0, Or.inl z1⟩
          · exact ⟨z0, Or.inr ⟨z1, by omega⟩⟩
      rw [key]; exact ⟨a1, a2⟩
    · rw [nI_clamp (by omega)]
      have hKz : ∀ q, p ≤ q → q < p + 2 ^ o → K q = 0 := fun q w1 w2 => by
        have := (rn_iff.mp g).2 (q - p) (by omega)
        rwa [show p + (q - p) = q by omega] at this
      have hraq : ∀ q, p ≤ q → q < p + 2 ^ o → ra K q o = true := fun q w1 w2 => by
        unfold ra; rw [blk_al hp w1 w2]; exact g
      have hp0 := hKz p (by omega) (by omega)
      by_cases hf : fo K p = o
      · have hfr : fr p = -1 := ((h3 p (by omega)).2 (fun z => by omega)).1
        refine ⟨fun _ => ?_, fun z => absurd hfr z⟩
        have hall : ∀ q, p ≤ q → q < p + 2 ^ o → fo K q = o := fun q w1 w2 => by
          refine (fo_eq (by omega) (hKz q w1 w2) ho (hraq q w1 w2)).mpr ?_
          rw [blk_ra hp w1 w2]
          exact (fo_eq (by omega) hp0 ho (hraq p (by omega) (by omega))).mp hf
        have st : ∀ (e i : Nat) (so' fi' fr' : Nat → Int32), i + e = 2 ^ o → (∀ q, (p ≤ q ∧ q < p + i → so' q = nI o ∧ fi' q = nI p ∧ fr' q = nI o) ∧ (¬ (p ≤ q ∧ q < p + i) → so' q = so q ∧ fi' q = fi q ∧ fr' q = fr q)) → wX3_map_243 post nw ml J (wX3_map_210 post nw ml J (d + 1)) (e + 1) (nI o) (nI p) (nI i) mk so' fi' bl fr' := by
          intro e
          induction e with
          | zero =>
            intro i so' fi' fr' hi hq
            unfold wX3_map_243
            rw [shl1 o (by omega), nI_add]
            refine pk_le (2 ^ o) i (fun _ => ?_) (fun g => absurd g (by omega)) rfl rfl (by omega) (by omega)
            intro x hx
            rw [hx]
            refine ih (p + 2 ^ o) so' fi' fr' (p2dvd hp) (by omega) (fun q hq' => ?_)
            obtain ⟨b1, b2⟩ := hq q
            obtain ⟨a1, a2⟩ := h3 q hq'
            by_cases w : p ≤ q ∧ q < p + i
            · have fq := hall q w.1 (by omega)
              obtain ⟨c1, c2, c3⟩ := b1 w
              refine ⟨fun _ => ?_, fun z => absurd ⟨hKz q w.1 (by omega), Or.inr ⟨fq, by omega⟩⟩ z⟩
              rw [fq, blk_al hp w.1 (by omega)]
              exact ⟨c3, c1, c2⟩
            · obtain ⟨c1, c2, c3⟩ := b2 w
              rw [c1, c2, c3]
              refine ⟨fun z => a1 ⟨z.1, ?_⟩, fun z => a2 (fun z2 => z ⟨z2.1, ?_⟩)⟩
              · rcases z.2 with y | y
                · exact Or.inl y
                · exact Or.inr ⟨y.1, by omega⟩
              · rcases z2.2 with y | y
                · exact Or.inl y
                · exact Or.inr ⟨y.1, by omega⟩
          | succ e ihe =>
            intro i so' fi' fr' hi hq
            unfold wX3_map_243
            rw [shl1 o (by omega), nI_add p (2 ^ o), nI_add p i]
            refine pk_le (2 ^ o) i (fun g => absurd g (by omega)) (fun _ => ⟨pk_in (p + i) 256 (by omega), pk_in (p + i) 256 (by omega), pk_in (p + i) 256 (by omega), ?_⟩) rfl rfl (by omega) (by omega)
            intro x hx
            rw [hx, nI_1, nI_clamp (by omega)]
            refine ihe (i + 1) _ _ _ (by omega) (fun q => ?_)
            obtain ⟨b1, b2⟩ := hq q
            by_cases z : q = p + i
            · rw [z, pk_us, pk_us, pk_us]
              exact ⟨fun _ => ⟨rfl, rfl, rfl⟩, fun w => absurd ⟨by omega, by omega⟩ w⟩
            · rw [pk_un z, pk_un z, pk_un z]
              exact ⟨fun w => b1 (by omega), fun w => b2 (by omega)⟩
        exact ⟨_, st (2 ^ o) 0 so fi fr (by omega) (fun q => ⟨fun w => absurd w (by omega), fun _ => ⟨rfl, rfl, rfl⟩⟩)⟩
      · have hgt : o < fo K p := by
          have := fo_ge ho (hraq p (by omega) (by omega))
          omega
        have h8 := fo_le (K := K) p
        have hfr : fr p = nI (fo K p) := ((h3 p (by omega)).1 ⟨hp0, Or.inl hgt⟩).1
        rw [hfr]
        refine ⟨fun z => absurd z (nI_m1 _ (by omega)), fun _ => ?_⟩
        intro x hx
        rw [hx]
        refine ih (p + 2 ^ o) so fi fr (p2dvd hp) (by omega) (fun q hq => ?_)
        obtain ⟨a1, a2⟩ := h3 q hq
        have key : (K q = 0 ∧ (o < fo K q ∨ (fo K q = o ∧ q < p + 2 ^ o))) ↔ (K q = 0 ∧ (o < fo K q ∨ (fo K q = o ∧ q < p))) := by
          constructor
          · rintro ⟨z0, z1 | ⟨z1, z2⟩⟩
            · exact ⟨z0, Or.inl z1⟩
            · refine ⟨z0, Or.inr ⟨z1, ?_⟩⟩
              rcases Nat.lt_or_ge q p with w | w
              · exact w
              · exfalso
                have e1 := (fo_eq hq z0 ho (hraq q w z2)).mp z1
                rw [blk_ra hp w z2] at e1
                exact hf ((fo_eq (by omega) hp0 ho (hraq p (by omega) (by omega))).mpr e1)
          · rintro ⟨z0, z1 | ⟨z1, z2⟩⟩
            · exact ⟨z0, Or.inl z1⟩
            · exact ⟨z0, Or.inr ⟨z1, by omega⟩⟩
        rw [key]; exact ⟨a1, a2⟩
theorem map3 {post : (Nat → Int32) → (Nat → Int32) → (Nat → Int32) → (Nat → Int32) → (Nat → Int32) → Prop} {ml mk bl S2 F2 : Nat → Int32} (hm : ∀ q, q < 256 → mk q = nI (K q)) (hk : ∀ p, K p ≤ 4) (h : ∀ so fi fr, P3 K S2 F2 0 256 so fi fr → post mk so fi bl fr) :
    ∀ (o : Nat) (so fi fr : Nat → Int32), o ≤ 8 → P3 K S2 F2 o 0 so fi fr → wX3_map_204 post nw ml (o + 2) (nI o) mk so fi bl fr := by
  intro o
  induction o with
  | zero =>
    intro so fi fr ho h3
    unfold wX3_map_204
    refine pk_lt 0 0 (fun g => absurd g (by omega)) (fun _ => ⟨257, map3_p hm hk (by omega) (fun so fi fr h3 => ?_) 256 0 so fi fr (by simp) (by simp) h3⟩) rfl rfl (by omega) (by omega)
    unfold wX3_map_204
    exact ⟨fun _ => h so fi fr h3, fun g => absurd (by decide) g⟩
  | succ o ih =>
    intro so fi fr ho h3
    have h2 := p2le ho
    unfold wX3_map_204
    have hd : 256 / 2 ^ (o + 1) * 2 ^ (o + 1) = 256 := (show ∀ o, o ≤ 8 → 256 / 2 ^ o * 2 ^ o = 256 by decide) (o + 1) ho
    refine pk_lt (o + 1) 0 (fun g => absurd g (by omega)) (fun _ => ⟨_, map3_p hm hk ho (fun so fi fr h3 => ?_) (256 / 2 ^ (o + 1)) 0 so fi fr (by simp) (by omega) h3⟩) rfl rfl (by omega) (by omega)
    rw [pk_m1]
    refine ih so fi fr (by omega) (fun q hq => ?_)
    obtain ⟨a1, a2⟩ := h3 q hq
    refine ⟨fun z => a1 ⟨z.1, ?_⟩, fun z => a2 (fun z2 => z ⟨z2.1, ?_⟩)⟩
    · rcases z.2 with y | y
      · by_cases e : fo K q = o + 1
        · exact Or.inr ⟨e, hq⟩
        · exact Or.inl (by omega)
      · exact absurd y.2 (by omega)
    · rcases z2.2 with y | y
      · exact Or.inl (by omega)
      · exact Or.inl (by omega)
end PM
