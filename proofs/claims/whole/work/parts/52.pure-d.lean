/-! PURE D: counting, the list of the live blocks -/
def cnt (P : Nat → Bool) : Nat → Nat
  | 0 => 0
  | n + 1 => cnt P n + (if P n = true then 1 else 0)
theorem cnt_s (P : Nat → Bool) (n : Nat) : cnt P (n + 1) = cnt P n + (if P n = true then 1 else 0) := rfl
theorem cnt_t {P : Nat → Bool} {n : Nat} (h : P n = true) : cnt P (n + 1) = cnt P n + 1 := by rw [cnt_s, if_pos h]
theorem cnt_f {P : Nat → Bool} {n : Nat} (h : P n = false) : cnt P (n + 1) = cnt P n := by rw [cnt_s, h]; rfl
theorem cnt_le {P : Nat → Bool} {a b : Nat} (h : a ≤ b) : cnt P a ≤ cnt P b := by
  induction b with
  | zero => rw [show a = 0 by omega]; exact Nat.le_refl _
  | succ b ih =>
    by_cases e : a = b + 1
    · rw [e]; exact Nat.le_refl _
    · have := ih (by omega)
      rw [cnt_s]; omega
theorem cnt_skip {P : Nat → Bool} {a b : Nat} (h : a ≤ b) (hn : ∀ x, a ≤ x → x < b → P x = false) : cnt P b = cnt P a := by
  induction b with
  | zero => rw [show a = 0 by omega]
  | succ b ih =>
    by_cases e : a = b + 1
    · rw [e]
    · rw [cnt_f (hn b (by omega) (by omega))]
      exact ih (by omega) (fun x h1 h2 => hn x h1 (by omega))
theorem cnt_lt {P : Nat → Bool} {a m : Nat} (h : P a = true) (hm : a < m) : cnt P a < cnt P m := by
  have h1 : cnt P (a + 1) ≤ cnt P m := cnt_le hm
  rw [cnt_t h] at h1
  omega
theorem cnt_inv {P : Nat → Bool} {j : Nat} : ∀ {m : Nat}, j < cnt P m → ∃ a, a < m ∧ P a = true ∧ cnt P a = j := by
  intro m
  induction m with
  | zero => intro h; exact absurd h (by unfold cnt; omega)
  | succ m ih =>
    intro h
    by_cases g : P m = true
    · rw [cnt_t g] at h
      by_cases e : j = cnt P m
      · exact ⟨m, by omega, g, e.symm⟩
      · obtain ⟨a, h1, h2, h3⟩ := ih (by omega)
        exact ⟨a, by omega, h2, h3⟩
    · rw [cnt_f (Bool.eq_false_iff.mpr g)] at h
      obtain ⟨a, h1, h2, h3⟩ := ih h
      exact ⟨a, by omega, h2, h3⟩
/-- a sum over the places where P holds -/
def sumL (P : Nat → Bool) (f : Nat → Nat) : Nat → Nat
  | 0 => 0
  | n + 1 => sumL P f n + (if P n = true then f n else 0)
theorem sumL_s (P : Nat → Bool) (f : Nat → Nat) (n : Nat) : sumL P f (n + 1) = sumL P f n + (if P n = true then f n else 0) := rfl
theorem sumL_skip {P : Nat → Bool} {f : Nat → Nat} {a b : Nat} (h : a ≤ b) (hn : ∀ x, a ≤ x → x < b → P x = false) : sumL P f b = sumL P f a := by
  induction b with
  | zero => rw [show a = 0 by omega]
  | succ b ih =>
    by_cases e : a = b + 1
    · rw [e]
    · rw [sumL_s, hn b (by omega) (by omega)]
      exact ih (by omega) (fun x h1 h2 => hn x h1 (by omega))
theorem sumL_le {P : Nat → Bool} {f : Nat → Nat} {N : Nat} (hf : ∀ x, f x ≤ N) : ∀ m, sumL P f m ≤ cnt P m * N := by
  intro m
  induction m with
  | zero => exact Nat.zero_le _
  | succ m ih =>
    rw [sumL_s, cnt_s]
    have := hf m
    by_cases g : P m = true
    · rw [if_pos g, if_pos g, Nat.add_mul]; omega
    · rw [if_neg g, if_neg g, Nat.add_zero, Nat.add_zero]; exact ih
section PD
variable {K F B : Nat → Nat}
/-- the places of a page's slots -/
theorem LV_slot (hI : PI K F B) {p s : Nat} (hp : p < 256) (hs : s < 16 / stp K F p) : LV K F B (p * 16 + s * stp K F p) = bt (B p) s := by
  have h16 := hI.st p
  have h0 : 0 < stp K F p := by
    rcases Nat.eq_zero_or_pos (stp K F p) with e | e
    · rw [e] at hs; exact absurd hs (by simp)
    · exact e
  have h1 : s * stp K F p < 16 := by
    have h2 : (s + 1) * stp K F p ≤ 16 / stp K F p * stp K F p := Nat.mul_le_mul_right _ hs
    have h3 := Nat.div_mul_le_self 16 (stp K F p)
    rw [Nat.add_mul, Nat.one_mul] at h2
    omega
  unfold LV
  rw [show (p * 16 + s * stp K F p) / 16 = p by omega, show (p * 16 + s * stp K F p) % 16 = s * stp K F p by omega, Nat.mul_mod_left, Nat.mul_div_cancel _ h0, decide_eq_true (by exact ⟨by omega, h0, rfl, hs⟩), Bool.true_and]
/-- between the slots of a page nothing lives -/
theorem LV_gap {p s x : Nat} (hs : s < 16 / stp K F p) (h0 : 0 < stp K F p) (h1 : p * 16 + s * stp K F p < x) (h2 : x < p * 16 + (s + 1) * stp K F p) (h3 : x < p * 16 + 16) : LV K F B x = false := by
  rw [Bool.eq_false_iff]
  intro q
  obtain ⟨-, -, h5, -⟩ := LV_iff.mp q
  rw [show x / 16 = p by omega] at h5
  exact mult_gap (m := stp K F p) (p := s * stp K F p) (p' := x % 16) (by rw [Nat.mul_mod_left]) h5 (by omega) (by rw [Nat.add_mul, Nat.one_mul] at h2; omega)
theorem LV_rest {p x : Nat} (h1 : p * 16 + 16 / stp K F p * stp K F p ≤ x) (h3 : x < p * 16 + 16) : LV K F B x = false := by
  rw [Bool.eq_false_iff]
  intro q
  obtain ⟨-, h0, h5, h6, -⟩ := LV_iff.mp q
  rw [show x / 16 = p by omega] at h0 h5 h6
  have h7 : x % 16 / stp K F p * stp K F p = x % 16 := Nat.div_mul_cancel (Nat.dvd_of_mod_eq_zero h5)
  have h8 : (x % 16 / stp K F p + 1) * stp K F p ≤ 16 / stp K F p * stp K F p := Nat.mul_le_mul_right _ h6
  rw [Nat.add_mul, Nat.one_mul, h7] at h8
  omega
theorem slots_le (hI : PI K F B) (p : Nat) : 16 / stp K F p ≤ 8 := by
  by_cases h1 : K p = 1
  · have := hI.st1 h1
    rw [this.1]
    rcases (hI.s1 h1).1 with e | e | e | e | e <;> rw [e] <;> decide
  · by_cases h2 : K p = 2
    · rw [stp2 h2]; decide
    · rw [stp0 h1 h2]; decide
/-- the rows that hold the live blocks in their order -/
def RW (P : Nat → Bool) (m : Nat) (ro : Nat → Int32) : Prop := ∀ a, a < m → P a = true → ro (cnt P a) = nI a
theorem e_listLive {post : Int32 → (Nat → Int32) → Prop} {ro : Nat → Int32} (hI : PI K F B) (h : ∀ ro', RW (LV K F B) 4096 ro' → cnt (LV K F B) 4096 ≤ 2040 → post (nI (cnt (LV K F B) 4096)) ro') : wX2_listLive post ro (nn K) (nn F) (nn B) := by
  have inner : ∀ (J : Int32 → Int32 → (Nat → Int32) → Prop) (p : Nat), 1 ≤ p → p < 256 →
      (∀ ro', RW (LV K F B) (p * 16 + 16) ro' → cnt (LV K F B) (p * 16 + 16) ≤ 8 * p → J (nI (cnt (LV K F B) (p * 16 + 16))) (nI (p + 1)) ro') →
      ∀ (d s : Nat) (ro : Nat → Int32), s + d = 16 / stp K F p → RW (LV K F B) (p * 16 + s * stp K F p) ro → cnt (LV K F B) (p * 16 + s * stp K F p) ≤ 8 * (p - 1) + s →
        wX2_listLive_23 post (nn K) (nn F) (nn B) J (d + 1) (nI (cnt (LV K F B) (p * 16 + s * stp K F p))) (nI p) (nI (16 / stp K F p)) (nI s) ro := by
    intro J p hp1 hp hJ d
    have hsl := slots_le hI p
    induction d with
    | zero =>
      intro s ro hs hr hc
      unfold wX2_listLive_23
      refine pk_le (16 / stp K F p) s (fun _ => ?_) (fun g => absurd g (by omega)) rfl rfl (by omega) (by omega)
      intro x hx
      rw [hx, nI_1]
      have hse : s = 16 / stp K F p := by omega
      have hle : p * 16 + s * stp K F p ≤ p * 16 + 16 := by
        have := Nat.div_mul_le_self 16 (stp K F p)
        rw [hse]; omega
      have ec : cnt (LV K F B) (p * 16 + 16) = cnt (LV K F B) (p * 16 + s * stp K F p) := cnt_skip hle (fun x h1 h2 => LV_rest (p := p) (by rw [← hse]; exact h1) h2)
      rw [← ec]
      refine hJ ro (fun a ha hl => ?_) (by omega)
      rcases Nat.lt_or_ge a (p * 16 + s * stp K F p) with z | z
      · exact hr a z hl
      · rw [LV_rest (p := p) (by rw [← hse]; exact z) ha] at hl; cases hl
    | succ d ih =>
      intro s ro hs hr hc
      have hss : s < 16 / stp K F p := by omega
      have h0 : 0 < stp K F p := by
        rcases Nat.eq_zero_or_pos (stp K F p) with e | e
        · rw [e] at hss; exact absurd hss (by simp)
        · exact e
      have hlv := LV_slot hI hp hss
      have hle : p * 16 + (s + 1) * stp K F p ≤ p * 16 + 16 := by
        have h2 : (s + 1) * stp K F p ≤ 16 / stp K F p * stp K F p := Nat.mul_le_mul_right _ hss
        have h3 := Nat.div_mul_le_self 16 (stp K F p)
        omega
      have hnx : p * 16 + s * stp K F p + 1 ≤ p * 16 + (s + 1) * stp K F p := by rw [Nat.add_mul, Nat.one_mul]; omega
      have hgap : ∀ x, p * 16 + s * stp K F p + 1 ≤ x → x < p * 16 + (s + 1) * stp K F p → LV K F B x = false := fun x h1 h2 => LV_gap hss h0 (by omega) h2 (by omega)
      have ec : cnt (LV K F B) (p * 16 + (s + 1) * stp K F p) = cnt (LV K F B) (p * 16 + s * stp K F p + 1) := cnt_skip hnx hgap
      unfold wX2_listLive_23
      refine pk_le (16 / stp K F p) s (fun g => absurd g (by omega)) (fun _ => ?_) rfl rfl (by omega) (by omega)
      refine e_blockIn hI hp (by omega) ?_
      by_cases g : bt (B p) s = true
      · rw [if_pos g]
        rw [g] at hlv
        rw [cnt_t hlv] at ec
        refine ⟨fun z => absurd z (nI_m1 _ (by omega)), fun _ => ?_⟩
        refine pk_le 2040 (cnt (LV K F B) (p * 16 + s * stp K F p)) (fun z => absurd z (by omega)) (fun _ => ⟨pk_in _ 2040 (by omega), ?_⟩) rfl rfl (by omega) (by omega)
        intro x1 hx1 x4 hx4
        rw [hx1, hx4, nI_1, nI_1, ← ec, nI_clamp (by omega)]
        refine ih (s + 1) _ (by omega) (fun a ha hl => ?_) (by omega)
        rcases Nat.lt_trichotomy a (p * 16 + s * stp K F p) with z | z | z
        · have := cnt_lt hl z
          rw [pk_un (by omega)]
          exact hr a z hl
        · rw [z, pk_us]
        · rw [hgap a (by omega) ha] at hl; cases hl
      · have g' : bt (B p) s = false := Bool.eq_false_iff.mpr g
        rw [if_neg g]
        rw [g'] at hlv
        rw [cnt_f hlv] at ec
        refine ⟨fun _ => ?_, fun z => absurd rfl z⟩
        intro x4 hx4
        rw [hx4, nI_1, ← ec]
        refine ih (s + 1) _ (by omega) (fun a ha hl => ?_) (by omega)
        rcases Nat.lt_trichotomy a (p * 16 + s * stp K F p) with z | z | z
        · exact hr a z hl
        · rw [z, hlv] at hl; cases hl
        · rw [hgap a (by omega) ha] at hl; cases hl
  have outer : ∀ (d p : Nat) (ro : Nat → Int32), p + d = 256 → 1 ≤ p → RW (LV K F B) (p * 16) ro → cnt (LV K F B) (p * 16) ≤ 8 * (p - 1) → wX2_listLive_4 post (nn K) (nn F) (nn B) (d + 1) (nI (cnt (LV K F B) (p * 16))) (nI p) ro := by
    intro d
    induction d with
    | zero =>
      intro p ro hp h1 hr hc
      have e : p = 256 := by omega
      subst e
      unfold wX2_listLive_4
      exact pk_le 256 256 (fun _ => h ro hr (by omega)) (fun g => absurd g (by omega)) rfl rfl (by omega) (by omega)
    | succ d ih =>
      intro p ro hp h1 hr hc
      unfold wX2_listLive_4
      refine pk_le 256 p (fun g => absurd g (by omega)) (fun _ => ?_) rfl rfl (by omega) (by omega)
      refine e_slotsOf hI (by omega) ⟨16 / stp K F p + 1, ?_⟩
      have := inner (wX2_listLive_4 post (nn K) (nn F) (nn B) (d + 1)) p h1 (by omega) (fun ro' hr' hc' => ?_) (16 / stp K F p) 0 ro (by omega) (by rw [Nat.zero_mul, Nat.add_zero]; exact hr) (by rw [Nat.zero_mul, Nat.add_zero]; omega)
      · rw [Nat.zero_mul, Nat.add_zero] at this; exact this
      · have := ih (p + 1) ro' (by omega) (by omega) (by rw [Nat.add_mul, Nat.one_mul]; exact hr') (by rw [Nat.add_mul, Nat.one_mul]; omega)
        rw [Nat.add_mul, Nat.one_mul] at this
        exact this
  have c16 : cnt (LV K F B) (1 * 16) = 0 := by
    have e : cnt (LV K F B) 16 = cnt (LV K F B) 0 := cnt_skip (by omega) (fun x _ h2 => by
      rw [Bool.eq_false_iff]
      exact fun q => absurd (LV_ge hI q).1 (by omega))
    exact e
  refine ⟨256, ?_⟩
  have := outer 255 1 ro rfl (by omega) (fun a ha hl => absurd (LV_ge hI hl).1 (by omega)) (by rw [c16]; omega)
  rw [c16] at this
  exact this
end PD
