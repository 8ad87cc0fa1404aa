/-! PURE C: runs of free pages, the reads of the pages -/
theorem shm31 : ∀ n, n < 32 → ((nI n &&& 31).toBitVec.smod 32).toNat = n := by decide +kernel
theorem al_v {p o : Nat} (hp : p < 4096) (ho : o ≤ 8) : ((nI p >>> (nI o &&& 31)) <<< (nI o &&& 31)) = nI (p / 2 ^ o * 2 ^ o) := by
  have h1 : p / 2 ^ o * 2 ^ o ≤ p := Nat.div_mul_le_self p (2 ^ o)
  rw [pk_shrN (by omega) _ o (shm31 o (by omega)), pk_shlN _ o (shm31 o (by omega)) (by omega)]
theorem e_alignedTo {post : Int32 → Prop} {p o : Nat} (hp : p < 4096) (ho : o ≤ 8) (h : post (nI (p / 2 ^ o * 2 ^ o))) : wX0_alignedTo post (nI p) (nI o) := by
  unfold wX0_alignedTo
  refine e_isOrder_t ho ⟨fun h => absurd h (by decide), fun _ => ?_⟩
  rw [al_v hp ho]; exact h
theorem e_alignedTo_f {post : Int32 → Prop} {x y : Int32} (hx : x < 0 ∨ 8 < x) (h : post y) : wX0_alignedTo post y x := by
  unfold wX0_alignedTo
  exact e_isOrder_f hx ⟨fun _ => h, fun g => absurd rfl g⟩
def rn (K : Nat → Nat) (p o : Nat) : Bool := decide (p + 2 ^ o ≤ 256 ∧ ∀ i, i < 2 ^ o → K (p + i) = 0)
theorem rn_iff {K : Nat → Nat} {p o : Nat} : rn K p o = true ↔ p + 2 ^ o ≤ 256 ∧ ∀ i, i < 2 ^ o → K (p + i) = 0 := by unfold rn; rw [decide_eq_true_iff]
theorem p2le {o : Nat} (h : o ≤ 8) : 1 ≤ 2 ^ o ∧ 2 ^ o ≤ 256 := ⟨Nat.one_le_two_pow, Nat.pow_le_pow_right (by omega) h⟩
section PC
variable {K F B : Nat → Nat}
theorem e_isFreeRun {post : Int32 → Prop} {p o : Nat} (hk : ∀ p, K p ≤ 4) (hp : p < 256) (ho : o ≤ 8) (h : post (bI (rn K p o))) : wX0_isFreeRun post (nn K) (nI p) (nI o) := by
  have h2 := p2le ho
  unfold wX0_isFreeRun
  refine e_isOrder_t ho ⟨fun h => absurd h (by decide), fun _ => pk_lt p 0 (fun h => absurd h (by omega)) (fun _ => ?_)⟩
  rw [shl1 o (by omega), nI_add]
  refine pk_le (p + 2 ^ o) 256 (fun g => ?_) (fun g => ?_) rfl rfl (by omega) (by omega)
  · intro x hx
    rw [hx]
    have st : ∀ d i : Nat, i + d = 2 ^ o → (∀ j, j < i → K (p + j) = 0) → wX0_isFreeRun_31 post (nn K) (d + 1) (nI p) (nI (2 ^ o)) (nI i) := by
      intro d
      induction d with
      | zero =>
        intro i hi hj
        unfold wX0_isFreeRun_31
        refine pk_le (2 ^ o) i (fun _ => ?_) (fun g => absurd g (by omega)) rfl rfl (by omega) (by omega)
        have e : rn K p o = true := rn_iff.mpr ⟨g, fun j h => hj j (by omega)⟩
        rw [e] at h; exact h
      | succ d ih =>
        intro i hi hj
        unfold wX0_isFreeRun_31
        refine pk_le (2 ^ o) i (fun g => absurd g (by omega)) (fun _ => ?_) rfl rfl (by omega) (by omega)
        rw [nI_add]
        have hk' := hk (p + i)
        refine e_kindOf (by omega) (pk_eq (K (p + i)) 0 (fun z => ?_) (fun z => ?_) rfl rfl (by omega) (by omega))
        · intro y hy
          rw [hy, nI_1]
          refine ih (i + 1) (by omega) (fun j hj' => ?_)
          by_cases e : j = i
          · rw [e]; exact z
          · exact hj j (by omega)
        · have e : rn K p o = false := by
            rw [Bool.eq_false_iff]
            exact fun q => z ((rn_iff.mp q).2 i (by omega))
          rw [e] at h; exact h
    exact ⟨_, st (2 ^ o) 0 (by omega) (fun j h => absurd h (by omega))⟩
  · have e : rn K p o = false := by
      rw [Bool.eq_false_iff]
      exact fun q => absurd (rn_iff.mp q).1 (by omega)
    rw [e] at h; exact h
theorem e_isFreeRun_f {post : Int32 → Prop} {kd : Nat → Int32} {x y : Int32} (hx : x < 0 ∨ 8 < x) (h : post 0) : wX0_isFreeRun post kd y x := by
  unfold wX0_isFreeRun
  exact e_isOrder_f hx ⟨fun _ => h, fun g => absurd rfl g⟩
def fe (K : Nat → Nat) (p o : Nat) : Bool := rn K p o && !rn K (p / 2 ^ (o + 1) * 2 ^ (o + 1)) (o + 1)
theorem rn9 (p : Nat) : rn K p 9 = false := by
  rw [Bool.eq_false_iff]
  intro q
  have := (rn_iff.mp q).1
  have e : (2 : Nat) ^ 9 = 512 := by decide
  omega
theorem e_isFreeExtent {post : Int32 → Prop} {p o : Nat} (hk : ∀ p, K p ≤ 4) (hp : p < 256) (ho : o ≤ 8) (h : post (bI (fe K p o))) : wX0_isFreeExtent post (nn K) (nI p) (nI o) := by
  unfold wX0_isFreeExtent
  unfold fe at h
  refine e_isFreeRun hk hp ho (br_b (fun g => ?_) (fun g => ?_))
  · rw [g, Bool.false_and] at h; exact h
  · rw [g, Bool.true_and] at h
    rw [nI_1]
    by_cases h8 : o = 8
    · subst h8
      refine e_alignedTo_f (Or.inr (by decide)) (e_isFreeRun_f (Or.inr (by decide)) ⟨fun g => absurd rfl g, fun _ => ?_⟩)
      rw [rn9] at h; exact h
    · have h1 : p / 2 ^ (o + 1) * 2 ^ (o + 1) ≤ p := Nat.div_mul_le_self p _
      refine e_alignedTo (by omega) (by omega) (e_isFreeRun hk (by omega) (by omega) (br_nb (fun g2 => ?_) (fun g2 => ?_)))
      · rw [g2] at h; exact h
      · rw [g2] at h; exact h
/-- the aligned run of order o that has page p -/
def ra (K : Nat → Nat) (p o : Nat) : Bool := rn K (p / 2 ^ o * 2 ^ o) o
theorem al_al (p o : Nat) : p / 2 ^ o * 2 ^ o / 2 ^ (o + 1) * 2 ^ (o + 1) = p / 2 ^ (o + 1) * 2 ^ (o + 1) := by
  have h : p / 2 ^ o * 2 ^ o / 2 ^ (o + 1) = p / 2 ^ (o + 1) := by
    rw [Nat.pow_succ, Nat.mul_comm (2 ^ o) 2, Nat.mul_div_mul_right _ _ (Nat.two_pow_pos o), Nat.div_div_eq_div_mul, Nat.mul_comm (2 ^ o) 2]
  rw [h]
theorem al_split (p o : Nat) : p / 2 ^ o * 2 ^ o = p / 2 ^ (o + 1) * 2 ^ (o + 1) + (p / 2 ^ o % 2) * 2 ^ o := by
  rw [Nat.pow_succ, ← Nat.div_div_eq_div_mul]
  generalize p / 2 ^ o = q
  generalize 2 ^ o = m
  have h : q = q / 2 * 2 + q % 2 := by omega
  rw [Nat.mul_comm m 2, ← Nat.mul_assoc, ← Nat.add_mul]
  rw [← h]
theorem al_idem (p o : Nat) : p / 2 ^ o * 2 ^ o / 2 ^ o * 2 ^ o = p / 2 ^ o * 2 ^ o := by
  rw [Nat.mul_div_cancel _ (Nat.two_pow_pos o)]
theorem al_lt (p o : Nat) : p / 2 ^ o * 2 ^ o ≤ p ∧ p < p / 2 ^ o * 2 ^ o + 2 ^ o := by
  have h1 := Nat.div_add_mod p (2 ^ o)
  have h2 := Nat.mod_lt p (Nat.two_pow_pos o)
  rw [Nat.mul_comm] at h1
  omega
theorem ra_dn {p o : Nat} (h : ra K p (o + 1) = true) : ra K p o = true := by
  unfold ra at h ⊢
  obtain ⟨h1, h2⟩ := rn_iff.mp h
  have hs := al_split p o
  have hp : 2 ^ (o + 1) = 2 ^ o * 2 := Nat.pow_succ 2 o
  have hq : p / 2 ^ o % 2 < 2 := Nat.mod_lt _ (by omega)
  have hm : p / 2 ^ o % 2 * 2 ^ o ≤ 2 ^ o := by
    rcases (show p / 2 ^ o % 2 = 0 ∨ p / 2 ^ o % 2 = 1 by omega) with e | e <;> rw [e] <;> omega
  refine rn_iff.mpr ⟨by omega, fun i hi => ?_⟩
  rw [hs, Nat.add_assoc]
  exact h2 _ (by omega)
theorem ra_le {p : Nat} : ∀ {o n : Nat}, o ≤ n → ra K p n = true → ra K p o = true := by
  intro o n h g
  induction n with
  | zero => rw [show o = 0 by omega]; exact g
  | succ n ih =>
    by_cases e : o = n + 1
    · rw [e]; exact g
    · exact ih (by omega) (ra_dn g)
def mx (K : Nat → Nat) (p : Nat) : Nat → Nat
  | 0 => 0
  | n + 1 => if ra K p (n + 1) = true then n + 1 else mx K p n
theorem mx_le (p : Nat) : ∀ n, mx K p n ≤ n := by
  intro n
  induction n with
  | zero => exact Nat.le_refl 0
  | succ n ih => unfold mx; split <;> omega
theorem mx_t {p : Nat} (h0 : ra K p 0 = true) : ∀ n, ra K p (mx K p n) = true := by
  intro n
  induction n with
  | zero => exact h0
  | succ n ih =>
    unfold mx
    split
    · assumption
    · exact ih
theorem mx_f {p o : Nat} : ∀ n, mx K p n < o → o ≤ n → ra K p o = false := by
  intro n
  induction n with
  | zero => intro h1 h2; exact absurd h1 (by omega)
  | succ n ih =>
    intro h1 h2
    unfold mx at h1
    split at h1
    · exact absurd h1 (by omega)
    · rename_i h
      by_cases e : o = n + 1
      · rw [e]; exact Bool.eq_false_iff.mpr h
      · exact ih h1 (by omega)
/-- the order of the free extent that has the free page p -/
def fo (K : Nat → Nat) (p : Nat) : Nat := mx K p 8
theorem fo_le (p : Nat) : fo K p ≤ 8 := mx_le p 8
theorem ra_0 {p : Nat} (hp : p < 256) (h : K p = 0) : ra K p 0 = true := by
  unfold ra
  refine rn_iff.mpr ⟨by simp; omega, fun i hi => ?_⟩
  have : i = 0 := by simpa using hi
  subst this
  simpa using h
theorem fo_t {p : Nat} (hp : p < 256) (h : K p = 0) : ra K p (fo K p) = true := mx_t (ra_0 hp h) 8
theorem ra_9 (p : Nat) : ra K p 9 = false := rn9 _
theorem fo_f {p o : Nat} (h : fo K p < o) (ho : o ≤ 9) : ra K p o = false := by
  by_cases e : o = 9
  · rw [e]; exact ra_9 p
  · exact mx_f 8 h (by omega)
theorem fe_al (p o : Nat) : fe K (p / 2 ^ o * 2 ^ o) o = (ra K p o && !ra K p (o + 1)) := by
  unfold fe ra
  rw [al_al]
theorem e_freeOrderAt {post : Int32 → Prop} {p : Nat} (hk : ∀ p, K p ≤ 4) (hp : p < 256) (h0 : K p = 0) (h : post (nI (fo K p))) : wX0_freeOrderAt post (nn K) (nI p) := by
  have h8 := fo_le (K := K) p
  have st : ∀ d i : Nat, i + d = fo K p → wX0_freeOrderAt_2 post (nn K) (d + 1) (nI p) (nI i) := by
    intro d
    induction d with
    | zero =>
      intro i hi
      unfold wX0_freeOrderAt_2
      refine pk_lt 8 i (fun g => absurd g (by omega)) (fun _ => e_alignedTo (by omega) (by omega) (e_isFreeExtent hk ?_ (by omega) ?_))
      · have := (al_lt p i).1; omega
      · rw [fe_al, show i = fo K p by omega, fo_t hp h0, fo_f (o := fo K p + 1) (by omega) (by omega)]
        exact ⟨fun g => absurd g (by decide), fun _ => h⟩
    | succ d ih =>
      intro i hi
      unfold wX0_freeOrderAt_2
      refine pk_lt 8 i (fun g => absurd g (by omega)) (fun _ => e_alignedTo (by omega) (by omega) (e_isFreeExtent hk ?_ (by omega) ?_))
      · have := (al_lt p i).1; omega
      · rw [fe_al, ra_le (o := i + 1) (n := fo K p) (by omega) (fo_t hp h0), Bool.not_true, Bool.and_false]
        refine ⟨fun _ => ?_, fun g => absurd rfl g⟩
        intro x hx
        rw [hx, nI_1]
        exact ih (i + 1) (by omega)
  exact ⟨_, st (fo K p) 0 (by omega)⟩
/-- what 1 of a page -/
def pgv (K F : Nat → Nat) (p : Nat) : Int32 := if K p = 4 then -1 else if K p = 0 then nI (fo K p) else nI (F p)
theorem e_formOf {post : Int32 → Prop} {p : Nat} (hI : PI K F B) (hp : p < 256) (h : post (pgv K F p)) : wX0_formOf post (nn K) (nn F) (nI p) := by
  have hk := hI.k p
  unfold wX0_formOf
  unfold pgv at h
  refine e_isPage_t hp ⟨fun g => absurd g (by decide), fun _ => ⟨pk_in p 256 hp, ?_⟩⟩
  rw [nI_clamp (by omega)]
  refine pk_ne (K p) 4 (fun h4 => ⟨pk_in p 256 hp, ?_⟩) (fun h4 => ?_) rfl rfl (by omega) (by omega)
  · rw [if_neg h4] at h
    refine pk_ne (K p) 0 (fun h0 => ⟨pk_in p 256 hp, ?_⟩) (fun h0 => ?_) rfl rfl (by omega) (by omega)
    · rw [if_neg h0] at h; exact h
    · rw [if_pos h0] at h; exact e_freeOrderAt hI.k hp h0 h
  · rw [if_pos h4] at h; exact h
/-- what 3 of a page -/
def fsv (K F : Nat → Nat) (p : Nat) : Nat := if K p = 1 ∨ K p = 4 then p else if K p = 0 then p / 2 ^ fo K p * 2 ^ fo K p else p / 2 ^ F p * 2 ^ F p
theorem e_firstOf {post : Int32 → Prop} {p : Nat} (hI : PI K F B) (hp : p < 256) (h : post (nI (fsv K F p))) : wX0_firstOf post (nn K) (nn F) (nI p) := by
  have hk := hI.k p
  unfold wX0_firstOf
  unfold fsv at h
  have e16 : (K p = 1 ∨ K p = 4) → wX0_firstOf_16 post (nn K) (nn F) (nI p) := by
    intro g
    rw [if_pos g] at h
    exact ⟨fun q => absurd q (by decide), fun _ => h⟩
  refine e_kindOf hp (pk_eq (K p) 1 (fun g => e16 (Or.inl g)) (fun g1 => pk_ne (K p) 4 (fun g4 => ?_) (fun g => e16 (Or.inr g)) rfl rfl (by omega) (by omega)) rfl rfl (by omega) (by omega))
  rw [if_neg (by omega)] at h
  refine ⟨fun _ => e_formOf hI hp ?_, fun q => absurd rfl q⟩
  unfold pgv
  rw [if_neg g4]
  by_cases h0 : K p = 0
  · rw [if_pos h0] at h ⊢
    exact e_alignedTo (by omega) (fo_le p) h
  · rw [if_neg h0] at h ⊢
    exact e_alignedTo (by omega) (hI.f p) h
theorem e_blocksOn {post : Int32 → Prop} {p : Nat} (hI : PI K F B) (hp : p < 256) (h : post (nI (pop (B p)))) : wX0_blocksOn post (nn B) (nI p) := by
  unfold wX0_blocksOn
  refine e_isPage_t hp ⟨fun g => absurd g (by decide), fun _ => ⟨pk_in p 256 hp, ?_⟩⟩
  rw [nI_clamp (by omega)]
  exact e_bitCount (hI.b p) h
theorem e_blockIn {post : Int32 → Prop} {p s : Nat} (hI : PI K F B) (hp : p < 256) (hs : s < 32) (h : post (if bt (B p) s = true then nI (p * 16 + s * stp K F p) else -1)) : wX0_blockIn post (nn K) (nn F) (nn B) (nI p) (nI s) := by
  unfold wX0_blockIn
  refine e_isTaken (hI.b p) hp hs (br_b (fun g => ?_) (fun g => e_stepOf hI hp ?_))
  · rw [g] at h; exact h
  · rw [if_pos g] at h
    show post (nI p * nI 16 + nI s * nI (stp K F p))
    rw [pk_mul, pk_mul, nI_add]; exact h
theorem e_isSlabOf {post : Int32 → Prop} {p c : Nat} (hI : PI K F B) (hp : p < 256) (hc : c < 100) (h : post (bI (decide (K p = 1 ∧ F p = c)))) : wX0_isSlabOf post (nn K) (nn F) (nI p) (nI c) := by
  have hk := hI.k p
  have hf := hI.f p
  unfold wX0_isSlabOf
  refine e_isPage_t hp ⟨fun g => absurd g (by decide), fun _ => ⟨pk_in p 256 hp, ?_⟩⟩
  rw [nI_clamp (by omega)]
  refine pk_ne (K p) 1 (fun g => ?_) (fun g => ⟨pk_in p 256 hp, ?_⟩) rfl rfl (by omega) (by omega)
  · rw [decide_eq_false (fun q => g q.1)] at h; exact h
  · refine pk_ne (F p) c (fun g2 => ?_) (fun g2 => ?_) rfl rfl (by omega) (by omega)
    · rw [decide_eq_false (fun q => g2 q.2)] at h; exact h
    · rw [decide_eq_true (by exact ⟨g, g2⟩)] at h; exact h
/-- what next() answers of an order: the first extent of the least order that serves -/
def XF (K : Nat → Nat) (q : Nat) (r : Int32) : Prop := (r = -1 ∧ ∀ o p, q ≤ o → o ≤ 8 → p < 256 → p % 2 ^ o = 0 → fe K p o = false) ∨ (∃ o p, q ≤ o ∧ o ≤ 8 ∧ p < 256 ∧ p % 2 ^ o = 0 ∧ fe K p o = true ∧ r = nI p ∧ (∀ o' p', q ≤ o' → o' < o → p' < 256 → p' % 2 ^ o' = 0 → fe K p' o' = false) ∧ ∀ p', p' < p → p' % 2 ^ o = 0 → fe K p' o = false)
theorem XF_one {q : Nat} {r r' : Int32} (h : XF K q r) (h' : XF K q r') : r = r' := by
  rcases h with ⟨e, h⟩ | ⟨o, p, h1, h2, h3, h4, h5, e, h6, h7⟩
  · rcases h' with ⟨e', -⟩ | ⟨o', p', g1, g2, g3, g4, g5, -, -, -⟩
    · rw [e, e']
    · rw [h o' p' g1 g2 g3 g4] at g5; cases g5
  · rcases h' with ⟨-, h'⟩ | ⟨o', p', g1, g2, g3, g4, g5, e', g6, g7⟩
    · rw [h' o p h1 h2 h3 h4] at h5; cases h5
    · have eo : o = o' := by
        rcases Nat.lt_trichotomy o o' with z | z | z
        · rw [g6 o p h1 z h3 h4] at h5; cases h5
        · exact z
        · rw [h6 o' p' g1 z g3 g4] at g5; cases g5
      subst eo
      have ep : p = p' := by
        rcases Nat.lt_trichotomy p p' with z | z | z
        · rw [g7 p z h4] at h5; cases h5
        · exact z
        · rw [h7 p' z g4] at g5; cases g5
      subst ep
      rw [e, e']
theorem p2dvd {o p : Nat} (h : p % 2 ^ o = 0) : (p + 2 ^ o) % 2 ^ o = 0 := by rw [Nat.add_mod_right]; exact h
/-- between two multiples there is none -/
theorem mult_gap {m p p' : Nat} (h : p % m = 0) (h' : p' % m = 0) (h1 : p < p') (h2 : p' < p + m) : False := by
  obtain ⟨a, rfl⟩ := Nat.dvd_of_mod_eq_zero h
  obtain ⟨b, rfl⟩ := Nat.dvd_of_mod_eq_zero h'
  have h3 : a < b := Nat.lt_of_mul_lt_mul_left h1
  have h4 : m * (a + 1) ≤ m * b := Nat.mul_le_mul_left m h3
  rw [Nat.mul_add, Nat.mul_one] at h4
  omega
theorem e_extentFor {post : Int32 → Prop} {q : Nat} (hk : ∀ p, K p ≤ 4) (hq : q ≤ 8) (h : ∀ r, XF K q r → post r) : wX0_extentFor post (nn K) (nI q) := by
  have inner : ∀ (J : Int32 → Prop) (o : Nat), o ≤ 8 → q ≤ o → (∀ o' p', q ≤ o' → o' < o → p' < 256 → p' % 2 ^ o' = 0 → fe K p' o' = false) → ((∀ p', p' < 256 → p' % 2 ^ o = 0 → fe K p' o = false) → J (nI (o + 1))) →
      ∀ (d p : Nat), p % 2 ^ o = 0 → 256 ≤ p + d * 2 ^ o → p ≤ 256 → (∀ p', p' < p → p' % 2 ^ o = 0 → fe K p' o = false) → wX0_extentFor_19 post (nn K) J (d + 1) (nI o) (nI p) := by
    intro J o ho hqo hlow hJ d
    have h2 := p2le ho
    induction d with
    | zero =>
      intro p hp hd hle hpre
      unfold wX0_extentFor_19
      refine pk_le 256 p (fun _ => ?_) (fun g => absurd g (by omega)) rfl rfl (by omega) (by omega)
      intro x hx
      rw [hx, nI_1]
      exact hJ (fun p' h1 h2 => hpre p' (by omega) h2)
    | succ d ih =>
      intro p hp hd hle hpre
      unfold wX0_extentFor_19
      refine pk_le 256 p (fun g => ?_) (fun g => ?_) rfl rfl (by omega) (by omega)
      · intro x hx
        rw [hx, nI_1]
        exact hJ (fun p' h1 h2 => hpre p' (by omega) h2)
      · refine e_isFreeExtent hk (by omega) ho (br_b (fun g2 => ?_) (fun g2 => ?_))
        · intro x hx
          rw [hx, shl1 o (by omega), nI_add]
          have hle' : p + 2 ^ o ≤ 256 := by
            rcases Nat.lt_or_ge 256 (p + 2 ^ o) with z | z
            · exfalso
              have e256 : 256 % 2 ^ o = 0 := by
                have := (show ∀ o, o ≤ 8 → 256 % 2 ^ o = 0 by decide) o ho
                exact this
              exact mult_gap hp e256 (by omega) z
            · exact z
          refine ih (p + 2 ^ o) (p2dvd hp) ?_ hle' (fun p' h1 h2 => ?_)
          · rw [Nat.add_mul, Nat.one_mul] at hd; omega
          · rcases Nat.lt_trichotomy p' p with z | z | z
            · exact hpre p' z h2
            · rw [z]; exact g2
            · exact absurd (mult_gap hp h2 z h1) (fun q => q)
        · exact h _ (Or.inr ⟨o, p, hqo, ho, by omega, hp, g2, rfl, hlow, hpre⟩)
  have outer : ∀ (d o : Nat), o + d = 9 → q ≤ o → (∀ o' p', q ≤ o' → o' < o → p' < 256 → p' % 2 ^ o' = 0 → fe K p' o' = false) → wX0_extentFor_11 post (nn K) (d + 1) (nI o) := by
    intro d
    induction d with
    | zero =>
      intro o hd hqo hlow
      unfold wX0_extentFor_11
      refine pk_lt 8 o (fun _ => h _ (Or.inl ⟨rfl, fun o' p' h1 h2 h3 h4 => hlow o' p' h1 (by omega) h3 h4⟩)) (fun g => absurd g (by omega)) rfl rfl (by omega) (by omega)
    | succ d ih =>
      intro o hd hqo hlow
      unfold wX0_extentFor_11
      refine pk_lt 8 o (fun g => absurd g (by omega)) (fun _ => ?_) rfl rfl (by omega) (by omega)
      refine ⟨257, inner _ o (by omega) hqo hlow (fun hall => ih (o + 1) (by omega) (by omega) (fun o' p' h1 h2 h3 h4 => ?_)) 256 0 (by simp) ?_ (by omega) (fun p' h1 _ => absurd h1 (by omega))⟩
      · by_cases e : o' = o
        · subst e; exact hall p' h3 h4
        · exact hlow o' p' h1 (by omega) h3 h4
      · have := p2le (o := o) (by omega)
        have : 256 * 1 ≤ 256 * 2 ^ o := Nat.mul_le_mul_left 256 this.1
        omega
  unfold wX0_extentFor
  refine e_isOrder_t hq ⟨fun _ => ⟨_, outer (9 - q) q (by omega) (Nat.le_refl q) (fun o' p' h1 h2 => absurd h2 (by omega))⟩, fun g => absurd g (by decide)⟩
theorem e_extentFor_f {post : Int32 → Prop} {kd : Nat → Int32} {x : Int32} (hx : x < 0 ∨ 8 < x) (h : post (-1)) : wX0_extentFor post kd x := by
  unfold wX0_extentFor
  exact e_isOrder_f hx ⟨fun g => absurd rfl g, fun _ => h⟩
end PC
