/-! PURE B: the pages -/
theorem pk_ne {x y : Int32} {A B : Prop} (a b : Nat) (f : a ≠ b → A) (g : a = b → B) (hx : x = nI a := by rfl) (hy : y = nI b := by rfl) (ha : a < 2 ^ 31 := by omega) (hb : b < 2 ^ 31 := by omega) : (¬ x = y → A) ∧ (x = y → B) :=
  ⟨(pk_eq a b g f hx hy ha hb).2, (pk_eq a b g f hx hy ha hb).1⟩
def bI (b : Bool) : Int32 := if b = true then 1 else 0
theorem nb_bI (b : Bool) : nb (bI b) := by cases b <;> first | exact nb_0 | exact nb_1
theorem bI_t : bI true = 1 := rfl
theorem bI_f : bI false = 0 := rfl
/-- a branch on a truth value -/
theorem br_b {b : Bool} {A B : Prop} (f : b = false → A) (g : b = true → B) : (bI b = 0 → A) ∧ (¬ bI b = 0 → B) := by
  cases b
  · exact ⟨fun _ => f rfl, fun h => absurd rfl h⟩
  · exact ⟨fun h => absurd h (by decide), fun _ => g rfl⟩
theorem br_nb {b : Bool} {A B : Prop} (g : b = true → A) (f : b = false → B) : (¬ bI b = 0 → A) ∧ (bI b = 0 → B) := ⟨(br_b f g).2, (br_b f g).1⟩
-- bits of a page
def bt (b s : Nat) : Bool := decide (b / 2 ^ s % 2 = 1)
def sto (b s : Nat) : Nat := b ||| 2 ^ s
def clr (b s : Nat) : Nat := b &&& (255 ^^^ 2 ^ s)
theorem sto_v : ∀ b, b < 256 → ∀ s, s < 8 → nI b ||| ((1 : Int32) <<< (nI s &&& 31)) = nI (sto b s) := by decide +kernel
theorem clr_v : ∀ b, b < 256 → ∀ s, s < 8 → nI b &&& (((1 : Int32) <<< (nI s &&& 31)) ^^^ (-1)) = nI (clr b s) := by decide +kernel
theorem sto_lt : ∀ b, b < 256 → ∀ s, s < 8 → sto b s < 256 := by decide +kernel
theorem clr_le : ∀ b, b < 256 → ∀ s, s < 8 → clr b s ≤ b := by decide +kernel
theorem sto_bt : ∀ b, b < 256 → ∀ s, s < 8 → ∀ t, t < 8 → bt (sto b s) t = (bt b t || decide (t = s)) := by decide +kernel
theorem clr_bt : ∀ b, b < 256 → ∀ s, s < 8 → ∀ t, t < 8 → bt (clr b s) t = (bt b t && !decide (t = s)) := by decide +kernel
theorem bt_ex : ∀ b, b < 256 → b ≠ 0 → ∃ s, s < 8 ∧ bt b s = true := by decide +kernel
theorem bt_z (s : Nat) : bt 0 s = false := by simp [bt]
theorem bt_lt : ∀ c, c = 2 ∨ c = 3 ∨ c = 4 ∨ c = 6 ∨ c = 8 → ∀ b, b < 2 ^ (16 / c) → ∀ s, s < 8 → bt b s = true → s < 16 / c := by
  intro c hc
  rcases hc with rfl | rfl | rfl | rfl | rfl <;> decide +kernel
theorem sto_in : ∀ c, c = 2 ∨ c = 3 ∨ c = 4 ∨ c = 6 ∨ c = 8 → ∀ b, b < 2 ^ (16 / c) → ∀ s, s < 16 / c → sto b s < 2 ^ (16 / c) := by
  intro c hc
  rcases hc with rfl | rfl | rfl | rfl | rfl <;> decide +kernel
theorem sto_nz : ∀ b, b < 256 → ∀ s, s < 8 → sto b s ≠ 0 := by decide +kernel
theorem ush31 : ∀ n, n < 32 → (((nI n).toUInt32 &&& Int32.toUInt32 31).toBitVec % 32).toNat = n := by decide +kernel
theorem bit_v {b s : Nat} (hb : b < 2 ^ 31) (hs : s < 32) : (((nI b).toUInt32 >>> ((nI s).toUInt32 &&& Int32.toUInt32 31)).toInt32 &&& 1) = nI (b / 2 ^ s % 2) := by
  have h1 : b / 2 ^ s ≤ b := Nat.div_le_self _ _
  rw [pk_ushrN (by omega) (nI s) s (ush31 s hs), pk_andN (by omega) 1 (by decide)]
/-- a branch on a bit, as the class asks it -/
theorem br_bit {b s : Nat} {A B : Prop} (hb : b < 2 ^ 31) (hs : s < 32) (f : bt b s = false → A) (g : bt b s = true → B) : (¬ (((nI b).toUInt32 >>> ((nI s).toUInt32 &&& Int32.toUInt32 31)).toInt32 &&& 1) = 1 → A) ∧ ((((nI b).toUInt32 >>> ((nI s).toUInt32 &&& Int32.toUInt32 31)).toInt32 &&& 1) = 1 → B) := by
  rw [bit_v hb hs]
  have h2 : b / 2 ^ s % 2 < 2 := Nat.mod_lt _ (by omega)
  refine pk_ne (b / 2 ^ s % 2) 1 (fun h => f ?_) (fun h => g ?_) rfl rfl (by omega) (by omega)
  · unfold bt; simp [h]
  · unfold bt; simp [h]
-- the pages: kinds K, forms F, bits B
def stp (K F : Nat → Nat) (p : Nat) : Nat := if K p = 1 then F p else if K p = 2 then 16 else 0
def slv (st off : Nat) : Int32 := if st = 0 then -1 else if off % st = 0 ∧ off / st < 16 / st then nI (off / st) else -1
def LV (K F B : Nat → Nat) (a : Nat) : Bool := decide (a < 4096 ∧ 0 < stp K F (a / 16) ∧ a % 16 % stp K F (a / 16) = 0 ∧ a % 16 / stp K F (a / 16) < 16 / stp K F (a / 16)) && bt (B (a / 16)) (a % 16 / stp K F (a / 16))
def PI (K F B : Nat → Nat) : Prop := K 0 = 4 ∧ (∀ p, B p < 256) ∧ (∀ p, F p ≤ 8) ∧ (∀ p, K p ≤ 4) ∧ (∀ p, 0 < p → K p ≠ 4) ∧ (∀ p, K p ≠ 1 → K p ≠ 2 → B p = 0) ∧ (∀ p, K p = 1 → (F p = 2 ∨ F p = 3 ∨ F p = 4 ∨ F p = 6 ∨ F p = 8) ∧ B p ≠ 0 ∧ B p < 2 ^ (16 / F p)) ∧ (∀ p, K p = 2 → F p ≤ 7 ∧ p % 2 ^ F p = 0 ∧ p + 2 ^ F p ≤ 256 ∧ B p = 1 ∧ ∀ i, 0 < i → i < 2 ^ F p → K (p + i) = 3 ∧ F (p + i) = F p) ∧ (∀ p, K p = 3 → F p ≤ 7 ∧ K (p / 2 ^ F p * 2 ^ F p) = 2 ∧ F (p / 2 ^ F p * 2 ^ F p) = F p) ∧ (∀ p, 256 ≤ p → K p = 0)
section PB
variable {K F B : Nat → Nat}
theorem PI.k0 (h : PI K F B) : K 0 = 4 := h.1
theorem PI.b (h : PI K F B) (p : Nat) : B p < 256 := h.2.1 p
theorem PI.f (h : PI K F B) (p : Nat) : F p ≤ 8 := h.2.2.1 p
theorem PI.k (h : PI K F B) (p : Nat) : K p ≤ 4 := h.2.2.2.1 p
theorem PI.n4 (h : PI K F B) {p : Nat} (hp : 0 < p) : K p ≠ 4 := h.2.2.2.2.1 p hp
theorem PI.b0 (h : PI K F B) {p : Nat} (h1 : K p ≠ 1) (h2 : K p ≠ 2) : B p = 0 := h.2.2.2.2.2.1 p h1 h2
theorem PI.s1 (h : PI K F B) {p : Nat} (h1 : K p = 1) : (F p = 2 ∨ F p = 3 ∨ F p = 4 ∨ F p = 6 ∨ F p = 8) ∧ B p ≠ 0 ∧ B p < 2 ^ (16 / F p) := h.2.2.2.2.2.2.1 p h1
theorem PI.s2 (h : PI K F B) {p : Nat} (h1 : K p = 2) : F p ≤ 7 ∧ p % 2 ^ F p = 0 ∧ p + 2 ^ F p ≤ 256 ∧ B p = 1 ∧ ∀ i, 0 < i → i < 2 ^ F p → K (p + i) = 3 ∧ F (p + i) = F p := h.2.2.2.2.2.2.2.1 p h1
theorem PI.s3 (h : PI K F B) {p : Nat} (h1 : K p = 3) : F p ≤ 7 ∧ K (p / 2 ^ F p * 2 ^ F p) = 2 ∧ F (p / 2 ^ F p * 2 ^ F p) = F p := h.2.2.2.2.2.2.2.2.1 p h1
theorem PI.o (h : PI K F B) {p : Nat} (h1 : 256 ≤ p) : K p = 0 := h.2.2.2.2.2.2.2.2.2 p h1
theorem PI.st (h : PI K F B) (p : Nat) : stp K F p ≤ 16 := by
  have := h.f p
  unfold stp; split <;> (try split) <;> omega
theorem PI.st1 (h : PI K F B) {p : Nat} (h1 : K p = 1) : stp K F p = F p ∧ 2 ≤ F p ∧ F p ≤ 8 := by
  have := (h.s1 h1).1
  unfold stp; rw [if_pos h1]; omega
theorem stp2 {p : Nat} (h1 : K p = 2) : stp K F p = 16 := by unfold stp; rw [if_neg (by omega), if_pos h1]
theorem stp0 {p : Nat} (h1 : K p ≠ 1) (h2 : K p ≠ 2) : stp K F p = 0 := by unfold stp; rw [if_neg h1, if_neg h2]
theorem e_kindOf {post : Int32 → Prop} {p : Nat} (hp : p < 256) (h : post (nI (K p))) : wX0_kindOf post (nn K) (nI p) := by
  unfold wX0_kindOf
  refine pk_lt p 0 (fun h => absurd h (by omega)) (fun _ => pk_le 256 p (fun h => absurd h (by omega)) (fun _ => ⟨pk_in p 256 hp, ?_⟩))
  rw [nI_clamp (by omega)]
  exact h
theorem e_kindOf_f {post : Int32 → Prop} {kd : Nat → Int32} {x : Int32} (hx : x < 0 ∨ nI 256 ≤ x) (h : post (-1)) : wX0_kindOf post kd x :=
  ⟨fun _ => h, fun h0 => ⟨fun _ => h, fun h1 => absurd (hx.resolve_left h0) h1⟩⟩
theorem e_stepOf {post : Int32 → Prop} {p : Nat} (hI : PI K F B) (hp : p < 256) (h : post (nI (stp K F p))) : wX0_stepOf post (nn K) (nn F) (nI p) := by
  have hk := hI.k p
  unfold wX0_stepOf
  refine pk_lt p 0 (fun h => absurd h (by omega)) (fun _ => pk_lt p 256 (fun _ => ⟨pk_in p 256 hp, ?_⟩) (fun h => absurd h (by omega)))
  rw [nI_clamp (by omega)]
  refine pk_ne (K p) 1 (fun h1 => ⟨pk_in p 256 hp, ?_⟩) (fun h1 => ⟨pk_in p 256 hp, ?_⟩) rfl rfl (by omega) (by omega)
  · refine pk_ne (K p) 2 (fun h2 => ?_) (fun h2 => ?_) rfl rfl (by omega) (by omega)
    · rw [stp0 h1 h2] at h; exact h
    · rw [stp2 h2] at h; exact h
  · rw [(hI.st1 h1).1] at h; exact h
theorem e_stepOf_m {post : Int32 → Prop} {kd fm : Nat → Int32} (h : post 0) : wX0_stepOf post kd fm (-1) :=
  ⟨fun _ => h, fun h0 => absurd (by decide) h0⟩
theorem e_slotsOf {post : Int32 → Prop} {p : Nat} (hI : PI K F B) (hp : p < 256) (h : post (nI (16 / stp K F p))) : wX0_slotsOf post (nn K) (nn F) (nI p) := by
  unfold wX0_slotsOf
  have := hI.st p
  refine e_stepOf hI hp (pk_le (stp K F p) 0 (fun g => ?_) (fun g => ⟨nI_ne0 g (by omega), ?_⟩) rfl rfl (by omega) (by omega))
  · rw [show stp K F p = 0 by omega] at h; exact h
  · show post (nI 16 / nI (stp K F p))
    rw [pk_div (by omega) g (by omega)]; exact h
theorem e_pageOf {post : Int32 → Prop} {a : Nat} (ha : a < 4096) (h : post (nI (a / 16))) : wX0_pageOf post (nI a) := by
  unfold wX0_pageOf
  refine pk_lt a 0 (fun h => absurd h (by omega)) (fun _ => pk_le 4096 a (fun h => absurd h (by omega)) (fun _ => ?_))
  show post (nI a / nI 16)
  rw [pk_div (by omega) (by omega) (by omega)]; exact h
theorem e_pageOf_f {post : Int32 → Prop} {x : Int32} (hx : x < 0 ∨ nI 4096 ≤ x) (h : post (-1)) : wX0_pageOf post x :=
  ⟨fun _ => h, fun h0 => ⟨fun _ => h, fun h1 => absurd (hx.resolve_left h0) h1⟩⟩
theorem e_slotBy {post : Int32 → Prop} {st off : Nat} (hs : st ≤ 16) (ho : off < 16) (h : post (slv st off)) : wX0_slotBy post (nI st) (nI off) := by
  unfold wX0_slotBy
  unfold slv at h
  refine pk_le st 0 (fun g => ?_) (fun g => pk_lt off 0 (fun g => absurd g (by omega)) (fun _ => ⟨nI_ne0 g (by omega), ?_⟩)) rfl rfl (by omega) (by omega)
  · rw [if_pos (by omega)] at h; exact h
  · rw [if_neg (by omega)] at h
    rw [pk_rem (by omega) g (by omega), pk_div (by omega) g (by omega)]
    have hm : off % st < st := Nat.mod_lt _ g
    refine pk_eq (off % st) 0 (fun g1 => ⟨nI_ne0 g (by omega), ?_⟩) (fun g1 => ?_) rfl rfl (by omega) (by omega)
    · intro x hx
      refine ⟨nI_ne0 g (by omega), ?_⟩
      rw [hx]
      show (nI 16 / nI st ≤ _ → _) ∧ (¬ nI 16 / nI st ≤ _ → _)
      rw [pk_div (by omega) g (by omega)]
      have h1 : 16 / st ≤ 16 := Nat.div_le_self _ _
      have h2 : off / st ≤ off := Nat.div_le_self _ _
      refine pk_le (16 / st) (off / st) (fun g2 => ?_) (fun g2 => ?_) rfl rfl (by omega) (by omega)
      · rw [if_neg (by omega)] at h; exact h
      · rw [if_pos ⟨g1, g2⟩] at h; exact h
    · rw [if_neg (by omega)] at h; exact h
theorem e_slotBy_0 {post : Int32 → Prop} {x : Int32} (h : post (-1)) : wX0_slotBy post 0 x := ⟨fun _ => h, fun g => absurd (by decide) g⟩
theorem e_slotAt {post : Int32 → Prop} {a : Nat} (hI : PI K F B) (ha : a < 4096) (h : post (slv (stp K F (a / 16)) (a % 16))) : wX0_slotAt post (nn K) (nn F) (nI a) := by
  unfold wX0_slotAt
  refine e_pageOf ha (e_stepOf hI (by omega) ?_)
  show wX0_slotBy _ _ (nI a - nI a / nI 16 * nI 16)
  rw [pk_rem (by omega) (by omega) (by omega)]
  exact e_slotBy (hI.st _) (by omega) h
theorem e_slotAt_f {post : Int32 → Prop} {kd fm : Nat → Int32} {x : Int32} (hx : x < 0 ∨ nI 4096 ≤ x) (h : post (-1)) : wX0_slotAt post kd fm x := by
  unfold wX0_slotAt
  exact e_pageOf_f hx (e_stepOf_m (e_slotBy_0 h))
theorem e_isTaken {post : Int32 → Prop} {p s : Nat} (hb : B p < 256) (hp : p < 256) (hs : s < 32) (h : post (bI (bt (B p) s))) : wX0_isTaken post (nn B) (nI p) (nI s) := by
  unfold wX0_isTaken
  refine pk_lt p 0 (fun h => absurd h (by omega)) (fun _ => pk_le 256 p (fun h => absurd h (by omega)) (fun _ => pk_lt s 0 (fun h => absurd h (by omega)) (fun _ => ⟨pk_in p 256 hp, ?_⟩)))
  rw [nI_clamp (by omega)]
  exact br_bit (b := B p) (by omega) hs (fun g => by rw [g] at h; exact h) (fun g => by rw [g] at h; exact h)
theorem e_isTaken_m {post : Int32 → Prop} {tk : Nat → Int32} {x : Int32} (h : post 0) : wX0_isTaken post tk x (-1) :=
  ⟨fun _ => h, fun _ => ⟨fun _ => h, fun _ => ⟨fun _ => h, fun g => absurd (by decide) g⟩⟩⟩
theorem slv_neg {st off : Nat} (h : ¬ (0 < st ∧ off % st = 0 ∧ off / st < 16 / st)) : slv st off = -1 := by
  unfold slv
  by_cases h0 : st = 0
  · rw [if_pos h0]
  · rw [if_neg h0, if_neg (fun g => h ⟨by omega, g⟩)]
theorem slv_pos {st off : Nat} (h : 0 < st) (h1 : off % st = 0) (h2 : off / st < 16 / st) : slv st off = nI (off / st) := by
  unfold slv
  rw [if_neg (by omega), if_pos ⟨h1, h2⟩]
theorem LV_iff {a : Nat} : LV K F B a = true ↔ a < 4096 ∧ 0 < stp K F (a / 16) ∧ a % 16 % stp K F (a / 16) = 0 ∧ a % 16 / stp K F (a / 16) < 16 / stp K F (a / 16) ∧ bt (B (a / 16)) (a % 16 / stp K F (a / 16)) = true := by
  unfold LV
  rw [Bool.and_eq_true, decide_eq_true_iff]
  exact ⟨fun ⟨⟨h1, h2, h3, h4⟩, h5⟩ => ⟨h1, h2, h3, h4, h5⟩, fun ⟨h1, h2, h3, h4, h5⟩ => ⟨⟨h1, h2, h3, h4⟩, h5⟩⟩
theorem e_isLive {post : Int32 → Prop} {a : Nat} (hI : PI K F B) (ha : a < 4096) (h : post (bI (LV K F B a))) : wX0_isLive post (nn K) (nn F) (nn B) (nI a) := by
  unfold wX0_isLive
  refine e_pageOf ha (e_slotAt hI ha ?_)
  by_cases g : 0 < stp K F (a / 16) ∧ a % 16 % stp K F (a / 16) = 0 ∧ a % 16 / stp K F (a / 16) < 16 / stp K F (a / 16)
  · rw [slv_pos g.1 g.2.1 g.2.2]
    have h16 : a % 16 / stp K F (a / 16) ≤ a % 16 := Nat.div_le_self _ _
    refine e_isTaken (hI.b _) (by omega) (by omega) ⟨nb_bI _, ?_⟩
    have e : LV K F B a = bt (B (a / 16)) (a % 16 / stp K F (a / 16)) := by
      unfold LV
      rw [decide_eq_true (by exact ⟨ha, g.1, g.2.1, g.2.2⟩), Bool.true_and]
    rw [e] at h; exact h
  · rw [slv_neg g]
    have e : LV K F B a = false := by
      unfold LV
      rw [decide_eq_false (fun q => g q.2), Bool.false_and]
    rw [e] at h
    exact e_isTaken_m ⟨nb_0, h⟩
theorem e_isLive_f {post : Int32 → Prop} {kd fm tk : Nat → Int32} {x : Int32} (hx : x < 0 ∨ nI 4096 ≤ x) (h : post 0) : wX0_isLive post kd fm tk x := by
  unfold wX0_isLive
  exact e_pageOf_f hx (e_slotAt_f hx (e_isTaken_m ⟨nb_0, h⟩))
/-- a live block at a number of the script -/
def LX (K F B : Nat → Nat) (x : Int32) : Bool := !decide (x < 0) && LV K F B x.toNatClampNeg
theorem LX_N {a : Nat} (ha : a < 2 ^ 31) : LX K F B (nI a) = LV K F B a := by
  unfold LX
  rw [nI_clamp ha, decide_eq_false (nI_pos ha)]; rfl
theorem LX_f {x : Int32} (hx : x < 0 ∨ nI 4096 ≤ x) : LX K F B x = false := by
  unfold LX
  by_cases h : x < 0
  · rw [decide_eq_true h]; rfl
  · obtain ⟨j, hj, rfl⟩ := nI_of h
    have := (nI_leI (by omega) hj).mp (hx.resolve_left h)
    rw [nI_clamp hj]
    have e : LV K F B j = false := by
      rw [Bool.eq_false_iff]
      intro q
      exact absurd (LV_iff.mp q).1 (by omega)
    rw [e, Bool.and_false]
theorem LX_t {x : Int32} (h : LX K F B x = true) : ∃ a : Nat, a < 4096 ∧ x = nI a ∧ LV K F B a = true := by
  rcases pk_ix x (n := 4096) (by omega) with g | g | ⟨a, ha, rfl⟩
  · rw [LX_f (Or.inl g)] at h; cases h
  · rw [LX_f (Or.inr g)] at h; cases h
  · exact ⟨a, ha, rfl, by rw [← LX_N (by omega)]; exact h⟩
theorem e_isLiveX {post : Int32 → Prop} {x : Int32} (hI : PI K F B) (h : post (bI (LX K F B x))) : wX0_isLive post (nn K) (nn F) (nn B) x := by
  rcases pk_ix x (n := 4096) (by omega) with g | g | ⟨a, ha, rfl⟩
  · rw [LX_f (Or.inl g)] at h; exact e_isLive_f (Or.inl g) h
  · rw [LX_f (Or.inr g)] at h; exact e_isLive_f (Or.inr g) h
  · rw [LX_N (by omega)] at h; exact e_isLive hI ha h
theorem LV_ge (hI : PI K F B) {a : Nat} (h : LV K F B a = true) : 16 ≤ a ∧ a < 4096 := by
  obtain ⟨h1, h2, -⟩ := LV_iff.mp h
  refine ⟨?_, h1⟩
  rcases Nat.lt_or_ge a 16 with g | g
  · rw [show a / 16 = 0 by omega, stp0 (by rw [hI.k0]; decide) (by rw [hI.k0]; decide)] at h2
    exact absurd h2 (by omega)
  · exact g
end PB
