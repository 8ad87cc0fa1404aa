/-! PURE A: numbers, rows of numbers, the static methods -/
def nn (K : Nat → Nat) : Nat → Int32 := fun i => nI (K i)
def up (K : Nat → Nat) (p v : Nat) : Nat → Nat := fun j => if j = p then v else K j
def bz (P : Nat → Bool) : Nat → Int32 := fun i => if P i = true then 1 else 0
theorem nn_upd (K : Nat → Nat) (p v : Nat) : upd (nn K) p (nI v) = nn (up K p v) := by
  funext j
  unfold upd nn up
  by_cases h : j = p <;> simp [h]
theorem up_s (K : Nat → Nat) (p v : Nat) : up K p v p = v := by simp [up]
theorem up_n (K : Nat → Nat) {p v j : Nat} (h : j ≠ p) : up K p v j = K j := by simp [up, h]
theorem nar0 : vp_nar .boolean 0 = 0 := by decide
theorem nar1 : vp_nar .boolean 1 = 1 := by decide
theorem nI_m1 (n : Nat) (h : n < 2 ^ 31) : ¬ nI n = -1 := by
  intro e
  have h1 : (nI n).toInt = (-1 : Int32).toInt := by rw [e]
  rw [nI_toInt h] at h1
  have h2 : (-1 : Int32).toInt = -1 := by decide
  omega
/-- three ways for a number of the script -/
theorem ix3 (x : Int32) {n : Nat} (hn : n < 2 ^ 31) : x < 0 ∨ (¬ x < 0 ∧ nI n ≤ x) ∨ ∃ j : Nat, j < n ∧ x = nI j := by
  rcases pk_ix x hn with h | h | h
  · exact Or.inl h
  · by_cases h0 : x < 0
    · exact Or.inl h0
    · exact Or.inr (Or.inl ⟨h0, h⟩)
  · exact Or.inr (Or.inr h)
/-- a number that isn't below 0, by its Nat -/
theorem ixN {x : Int32} (h : ¬ x < 0) : ∃ j : Nat, j < 2 ^ 31 ∧ x = nI j := nI_of h
-- fill
theorem e_fill_l {post : (Nat → Int32) → Prop} {f : Nat → Int32} {v : Int32} (h : post (fun i => if i < 256 then v else f i)) : ∀ (d i : Nat) (a : Nat → Int32), i + d = 256 → (∀ j, a j = if j < i then v else f j) → wJ7_fill_53178_5 post (d + 1) v (nI i) 256 a := by
  intro d
  induction d with
  | zero =>
    intro i a hi ha
    unfold wJ7_fill_53178_5
    refine pk_le 256 i (fun _ => ?_) (fun h => absurd h (by omega))
    have e : a = fun j => if j < 256 then v else f j := by
      funext j
      rw [ha j, show i = 256 by omega]
    rw [e]; exact h
  | succ d ih =>
    intro i a hi ha
    unfold wJ7_fill_53178_5
    refine pk_le 256 i (fun h => absurd h (by omega)) (fun _ => ⟨pk_in i 256 (by omega), ?_⟩)
    intro x hx
    rw [hx, nI_1, nI_clamp (by omega)]
    refine ih (i + 1) _ (by omega) (fun j => ?_)
    unfold upd
    by_cases e : j = i
    · rw [if_pos e, if_pos (by omega)]
    · rw [if_neg e, ha j]
      by_cases g : j < i
      · rw [if_pos g, if_pos (by omega)]
      · rw [if_neg g, if_neg (by omega)]
theorem e_fill {post : (Nat → Int32) → Prop} {f : Nat → Int32} {v : Int32} (h : post (fun i => if i < 256 then v else f i)) : wJ7_fill_53178 post f v :=
  ⟨257, e_fill_l h 256 0 f rfl (fun j => by simp)⟩
-- bitCount
def pop (b : Nat) : Nat := b % 2 + b / 2 % 2 + b / 4 % 2 + b / 8 % 2 + b / 16 % 2 + b / 32 % 2 + b / 64 % 2 + b / 128 % 2
def bcx (x0 : Int32) : Int32 :=
  let x1 := x0 - (((x0.toUInt32 >>> (Int32.toUInt32 1 &&& Int32.toUInt32 31)).toInt32) &&& 1431655765)
  let x2 := ((x1 &&& 858993459) + (((x1.toUInt32 >>> (Int32.toUInt32 2 &&& Int32.toUInt32 31)).toInt32) &&& 858993459))
  let x3 := ((x2 + ((x2.toUInt32 >>> (Int32.toUInt32 4 &&& Int32.toUInt32 31)).toInt32)) &&& 252645135)
  let x4 := (x3 + ((x3.toUInt32 >>> (Int32.toUInt32 8 &&& Int32.toUInt32 31)).toInt32))
  let x5 := (x4 + ((x4.toUInt32 >>> (Int32.toUInt32 16 &&& Int32.toUInt32 31)).toInt32))
  x5 &&& 63
theorem bcx_ok : ∀ b, b < 256 → bcx (nI b) = nI (pop b) := by decide +kernel
theorem e_bitCount {post : Int32 → Prop} {b : Nat} (hb : b < 256) (h : post (nI (pop b))) : wJ6_bitCount_0f7a4 post (nI b) := by
  unfold wJ6_bitCount_0f7a4
  intro x1 e1 x2 e2 x3 e3 x4 e4 x5 e5
  rw [← bcx_ok b hb] at h
  subst e1 e2 e3 e4 e5
  exact h
-- small tests
theorem e_isPage_t {post : Int32 → Prop} {p : Nat} (hp : p < 256) (h : post 1) : wX2_isPage post (nI p) :=
  pk_lt p 0 (fun h => absurd h (by omega)) (fun _ => pk_le 256 p (fun h => absurd h (by omega)) (fun _ => h))
theorem e_isPage_f {post : Int32 → Prop} {x : Int32} (hx : x < 0 ∨ nI 256 ≤ x) (h : post 0) : wX2_isPage post x :=
  ⟨fun _ => h, fun h0 => ⟨fun _ => h, fun h1 => absurd (hx.resolve_left h0) h1⟩⟩
theorem e_isOrder_t {post : Int32 → Prop} {o : Nat} (ho : o ≤ 8) (h : post 1) : wX2_isOrder post (nI o) :=
  pk_lt o 0 (fun h => absurd h (by omega)) (fun _ => pk_lt 8 o (fun h => absurd h (by omega)) (fun _ => h))
theorem e_isOrder_f {post : Int32 → Prop} {x : Int32} (hx : x < 0 ∨ 8 < x) (h : post 0) : wX2_isOrder post x :=
  ⟨fun _ => h, fun h0 => ⟨fun _ => h, fun h1 => absurd (hx.resolve_left h0) h1⟩⟩
theorem e_isWord_t {post : Int32 → Prop} {p : Nat} (hp : p < 4096) (h : post 1) : wX2_isWord post (nI p) :=
  pk_lt p 0 (fun h => absurd h (by omega)) (fun _ => pk_le 4096 p (fun h => absurd h (by omega)) (fun _ => h))
theorem e_isWord_f {post : Int32 → Prop} {x : Int32} (hx : x < 0 ∨ nI 4096 ≤ x) (h : post 0) : wX2_isWord post x :=
  ⟨fun _ => h, fun h0 => ⟨fun _ => h, fun h1 => absurd (hx.resolve_left h0) h1⟩⟩
theorem e_isRoot_t {post : Int32 → Prop} {p : Nat} (hp : p < 8) (h : post 1) : wX2_isRoot post (nI p) :=
  pk_lt p 0 (fun h => absurd h (by omega)) (fun _ => pk_le 8 p (fun h => absurd h (by omega)) (fun _ => h))
theorem e_isRoot_f {post : Int32 → Prop} {x : Int32} (hx : x < 0 ∨ nI 8 ≤ x) (h : post 0) : wX2_isRoot post x :=
  ⟨fun _ => h, fun h0 => ⟨fun _ => h, fun h1 => absurd (hx.resolve_left h0) h1⟩⟩
-- class and order of a block of n words
def cls (n : Nat) : Nat := if n ≤ 2 then 2 else if n ≤ 3 then 3 else if n ≤ 4 then 4 else if n ≤ 6 then 6 else if n ≤ 8 then 8 else 0
def ord (n : Nat) : Nat := if n ≤ 16 then 0 else if n ≤ 32 then 1 else if n ≤ 64 then 2 else if n ≤ 128 then 3 else if n ≤ 256 then 4 else if n ≤ 512 then 5 else if n ≤ 1024 then 6 else 7
theorem cls_in (n : Nat) : cls n = 2 ∨ cls n = 3 ∨ cls n = 4 ∨ cls n = 6 ∨ cls n = 8 ∨ cls n = 0 := by
  unfold cls; split <;> (try split) <;> (try split) <;> (try split) <;> (try split) <;> simp
theorem cls_ge {n : Nat} (h : n ≤ 8) : n ≤ cls n := by
  unfold cls; split <;> (try split) <;> (try split) <;> (try split) <;> (try split) <;> omega
theorem cls_le (n : Nat) : cls n ≤ 8 := by
  unfold cls; split <;> (try split) <;> (try split) <;> (try split) <;> (try split) <;> omega
theorem cls_0 {n : Nat} : cls n = 0 ↔ 8 < n := by
  unfold cls; split <;> (try split) <;> (try split) <;> (try split) <;> (try split) <;> omega
theorem ord_le (n : Nat) : ord n ≤ 7 := by
  unfold ord; split <;> (try split) <;> (try split) <;> (try split) <;> (try split) <;> (try split) <;> (try split) <;> omega
theorem p2s : ∀ o, o ≤ 8 → 2 ^ o = 1 ∨ 2 ^ o = 2 ∨ 2 ^ o = 4 ∨ 2 ^ o = 8 ∨ 2 ^ o = 16 ∨ 2 ^ o = 32 ∨ 2 ^ o = 64 ∨ 2 ^ o = 128 ∨ 2 ^ o = 256 := by decide
theorem ord_ge {n : Nat} (h : n ≤ 2048) : n ≤ 16 * 2 ^ ord n := by
  unfold ord; split <;> (try split) <;> (try split) <;> (try split) <;> (try split) <;> (try split) <;> (try split) <;> omega
theorem ord_lt {n o : Nat} (h : o < ord n) : 16 * 2 ^ o < n := by
  have h7 := ord_le n
  unfold ord at h
  have : o = 0 ∨ o = 1 ∨ o = 2 ∨ o = 3 ∨ o = 4 ∨ o = 5 ∨ o = 6 := by
    split at h <;> (try split at h) <;> (try split at h) <;> (try split at h) <;> (try split at h) <;> (try split at h) <;> (try split at h) <;> omega
  rcases this with rfl | rfl | rfl | rfl | rfl | rfl | rfl <;>
  (split at h <;> (try split at h) <;> (try split at h) <;> (try split at h) <;> (try split at h) <;> (try split at h) <;> (try split at h) <;> omega)
theorem e_classFor {post : Int32 → Prop} {s : Nat} (hs : s < 4096) (h : post (nI (cls (s + 1)))) : wX2_classFor post (nI s) := by
  refine ⟨6, ?_⟩
  have st : ∀ (n i c : Nat), i < 5 → c < 10 → clF i = nI c → (c < s + 1 → wX2_classFor_9 post n (nI s) 5 (nI (i + 1))) → (s + 1 ≤ c → post (nI c)) → wX2_classFor_9 post (n + 1) (nI s) 5 (nI i) := by
    intro n i c hi hc9 hc h1 h2
    unfold wX2_classFor_9
    refine pk_le 5 i (fun h => absurd h (by omega)) (fun _ => ⟨pk_in i 5 hi, ?_⟩)
    intro y hy
    rw [nI_clamp (by omega), hc] at hy
    rw [hy, nI_1]
    exact pk_lt c (s + 1) (fun g => fun z hz => by rw [hz, nI_1]; exact h1 g) (fun g => h2 g)
  unfold cls at h
  refine st 5 0 2 (by omega) (by omega) rfl (fun g => ?_) (fun g => by rw [if_pos g] at h; exact h)
  rw [if_neg (by omega)] at h
  refine st 4 1 3 (by omega) (by omega) rfl (fun g => ?_) (fun g => by rw [if_pos g] at h; exact h)
  rw [if_neg (by omega)] at h
  refine st 3 2 4 (by omega) (by omega) rfl (fun g => ?_) (fun g => by rw [if_pos g] at h; exact h)
  rw [if_neg (by omega)] at h
  refine st 2 3 6 (by omega) (by omega) rfl (fun g => ?_) (fun g => by rw [if_pos g] at h; exact h)
  rw [if_neg (by omega)] at h
  refine st 1 4 8 (by omega) (by omega) rfl (fun g => ?_) (fun g => by rw [if_pos g] at h; exact h)
  rw [if_neg (by omega)] at h
  unfold wX2_classFor_9
  exact pk_le 5 5 (fun _ => h) (fun g => absurd g (by omega))
theorem shl1 : ∀ o, o < 31 → (1 : Int32) <<< (nI o &&& 31) = nI (2 ^ o) := by decide +kernel
theorem shl16 : ∀ o, o < 20 → (16 : Int32) <<< (nI o &&& 31) = nI (16 * 2 ^ o) := by decide +kernel
theorem e_orderFor {post : Int32 → Prop} {s : Nat} (hs : s < 2048) (h : 8 < s + 1 → post (nI (ord (s + 1)))) (h8 : s + 1 ≤ 8 → post (-1)) : wX2_orderFor post (nI s) := by
  unfold wX2_orderFor
  refine e_classFor (by omega) ?_
  refine pk_le (cls (s + 1)) 0 (fun g => ?_) (fun g => h8 ?_) rfl rfl (by have := cls_le (s + 1); omega)
  · have h9 : 8 < s + 1 := cls_0.mp (by omega)
    have st : ∀ d i : Nat, i + d = ord (s + 1) → wX2_orderFor_11 post (d + 1) (nI s) (nI i) := by
      intro d
      induction d with
      | zero =>
        intro i hi
        have h7 := ord_le (s + 1)
        have hg := ord_ge (n := s + 1) (by omega)
        unfold wX2_orderFor_11
        refine pk_lt 8 i (fun g => absurd g (by omega)) (fun _ => ?_)
        rw [shl16 i (by omega), nI_1]
        have hb : 2 ^ i ≤ 2 ^ 7 := Nat.pow_le_pow_right (by omega) (by omega)
        refine pk_lt (16 * 2 ^ i) (s + 1) (fun g => absurd g ?_) (fun _ => ?_) rfl rfl (by omega) (by omega)
        · rw [show i = ord (s + 1) by omega]; omega
        · rw [show i = ord (s + 1) by omega]; exact h h9
      | succ d ih =>
        intro i hi
        have h7 := ord_le (s + 1)
        unfold wX2_orderFor_11
        refine pk_lt 8 i (fun g => absurd g (by omega)) (fun _ => ?_)
        rw [shl16 i (by omega), nI_1]
        have hb : 2 ^ i ≤ 2 ^ 7 := Nat.pow_le_pow_right (by omega) (by omega)
        refine pk_lt (16 * 2 ^ i) (s + 1) (fun _ => ?_) (fun g => absurd (ord_lt (n := s + 1) (o := i) (by omega)) (by omega)) rfl rfl (by omega) (by omega)
        intro x hx
        rw [hx, nI_1]
        exact ih (i + 1) (by omega)
    exact ⟨_, st (ord (s + 1)) 0 (by omega)⟩
  · have := (not_congr (cls_0 (n := s + 1))).mp (by omega)
    omega
-- the parts of a head
def szw (x : Int32) : Nat := x.toBitVec.toNat / 2048 % 2048
def rfw (x : Int32) : Nat := x.toBitVec.toNat % 2048
theorem szw_lt (x : Int32) : szw x < 2048 := Nat.mod_lt _ (by decide)
theorem rfw_lt (x : Int32) : rfw x < 2048 := Nat.mod_lt _ (by decide)
theorem refsIn_v (x : Int32) : x &&& 2047 = nI (rfw x) := pk_and x 11 (by decide)
theorem sizeIn_v (x : Int32) : ((x.toUInt32 >>> (Int32.toUInt32 11 &&& Int32.toUInt32 31)).toInt32) &&& 2047 = nI (szw x) := by
  rw [pk_and _ 11 (by decide), pk_ushr x 11 11 (by decide)]
  rfl
theorem e_sizeIn {post : Int32 → Prop} {x : Int32} (h : post (nI (szw x))) : wX2_sizeIn post x := by
  unfold wX2_sizeIn; rw [sizeIn_v]; exact h
theorem e_refsIn {post : Int32 → Prop} {x : Int32} (h : post (nI (rfw x))) : wX2_refsIn post x := by
  unfold wX2_refsIn; rw [refsIn_v]; exact h
/-- the shape of a block: a size and a number of references -/
def shp (x y : Int32) : Prop := ¬ x < 1 ∧ ¬ 2047 < x ∧ ¬ y < 0 ∧ ¬ x < y
theorem e_isShape {post : Int32 → Prop} {x y : Int32} (ht : shp x y → post 1) (hf : ¬ shp x y → post 0) : wX2_isShape post x y :=
  ⟨fun h => hf (fun g => g.1 h), fun h1 => ⟨fun h => hf (fun g => g.2.1 h), fun h2 => ⟨fun h => hf (fun g => g.2.2.1 h), fun h3 => ⟨fun h => hf (fun g => g.2.2.2 h), fun h4 => ht ⟨h1, h2, h3, h4⟩⟩⟩⟩⟩
theorem shp_N {x y : Int32} (h : shp x y) : ∃ s r : Nat, 1 ≤ s ∧ s ≤ 2047 ∧ r ≤ s ∧ x = nI s ∧ y = nI r := by
  obtain ⟨h1, h2, h3, h4⟩ := h
  have h0 : ¬ x < 0 := by
    intro h
    apply h1
    rw [Int32.lt_iff_toInt_lt] at h ⊢
    have e0 : (0 : Int32).toInt = 0 := by decide
    have e1 : (1 : Int32).toInt = 1 := by decide
    omega
  obtain ⟨s, hs, rfl⟩ := nI_of h0
  obtain ⟨r, hr, rfl⟩ := nI_of h3
  refine ⟨s, r, ?_, ?_, ?_, rfl, rfl⟩
  · rcases Nat.lt_or_ge s 1 with g | g
    · exact absurd (show nI s < nI 1 from nI_lt g (by omega)) h1
    · exact g
  · rcases Nat.lt_or_ge 2047 s with g | g
    · exact absurd (show nI 2047 < nI s from nI_lt g hs) h2
    · exact g
  · rcases Nat.lt_or_ge s r with g | g
    · exact absurd (nI_lt g hr) h4
    · exact g
theorem shp_of {s r : Nat} (h1 : 1 ≤ s) (h2 : s ≤ 2047) (h3 : r ≤ s) : shp (nI s) (nI r) :=
  ⟨fun h => absurd ((nI_ltI (a := s) (b := 1) (by omega) (by omega)).mp h) (by omega), fun h => absurd ((nI_ltI (a := 2047) (b := s) (by omega) (by omega)).mp h) (by omega), nI_pos (by omega), fun h => absurd ((nI_ltI (by omega) (by omega)).mp h) (by omega)⟩
/-- the head of a block at a of size s with r references -/
def hdv (a s r : Nat) : Int32 := nI ((31 * a + 7 * s + 13 * r + 90) % 512 + 1) * 4194304 + nI s * 2048 + nI r
theorem xor512 {x : Nat} (h : x < 2 ^ 31) : ¬ (nI x ^^^ 512) < 0 := by
  have h1 : nI x ^^^ (512 : Int32) = nI (x ^^^ 512) := by
    apply Int32.toBitVec_inj.mp
    show (nI x).toBitVec ^^^ (512 : Int32).toBitVec = _
    apply BitVec.eq_of_toNat_eq
    rw [BitVec.toNat_xor, pk_tn (by omega), pk_tn (Nat.lt_of_lt_of_le (Nat.xor_lt_two_pow (n := 31) h (by decide)) (by decide))]
    rfl
  rw [h1]
  exact nI_pos (Nat.xor_lt_two_pow (n := 31) h (by decide))
theorem hd_arg (a s r : Nat) : ((((31 * nI a) + (7 * nI s)) + (13 * nI r)) + 90) = nI (31 * a + 7 * s + 13 * r + 90) := by
  rw [show (31 : Int32) = nI 31 from rfl, show (7 : Int32) = nI 7 from rfl, show (13 : Int32) = nI 13 from rfl, show (90 : Int32) = nI 90 from rfl, pk_mul, pk_mul, pk_mul, nI_add, nI_add, nI_add]
theorem e_headOf {post : Int32 → Prop} {a s r : Nat} (ha : a < 4096) (hs : s < 2048) (hr : r < 2048) (h : post (hdv a s r)) : wX2_headOf post (nI a) (nI s) (nI r) := by
  unfold wX2_headOf
  rw [hd_arg]
  unfold wJ9_floorMod_7cf53
  refine ⟨by decide, ?_⟩
  intro x hx
  have hx' : x = nI ((31 * a + 7 * s + 13 * r + 90) % 512) := by
    rw [hx]
    exact pk_rem (d := 512) (by omega) (by omega) (by omega)
  subst hx'
  have key : ∀ y : Int32, y = nI ((31 * a + 7 * s + 13 * r + 90) % 512) + 1 → post (((y * 4194304) + (nI s * 2048)) + nI r) := by
    intro y hy
    rw [hy, nI_1]
    exact h
  refine ⟨fun _ => key, fun g => absurd ?_ g⟩
  have := xor512 (x := 31 * a + 7 * s + 13 * r + 90) (by omega)
  rw [Int32.le_iff_toInt_le]
  rw [Int32.lt_iff_toInt_lt] at this
  omega
