/-! PURE E: the words and the lines that wait -/
theorem pigeon : ∀ (m n : Nat) (f : Nat → Nat), (∀ j, j < n → f j < m) → (∀ i j, i < n → j < n → f i = f j → i = j) → n ≤ m := by
  intro m
  induction m with
  | zero =>
    intro n f h _
    rcases Nat.eq_zero_or_pos n with e | e
    · omega
    · exact absurd (h 0 e) (by omega)
  | succ m ih =>
    intro n f h hi
    by_cases g : ∃ j, j < n ∧ f j = m
    · obtain ⟨j0, hj0, e0⟩ := g
      have := ih (n - 1) (fun j => if j = j0 then f (n - 1) else f j) (fun j hj => ?_) (fun i j h1 h2 e => ?_)
      · omega
      · show (if j = j0 then f (n - 1) else f j) < m
        by_cases e : j = j0
        · rw [if_pos e]
          have h1 := h (n - 1) (by omega)
          have h2 : f (n - 1) ≠ m := fun q => by
            have := hi (n - 1) j0 (by omega) hj0 (by rw [q, e0])
            omega
          omega
        · rw [if_neg e]
          have h1 := h j (by omega)
          have h2 : f j ≠ m := fun q => e (hi j j0 (by omega) hj0 (by rw [q, e0]))
          omega
      · have e' : (if i = j0 then f (n - 1) else f i) = (if j = j0 then f (n - 1) else f j) := e
        by_cases a : i = j0
        · by_cases b : j = j0
          · omega
          · rw [if_pos a, if_neg b] at e'
            have := hi _ _ (by omega) (by omega) e'
            omega
        · by_cases b : j = j0
          · rw [if_neg a, if_pos b] at e'
            have := hi _ _ (by omega) (by omega) e'
            omega
          · rw [if_neg a, if_neg b] at e'
            exact hi _ _ (by omega) (by omega) e'
    · have := ih n f (fun j hj => by
        have h1 := h j hj
        have h2 : f j ≠ m := fun q => g ⟨j, hj, q⟩
        omega) hi
      omega
def wt (n : Nat) (Lq : Nat → Nat) (i : Nat) : Bool := (List.range n).any (fun j => decide (Lq j = i))
theorem wt_iff {n : Nat} {Lq : Nat → Nat} {i : Nat} : wt n Lq i = true ↔ ∃ j, j < n ∧ Lq j = i := by
  unfold wt
  rw [List.any_eq_true]
  constructor
  · rintro ⟨j, h1, h2⟩
    exact ⟨j, List.mem_range.mp h1, of_decide_eq_true h2⟩
  · rintro ⟨j, h1, h2⟩
    exact ⟨j, List.mem_range.mpr h1, decide_eq_true h2⟩
theorem wt_n {n : Nat} {Lq : Nat → Nat} {i : Nat} : wt n Lq i = false ↔ ∀ j, j < n → Lq j ≠ i := by
  rw [Bool.eq_false_iff, ne_eq, wt_iff]
  exact ⟨fun h j hj e => h ⟨j, hj, e⟩, fun h ⟨j, hj, e⟩ => h j hj e⟩
def QI (nw kp qu qd : Nat → Int32) (n : Nat) (Lq : Nat → Nat) : Prop := n ≤ 512 ∧ (∀ j, j < n → qu j = nI (Lq j) ∧ Lq j < 512) ∧ (∀ i j, i < n → j < n → Lq i = Lq j → i = j) ∧ (∀ i, qd i = bI (wt n Lq i)) ∧ (∀ w, wt n Lq (w / 8) = false → nw w = kp w)
section PE
variable {nw kp qu qd : Nat → Int32} {n : Nat} {Lq : Nat → Nat}
theorem QI.room (h : QI nw kp qu qd n Lq) {l : Nat} (hl : l < 512) (hf : wt n Lq l = false) : n < 512 := by
  have h1 := pigeon 512 (n + 1) (fun j => if j = n then l else Lq j) (fun j hj => ?_) (fun i j h1 h2 e => ?_)
  · omega
  · show (if j = n then l else Lq j) < 512
    by_cases e : j = n
    · rw [if_pos e]; exact hl
    · rw [if_neg e]; exact (h.2.1 j (by omega)).2
  · have e' : (if i = n then l else Lq i) = (if j = n then l else Lq j) := e
    have hn := wt_n.mp hf
    by_cases a : i = n
    · by_cases b : j = n
      · omega
      · rw [if_pos a, if_neg b] at e'
        exact absurd e'.symm (hn j (by omega))
    · by_cases b : j = n
      · rw [if_neg a, if_pos b] at e'
        exact absurd e' (hn i (by omega))
      · rw [if_neg a, if_neg b] at e'
        exact h.2.2.1 i j (by omega) (by omega) e'
def wqu (qu : Nat → Int32) (n : Nat) (Lq : Nat → Nat) (l : Nat) : Nat → Int32 := if wt n Lq l = true then qu else upd qu n (nI l)
def wqd (qd : Nat → Int32) (n : Nat) (Lq : Nat → Nat) (l : Nat) : Nat → Int32 := if wt n Lq l = true then qd else upd qd l 1
def wqn (n : Nat) (Lq : Nat → Nat) (l : Nat) : Nat := if wt n Lq l = true then n else n + 1
def wql (n : Nat) (Lq : Nat → Nat) (l : Nat) : Nat → Nat := if wt n Lq l = true then Lq else up Lq n l
theorem wt_new {l i : Nat} : wt (n + 1) (up Lq n l) i = (wt n Lq i || decide (i = l)) := by
  by_cases h : wt n Lq i = true
  · rw [h, Bool.true_or]
    obtain ⟨j, h1, h2⟩ := wt_iff.mp h
    exact wt_iff.mpr ⟨j, by omega, by rw [up_n _ (by omega)]; exact h2⟩
  · rw [Bool.eq_false_iff.mpr h, Bool.false_or]
    by_cases e : i = l
    · rw [decide_eq_true e]
      exact wt_iff.mpr ⟨n, by omega, by rw [up_s]; exact e.symm⟩
    · rw [decide_eq_false e]
      refine wt_n.mpr (fun j hj q => ?_)
      by_cases z : j = n
      · rw [z, up_s] at q; exact e q.symm
      · rw [up_n _ z] at q
        exact wt_n.mp (Bool.eq_false_iff.mpr h) j (by omega) q
theorem QI.write (h : QI nw kp qu qd n Lq) {a : Nat} (ha : a < 4096) (v : Int32) : QI (upd nw a v) kp (wqu qu n Lq (a / 8)) (wqd qd n Lq (a / 8)) (wqn n Lq (a / 8)) (wql n Lq (a / 8)) := by
  obtain ⟨h1, h2, h3, h4, h5⟩ := id h
  unfold wqu wqd wqn wql
  by_cases g : wt n Lq (a / 8) = true
  · rw [if_pos g, if_pos g, if_pos g, if_pos g]
    refine ⟨h1, h2, h3, h4, fun w hw => ?_⟩
    by_cases e : w = a
    · rw [e, g] at hw; cases hw
    · rw [pk_un e]; exact h5 w hw
  · rw [if_neg g, if_neg g, if_neg g, if_neg g]
    have g' := Bool.eq_false_iff.mpr g
    have hr := h.room (l := a / 8) (by omega) g'
    refine ⟨by omega, fun j hj => ?_, fun i j hi hj e => ?_, fun i => ?_, fun w hw => ?_⟩
    · by_cases e : j = n
      · rw [e, pk_us, up_s]; exact ⟨rfl, by omega⟩
      · rw [pk_un e, up_n _ e]; exact h2 j (by omega)
    · by_cases x : i = n
      · by_cases y : j = n
        · omega
        · rw [x, up_s, up_n _ y] at e
          exact absurd e.symm (wt_n.mp g' j (by omega))
      · by_cases y : j = n
        · rw [y, up_s, up_n _ x] at e
          exact absurd e (wt_n.mp g' i (by omega))
        · rw [up_n _ x, up_n _ y] at e
          exact h3 i j (by omega) (by omega) e
    · rw [wt_new]
      by_cases e : i = a / 8
      · rw [e, pk_us, decide_eq_true rfl, Bool.or_true]; rfl
      · rw [pk_un e, decide_eq_false e, Bool.or_false]; exact h4 i
    · rw [wt_new, Bool.or_eq_false_iff] at hw
      have e : w ≠ a := fun q => by
        rw [q] at hw
        exact absurd rfl (of_decide_eq_false hw.2)
      rw [pk_un e]; exact h5 w hw.1
theorem e_write {post : (Nat → Int32) → (Nat → Int32) → (Nat → Int32) → Int32 → Prop} {a : Nat} {v : Int32} (hQ : QI nw kp qu qd n Lq) (ha : a < 4096) (h : post (upd nw a v) (wqu qu n Lq (a / 8)) (wqd qd n Lq (a / 8)) (nI (wqn n Lq (a / 8)))) : wX1_write post nw qu qd (nI n) (nI a) v := by
  obtain ⟨h1, h2, h3, h4, h5⟩ := id hQ
  unfold wX1_write
  refine e_isWord_t ha ⟨fun _ => ⟨pk_in a 4096 ha, ?_⟩, fun g => absurd g (by decide)⟩
  intro x hx
  have hx' : x = nI (a / 8) := by rw [hx]; exact pk_div (d := 8) (by omega) (by omega) (by omega)
  subst hx'
  refine ⟨pk_in (a / 8) 512 (by omega), ?_⟩
  rw [nI_clamp (show a / 8 < 2 ^ 31 by omega), nI_clamp (show a < 2 ^ 31 by omega), h4]
  unfold wqu wqd wqn at h
  refine br_nb (fun g => ?_) (fun g => ?_)
  · rw [if_pos g, if_pos g, if_pos g] at h; exact h
  · have hr := hQ.room (l := a / 8) (by omega) g
    rw [if_neg (by rw [g]; decide), if_neg (by rw [g]; decide), if_neg (by rw [g]; decide)] at h
    refine pk_le 512 n (fun z => absurd z (by omega)) (fun _ => ⟨pk_in (a / 8) 512 (by omega), pk_in n 512 hr, ?_⟩) rfl rfl (by omega) (by omega)
    rw [nI_clamp (by omega), nI_1, nar1]; exact h
theorem e_mwrite {post : (Nat → Int32) → (Nat → Int32) → (Nat → Int32) → Int32 → Prop} {a : Nat} {v : Int32} (hQ : QI nw kp qu qd n Lq) (ha : a < 4096) (h : post (upd nw a v) (wqd qd n Lq (a / 8)) (wqu qu n Lq (a / 8)) (nI (wqn n Lq (a / 8)))) : wX3_write post nw qd qu (nI n) (nI a) v := by
  obtain ⟨h1, h2, h3, h4, h5⟩ := id hQ
  unfold wX3_write
  refine ⟨pk_in a 4096 ha, ?_⟩
  intro x hx
  have hx' : x = nI (a / 8) := by rw [hx]; exact pk_div (d := 8) (by omega) (by omega) (by omega)
  subst hx'
  refine ⟨pk_in (a / 8) 512 (by omega), ?_⟩
  rw [nI_clamp (show a / 8 < 2 ^ 31 by omega), nI_clamp (show a < 2 ^ 31 by omega), h4]
  unfold wqu wqd wqn at h
  refine br_b (fun g => ?_) (fun g => ?_)
  · have hr := hQ.room (l := a / 8) (by omega) g
    rw [if_neg (by rw [g]; decide), if_neg (by rw [g]; decide), if_neg (by rw [g]; decide)] at h
    refine ⟨pk_in (a / 8) 512 (by omega), pk_in n 512 hr, ?_⟩
    rw [nI_clamp (by omega), nI_1, nar1]; exact h
  · rw [if_pos g, if_pos g, if_pos g] at h; exact h
theorem e_at {post : Int32 → Prop} {a : Nat} (ha : a < 4096) (h : post (nw a)) : wX1_at post nw (nI a) := by
  unfold wX1_at
  refine e_isWord_t ha ⟨fun g => absurd g (by decide), fun _ => ⟨pk_in a 4096 ha, ?_⟩⟩
  rw [nI_clamp (by omega)]; exact h
theorem e_at_f {post : Int32 → Prop} {x : Int32} (hx : x < 0 ∨ nI 4096 ≤ x) (h : post 0) : wX1_at post nw x := by
  unfold wX1_at
  exact e_isWord_f hx ⟨fun _ => h, fun g => absurd rfl g⟩
theorem e_keptAt {post : Int32 → Prop} {a : Nat} (ha : a < 4096) (h : post (kp a)) : wX1_keptAt post kp (nI a) := by
  unfold wX1_keptAt
  refine e_isWord_t ha ⟨fun g => absurd g (by decide), fun _ => ⟨pk_in a 4096 ha, ?_⟩⟩
  rw [nI_clamp (by omega)]; exact h
theorem e_keptAt_f {post : Int32 → Prop} {x : Int32} (hx : x < 0 ∨ nI 4096 ≤ x) (h : post 0) : wX1_keptAt post kp x := by
  unfold wX1_keptAt
  exact e_isWord_f hx ⟨fun _ => h, fun g => absurd rfl g⟩
theorem e_lineAt {post : Int32 → Prop} {j : Nat} (hn : n ≤ 512) (hj : j < n) (h : post (qu j)) : wX1_lineAt post qu (nI n) (nI j) := by
  unfold wX1_lineAt
  refine pk_lt j 0 (fun g => absurd g (by omega)) (fun _ => pk_le n j (fun g => absurd g (by omega)) (fun _ => pk_le 512 j (fun g => absurd g (by omega)) (fun _ => ⟨pk_in j 512 (by omega), ?_⟩)))
  rw [nI_clamp (by omega)]; exact h
/-- the words of a line copied -/
def cpl (f g : Nat → Int32) (l : Nat) : Nat → Int32 := fun w => if w / 8 = l then f w else g w
theorem e_settle_a {post : (Nat → Int32) → (Nat → Int32) → Prop} {l : Nat} (hl : l < 512) (h : post (cpl nw kp l) (upd qd l 0)) : wX1_settleLine_a post nw kp qd (nI l) := by
  have st : ∀ (d i : Nat) (kp' : Nat → Int32), i + d = (l + 1) * 8 → l * 8 ≤ i → (∀ w, kp' w = if w / 8 = l ∧ w < i then nw w else kp w) → wX1_settleLine_a_25 post nw (d + 1) (nI l) (nI i) kp' (upd qd l 0) := by
    intro d
    induction d with
    | zero =>
      intro i kp' hi hli hk
      unfold wX1_settleLine_a_25
      rw [nI_1, show (8 : Int32) = nI 8 from rfl, pk_mul]
      refine pk_le ((l + 1) * 8) i (fun _ => ?_) (fun g => absurd g (by omega)) rfl rfl (by omega) (by omega)
      have e : kp' = cpl nw kp l := by
        funext w
        rw [hk w]
        unfold cpl
        by_cases g : w / 8 = l
        · rw [if_pos g, if_pos ⟨g, by omega⟩]
        · rw [if_neg g, if_neg (fun q => g q.1)]
      rw [e]; exact h
    | succ d ih =>
      intro i kp' hi hli hk
      unfold wX1_settleLine_a_25
      rw [nI_1, show (8 : Int32) = nI 8 from rfl, pk_mul]
      refine pk_le ((l + 1) * 8) i (fun g => absurd g (by omega)) (fun _ => ⟨pk_in i 4096 (by omega), pk_in i 4096 (by omega), ?_⟩) rfl rfl (by omega) (by omega)
      intro x hx
      rw [hx, nI_1, nI_clamp (by omega)]
      refine ih (i + 1) _ (by omega) (by omega) (fun w => ?_)
      by_cases e : w = i
      · rw [e, pk_us, if_pos ⟨by omega, by omega⟩]
      · rw [pk_un e, hk w]
        by_cases g : w / 8 = l ∧ w < i
        · rw [if_pos g, if_pos ⟨g.1, by omega⟩]
        · rw [if_neg g, if_neg (fun q => g ⟨q.1, by omega⟩)]
  unfold wX1_settleLine_a
  refine pk_lt l 0 (fun g => absurd g (by omega)) (fun _ => pk_lt l 512 (fun _ => ⟨pk_in l 512 hl, ?_⟩) (fun g => absurd g (by omega)))
  intro x hx
  rw [hx, show (8 : Int32) = nI 8 from rfl, pk_mul, nar0, nI_clamp (by omega)]
  exact ⟨_, st 8 (l * 8) kp (by omega) (by omega) (fun w => by rw [if_neg (by omega)])⟩
theorem e_settle_b {post : (Nat → Int32) → (Nat → Int32) → Prop} {l : Nat} (hl : l < 512) (h : post (cpl kp nw l) (upd qd l 0)) : wX1_settleLine_b post nw kp qd (nI l) := by
  have st : ∀ (d i : Nat) (nw' : Nat → Int32), i + d = (l + 1) * 8 → l * 8 ≤ i → (∀ w, nw' w = if w / 8 = l ∧ w < i then kp w else nw w) → wX1_settleLine_b_25 post kp (d + 1) (nI l) (nI i) nw' (upd qd l 0) := by
    intro d
    induction d with
    | zero =>
      intro i nw' hi hli hk
      unfold wX1_settleLine_b_25
      rw [nI_1, show (8 : Int32) = nI 8 from rfl, pk_mul]
      refine pk_le ((l + 1) * 8) i (fun _ => ?_) (fun g => absurd g (by omega)) rfl rfl (by omega) (by omega)
      have e : nw' = cpl kp nw l := by
        funext w
        rw [hk w]
        unfold cpl
        by_cases g : w / 8 = l
        · rw [if_pos g, if_pos ⟨g, by omega⟩]
        · rw [if_neg g, if_neg (fun q => g q.1)]
      rw [e]; exact h
    | succ d ih =>
      intro i nw' hi hli hk
      unfold wX1_settleLine_b_25
      rw [nI_1, show (8 : Int32) = nI 8 from rfl, pk_mul]
      refine pk_le ((l + 1) * 8) i (fun g => absurd g (by omega)) (fun _ => ⟨pk_in i 4096 (by omega), pk_in i 4096 (by omega), ?_⟩) rfl rfl (by omega) (by omega)
      intro x hx
      rw [hx, nI_1, nI_clamp (by omega)]
      refine ih (i + 1) _ (by omega) (by omega) (fun w => ?_)
      by_cases e : w = i
      · rw [e, pk_us, if_pos ⟨by omega, by omega⟩]
      · rw [pk_un e, hk w]
        by_cases g : w / 8 = l ∧ w < i
        · rw [if_pos g, if_pos ⟨g.1, by omega⟩]
        · rw [if_neg g, if_neg (fun q => g ⟨q.1, by omega⟩)]
  unfold wX1_settleLine_b
  refine pk_lt l 0 (fun g => absurd g (by omega)) (fun _ => pk_lt l 512 (fun _ => ⟨pk_in l 512 hl, ?_⟩) (fun g => absurd g (by omega)))
  intro x hx
  rw [hx, show (8 : Int32) = nI 8 from rfl, pk_mul, nar0, nI_clamp (by omega)]
  exact ⟨_, st 8 (l * 8) nw (by omega) (by omega) (fun w => by rw [if_neg (by omega)])⟩
theorem e_keepLine {post : (Nat → Int32) → Prop} {l : Nat} (hl : l < 512) (h : post (cpl nw kp l)) : wX3_keepLine post nw kp (nI l) := by
  have st : ∀ (d i : Nat) (kp' : Nat → Int32), i + d = 8 * l + 8 → 8 * l ≤ i → (∀ w, kp' w = if w / 8 = l ∧ w < i then nw w else kp w) → wX3_keepLine_5 post nw (d + 1) (nI l) (nI i) kp' := by
    intro d
    induction d with
    | zero =>
      intro i kp' hi hli hk
      unfold wX3_keepLine_5
      rw [show (8 : Int32) = nI 8 from rfl, pk_mul, nI_add]
      refine pk_le (8 * l + 8) i (fun _ => ?_) (fun g => absurd g (by omega)) rfl rfl (by omega) (by omega)
      have e : kp' = cpl nw kp l := by
        funext w
        rw [hk w]
        unfold cpl
        by_cases g : w / 8 = l
        · rw [if_pos g, if_pos ⟨g, by omega⟩]
        · rw [if_neg g, if_neg (fun q => g q.1)]
      rw [e]; exact h
    | succ d ih =>
      intro i kp' hi hli hk
      unfold wX3_keepLine_5
      rw [show (8 : Int32) = nI 8 from rfl, pk_mul, nI_add]
      refine pk_le (8 * l + 8) i (fun g => absurd g (by omega)) (fun _ => ⟨pk_in i 4096 (by omega), pk_in i 4096 (by omega), ?_⟩) rfl rfl (by omega) (by omega)
      intro x hx
      rw [hx, nI_1, nI_clamp (by omega)]
      refine ih (i + 1) _ (by omega) (by omega) (fun w => ?_)
      by_cases e : w = i
      · rw [e, pk_us, if_pos ⟨by omega, by omega⟩]
      · rw [pk_un e, hk w]
        by_cases g : w / 8 = l ∧ w < i
        · rw [if_pos g, if_pos ⟨g.1, by omega⟩]
        · rw [if_neg g, if_neg (fun q => g ⟨q.1, by omega⟩)]
  unfold wX3_keepLine
  intro x hx
  rw [hx, show (8 : Int32) = nI 8 from rfl, pk_mul]
  exact ⟨_, st 8 (8 * l) kp (by omega) (by omega) (fun w => by rw [if_neg (by omega)])⟩
theorem e_nothingWaits {post : (Nat → Int32) → Int32 → Prop} {mq : Nat → Int32} {mn : Int32} (h : post (fun i => if i < 512 then 0 else mq i) 0) : wX3_nothingWaits post mq mn := by
  have st : ∀ (d i : Nat) (q : Nat → Int32), i + d = 512 → (∀ j, q j = if j < i then 0 else mq j) → wX3_nothingWaits_2 post (d + 1) (nI i) q mn := by
    intro d
    induction d with
    | zero =>
      intro i q hi hq
      unfold wX3_nothingWaits_2
      refine pk_le 512 i (fun _ => ?_) (fun g => absurd g (by omega)) rfl rfl (by omega) (by omega)
      have e : q = fun j => if j < 512 then 0 else mq j := by
        funext j
        rw [hq j, show i = 512 by omega]
      rw [e]; exact h
    | succ d ih =>
      intro i q hi hq
      unfold wX3_nothingWaits_2
      refine pk_le 512 i (fun g => absurd g (by omega)) (fun _ => ⟨pk_in i 512 (by omega), ?_⟩) rfl rfl (by omega) (by omega)
      intro x hx
      rw [hx, nI_1, nI_clamp (by omega), nar0]
      refine ih (i + 1) _ (by omega) (fun j => ?_)
      by_cases e : j = i
      · rw [e, pk_us, if_pos (by omega)]
      · rw [pk_un e, hq j]
        by_cases g : j < i
        · rw [if_pos g, if_pos (by omega)]
        · rw [if_neg g, if_neg (by omega)]
  exact ⟨_, st 512 0 mq rfl (fun j => by simp)⟩
end PE
