/-! OPS H: the walk of a recovery: its state, what it keeps, the class's walk -/
def RS : Type := (Nat → Nat) × (Nat → Nat) × (Nat → Nat) × WS × Nat × Nat × (Nat → Nat)
def RS.K (S : RS) : Nat → Nat := Prod.fst S
def RS.F (S : RS) : Nat → Nat := Prod.fst (Prod.snd S)
def RS.B (S : RS) : Nat → Nat := Prod.fst (Prod.snd (Prod.snd S))
def RS.W (S : RS) : WS := Prod.fst (Prod.snd (Prod.snd (Prod.snd S)))
def RS.c (S : RS) : Nat := Prod.fst (Prod.snd (Prod.snd (Prod.snd (Prod.snd S))))
def RS.m (S : RS) : Nat := Prod.fst (Prod.snd (Prod.snd (Prod.snd (Prod.snd (Prod.snd S)))))
def RS.ro (S : RS) : Nat → Nat := Prod.snd (Prod.snd (Prod.snd (Prod.snd (Prod.snd (Prod.snd S)))))
def RS.of (K F B : Nat → Nat) (W : WS) (c m : Nat) (ro : Nat → Nat) : RS := (K, F, B, W, c, m, ro)
def RS.lv (S : RS) : Nat → Bool := LV S.K S.F S.B
/-- the block at a comes back -/
def RS.rv (S : RS) (a : Nat) : RS := RS.of (aK S.K a (szw (S.W.nw a) + 1)) (aF S.F a (szw (S.W.nw a) + 1)) (aB S.B a (szw (S.W.nw a) + 1)) S.W S.c (S.m + 1) (up S.ro S.m a)
/-- the word w is cleared -/
def RS.cl (S : RS) (w : Nat) : RS := RS.of S.K S.F S.B (S.W.wr w 0) (S.c + 1) S.m S.ro
/-- one look at the word w -/
def lk (S : RS) (w : Nat) : RS := if TG S.K S.F S.B (S.W.nw w) = true then S else if RX S.K S.F S.W.nw (S.W.nw w) = true then S.rv (S.W.nw w).toNatClampNeg else S.cl w
def lks (S : RS) (f : Nat) : Nat → RS
  | 0 => S
  | i + 1 => lk (lks S f i) (f + i)
def rcs : Nat → RS → Nat → RS
  | 0, S, _ => S
  | f + 1, S, k => if S.m ≤ k then S else rcs f (lks S (S.ro k + 1) (rfw (S.W.nw (S.ro k)))) (k + 1)
theorem cnt_one {P Q : Nat → Bool} {a m : Nat} (h : ∀ x, Q x = (P x || decide (x = a))) (hp : P a = false) (ha : a < m) : cnt Q m = cnt P m + 1 := by
  obtain ⟨d, rfl⟩ : ∃ d, m = (a + 1) + d := ⟨m - (a + 1), by omega⟩
  have e1 : cnt Q a = cnt P a := cnt_ext (fun i hi => by rw [h i, decide_eq_false (by omega), Bool.or_false])
  have e2 : cnt (fun i => Q (a + 1 + i)) d = cnt (fun i => P (a + 1 + i)) d := cnt_ext (fun i hi => by rw [h, decide_eq_false (by omega), Bool.or_false])
  rw [cnt_add, cnt_add P, e2, cnt_t (by rw [h a, decide_eq_true rfl, Bool.or_true]), cnt_f hp, e1]
  omega
theorem pop_le (b : Nat) : pop b ≤ 8 := by unfold pop; omega
theorem cnt_LV {K F B : Nat → Nat} (hI : PI K F B) : cnt (LV K F B) 4096 ≤ 2040 := by
  have pg : ∀ p, p < 256 → cnt (fun i => LV K F B (p * 16 + i)) 16 ≤ 8 := by
    intro p hp
    have e1 : cnt (fun i => LV K F B (p * 16 + i)) 16 = cnt (fun i => pgc K F B p (p * 16 + i)) 16 := cnt_ext (fun i hi => by
      show LV K F B (p * 16 + i) = (LV K F B (p * 16 + i) && decide ((p * 16 + i) / 16 = p))
      rw [decide_eq_true (by omega), Bool.and_true])
    have e2 := cnt_add (pgc K F B p) (p * 16) 16
    have e3 : cnt (pgc K F B p) (p * 16 + 16) ≤ cnt (pgc K F B p) 4096 := cnt_le (by omega)
    rw [cnt_page hI hp] at e3
    have := pop_le (B p)
    omega
  have st : ∀ p, p ≤ 255 → cnt (LV K F B) ((p + 1) * 16) ≤ 8 * p := by
    intro p
    induction p with
    | zero =>
      intro _
      have : cnt (LV K F B) ((0 + 1) * 16) = cnt (LV K F B) 0 := cnt_skip (by omega) (fun x _ h2 => LV_16 hI (by omega))
      rw [this]; exact Nat.le_refl 0
    | succ p ih =>
      intro hp
      have h1 := ih (by omega)
      have h2 := pg (p + 1) (by omega)
      rw [show (p + 1 + 1) * 16 = (p + 1) * 16 + 16 by omega, cnt_add]
      omega
  exact st 255 (by omega)
section OH
variable {kp : Nat → Int32}
def RI (kp : Nat → Int32) (S : RS) : Prop := PI S.K S.F S.B ∧ SI S.K S.F S.B S.W.nw ∧ S.W.ok kp ∧ cnt S.lv 4096 = S.m ∧ ∀ j, j < S.m → S.lv (S.ro j) = true
theorem RI.pi {S : RS} (h : RI kp S) : PI S.K S.F S.B := h.1
theorem RI.si {S : RS} (h : RI kp S) : SI S.K S.F S.B S.W.nw := h.2.1
theorem RI.ok {S : RS} (h : RI kp S) : S.W.ok kp := h.2.2.1
theorem RI.cn {S : RS} (h : RI kp S) : cnt S.lv 4096 = S.m := h.2.2.2.1
theorem RI.rl {S : RS} (h : RI kp S) {j : Nat} (hj : j < S.m) : S.lv (S.ro j) = true := h.2.2.2.2 j hj
theorem RI.le {S : RS} (h : RI kp S) : S.m ≤ 2040 := by rw [← h.cn]; exact cnt_LV h.pi
/-- the three ways of a look -/
theorem lk_cases (S : RS) (w : Nat) : (TG S.K S.F S.B (S.W.nw w) = true ∧ lk S w = S) ∨ (TG S.K S.F S.B (S.W.nw w) = false ∧ ∃ a, S.W.nw w = nI a ∧ RX S.K S.F S.W.nw (nI a) = true ∧ 16 ≤ a ∧ a < 4096 ∧ 1 ≤ szw (S.W.nw a) ∧ rfw (S.W.nw a) ≤ szw (S.W.nw a) ∧ HD S.K S.F a (szw (S.W.nw a) + 1) ∧ S.lv a = false ∧ lk S w = S.rv a) ∨ (TG S.K S.F S.B (S.W.nw w) = false ∧ RX S.K S.F S.W.nw (S.W.nw w) = false ∧ lk S w = S.cl w) := by
  unfold lk
  by_cases h1 : TG S.K S.F S.B (S.W.nw w) = true
  · rw [if_pos h1]; exact Or.inl ⟨h1, rfl⟩
  · rw [if_neg h1]
    have h1' := Bool.eq_false_iff.mpr h1
    by_cases h2 : RX S.K S.F S.W.nw (S.W.nw w) = true
    · rw [if_pos h2]
      obtain ⟨a, e, g1, g2, g3, g4, g5⟩ := RX_t h2
      refine Or.inr (Or.inl ⟨h1', a, e, by rw [← e]; exact h2, g1, g2, g3, g4, g5, ?_, by rw [e, nI_clamp (by omega)]⟩)
      rw [Bool.eq_false_iff]
      intro l
      apply h1
      unfold TG
      rw [e, LX_N (by omega)]
      unfold RS.lv at l
      rw [l, Bool.or_true]
    · rw [if_neg h2]; exact Or.inr (Or.inr ⟨h1', Bool.eq_false_iff.mpr h2, rfl⟩)
theorem rv_lv {S : RS} (h : RI kp S) {a : Nat} (ha : a < 4096) (hH : HD S.K S.F a (szw (S.W.nw a) + 1)) (x : Nat) : (S.rv a).lv x = (S.lv x || decide (x = a)) := by
  have hz := szw_lt (S.W.nw a)
  exact (PI_add h.pi ha (by omega) hH).2 x
theorem lk_lv {S : RS} (h : RI kp S) {w x : Nat} (hx : S.lv x = true) : (lk S w).lv x = true := by
  rcases lk_cases S w with ⟨-, e⟩ | ⟨-, a, -, -, -, ha, -, -, hH, -, e⟩ | ⟨-, -, e⟩
  · rw [e]; exact hx
  · rw [e, rv_lv h ha hH, hx, Bool.true_or]
  · rw [e]; exact hx
theorem lk_nw {S : RS} {w x : Nat} (hx : x ≠ w) : (lk S w).W.nw x = S.W.nw x := by
  rcases lk_cases S w with ⟨-, e⟩ | ⟨-, a, -, -, -, ha, -, -, hH, -, e⟩ | ⟨-, -, e⟩
  · rw [e]
  · rw [e]; rfl
  · rw [e]
    show upd S.W.nw w 0 x = S.W.nw x
    rw [pk_un hx]
theorem lk_RI {S : RS} (h : RI kp S) {w : Nat} (hw : w < 4096) (hl : S.lv w = false) : RI kp (lk S w) := by
  rcases lk_cases S w with ⟨-, e⟩ | ⟨-, a, -, -, h16, ha, g1, g2, hH, hla, e⟩ | ⟨-, -, e⟩
  · rw [e]; exact h
  · rw [e]
    have hz := szw_lt (S.W.nw a)
    refine ⟨(PI_add h.pi ha (by omega) hH).1, SI_add h.pi h.si ha rfl g1 g2 hH, h.ok, ?_, fun j hj => ?_⟩
    · rw [cnt_one (P := S.lv) (Q := (S.rv a).lv) (a := a) (rv_lv h ha hH) hla ha, h.cn]; rfl
    · rw [rv_lv h ha hH]
      show (S.lv (up S.ro S.m a j) || decide (up S.ro S.m a j = a)) = true
      by_cases z : j = S.m
      · rw [z, up_s, decide_eq_true rfl, Bool.or_true]
      · rw [up_n _ z, h.rl (by have : j < S.m + 1 := hj; omega), Bool.true_or]
  · rw [e]
    exact ⟨h.pi, h.si.upd hl 0, WS.ok_wr h.ok hw 0, h.cn, fun j hj => h.rl hj⟩
/-- where a walk goes: the roots, or the references of a live block -/
def FR (S : RS) (f l : Nat) : Prop := (f = 1 ∧ l = 8) ∨ ∃ a, f = a + 1 ∧ S.lv a = true ∧ l = rfw (S.W.nw a)
theorem FR.in {S : RS} (hR : RI kp S) {f l i : Nat} (h : FR S f l) (hi : i < l) : f + i < 4096 ∧ S.lv (f + i) = false := by
  rcases h with ⟨rfl, rfl⟩ | ⟨a, rfl, la, rfl⟩
  · exact ⟨by omega, LV_16 hR.pi (by omega)⟩
  · have h1 := (hR.si a la).2.1
    have h2 := hR.si.in hR.pi la
    refine ⟨by omega, ?_⟩
    have := hR.si.nohead hR.pi la (i := 1 + i) (by omega) (by omega)
    rw [← Nat.add_assoc] at this
    exact this
theorem FR.lk {S : RS} (hR : RI kp S) {f l i : Nat} (h : FR S f l) (hi : i < l) : FR (lk S (f + i)) f l := by
  rcases h with ⟨rfl, rfl⟩ | ⟨a, rfl, la, e⟩
  · exact Or.inl ⟨rfl, rfl⟩
  · exact Or.inr ⟨a, rfl, lk_lv hR la, by rw [lk_nw (by omega)]; exact e⟩
theorem lks_RI {S : RS} (hR : RI kp S) {f l : Nat} (h : FR S f l) : ∀ i, i ≤ l → RI kp (lks S f i) ∧ FR (lks S f i) f l := by
  intro i
  induction i with
  | zero => intro _; exact ⟨hR, h⟩
  | succ i ih =>
    intro hi
    obtain ⟨h1, h2⟩ := ih (by omega)
    have := h2.in h1 (i := i) (by omega)
    exact ⟨lk_RI h1 this.1 this.2, h2.lk h1 (by omega)⟩
theorem rcs_RI : ∀ (f : Nat) (S : RS) (k : Nat), RI kp S → RI kp (rcs f S k) := by
  intro f
  induction f with
  | zero => intro S k h; exact h
  | succ f ih =>
    intro S k h
    unfold rcs
    by_cases g : S.m ≤ k
    · rw [if_pos g]; exact h
    · rw [if_neg g]
      exact ih _ _ (lks_RI h (Or.inr ⟨S.ro k, rfl, h.rl (by omega), rfl⟩) _ (Nat.le_refl _)).1
/-- a row that holds what was found -/
def AG (ro : Nat → Int32) (S : RS) : Prop := ∀ j, j < S.m → ro j = nI (S.ro j)
theorem AG_rv {ro : Nat → Int32} {S : RS} (h : AG ro S) (a : Nat) : AG (upd ro S.m (nI a)) (S.rv a) := by
  intro j hj
  have hj' : j < S.m + 1 := hj
  show upd ro S.m (nI a) j = nI (up S.ro S.m a j)
  by_cases e : j = S.m
  · rw [e, pk_us, up_s]
  · rw [pk_un e, up_n _ e]; exact h j (by omega)
theorem cl_revive {post : Int32 → Int32 → (Nat → Int32) → (Nat → Int32) → (Nat → Int32) → (Nat → Int32) → Int32 → (Nat → Int32) → (Nat → Int32) → (Nat → Int32) → Prop} {S : RS} {f l : Nat} {ro : Nat → Int32} (hR : RI kp S) (hF : FR S f l) (hl : l < 4096) (hA : AG ro S) (h : ∀ ro', AG ro' (lks S f l) → post (nI (lks S f l).m) (nI (lks S f l).c) ro' (lks S f l).W.nw (lks S f l).W.qu (lks S f l).W.qd (nI (lks S f l).W.n) (nn (lks S f l).K) (nn (lks S f l).F) (nn (lks S f l).B)) : wX2_reviveFrom post (nI S.m) (nI S.c) ro S.W.nw S.W.qu S.W.qd (nI S.W.n) (nn S.K) (nn S.F) (nn S.B) (nI f) (nI l) := by
  have st : ∀ (d i : Nat) (T : RS) (ro : Nat → Int32), i + d = l → T = lks S f i → AG ro T → wX2_reviveFrom_2 post (d + 1) (nI f) (nI l) (nI i) (nI T.m) (nI T.c) ro T.W.nw T.W.qu T.W.qd (nI T.W.n) (nn T.K) (nn T.F) (nn T.B) := by
    intro d
    induction d with
    | zero =>
      intro i T ro hi hT hA
      have e : i = l := by omega
      subst e
      subst hT
      unfold wX2_reviveFrom_2
      exact pk_le i i (fun _ => h ro hA) (fun z => absurd z (by omega)) rfl rfl (by omega) (by omega)
    | succ d ih =>
      intro i T ro hi hT hA
      obtain ⟨hRT, hFT⟩ := lks_RI hR hF i (by omega)
      rw [← hT] at hRT hFT
      have hin := hFT.in hRT (i := i) (by omega)
      have hm := hRT.le
      have nx : lks S f (i + 1) = lk T (f + i) := by rw [hT]; rfl
      unfold wX2_reviveFrom_2
      refine pk_le l i (fun z => absurd z (by omega)) (fun _ => ?_) rfl rfl (by omega) (by omega)
      rw [nI_add f i]
      refine e_at hin.1 (e_isTarget hRT.pi ?_)
      rcases lk_cases T (f + i) with ⟨t, e⟩ | ⟨t, a, ev, rx, h16, ha, g1, g2, hH, hla, e⟩ | ⟨t, rx, e⟩
      · rw [t]
        refine ⟨fun z => absurd z (by decide), fun _ => ?_⟩
        intro x hx
        rw [hx, nI_1]
        exact ih (i + 1) T ro (by omega) (by rw [nx, e]) hA
      · rw [t]
        refine ⟨fun _ => e_canRevive hRT.pi ?_, fun z => absurd rfl z⟩
        rw [ev, rx]
        refine ⟨fun z => absurd z (by decide), fun _ => e_sizeOf ha (e_add hRT.pi ha (szw_lt _) hH ?_)⟩
        unfold wX2_addFound
        have hm' : T.m < 2040 := by
          have h1 := (lk_RI hRT hin.1 hin.2).le
          rw [e] at h1
          exact h1
        refine pk_le 2040 T.m (fun z => absurd z (by omega)) (fun _ => ⟨pk_in T.m 2040 hm', ?_⟩) rfl rfl (by omega) (by omega)
        intro x hx
        rw [hx, nI_1, nI_1, nI_clamp (by omega)]
        exact ih (i + 1) (T.rv a) _ (by omega) (by rw [nx, e]) (AG_rv hA a)
      · rw [t]
        refine ⟨fun _ => e_canRevive hRT.pi ?_, fun z => absurd rfl z⟩
        rw [rx]
        refine ⟨fun _ => e_write hRT.ok hin.1 ?_, fun z => absurd rfl z⟩
        intro x hx
        rw [hx, nI_1, nI_1]
        exact ih (i + 1) (T.cl (f + i)) ro (by omega) (by rw [nx, e]) hA
  exact ⟨_, st l 0 S ro (by omega) rfl hA⟩
theorem cl_recover_l {post : Int32 → Int32 → (Nat → Int32) → (Nat → Int32) → (Nat → Int32) → (Nat → Int32) → Int32 → (Nat → Int32) → (Nat → Int32) → (Nat → Int32) → Prop} : ∀ (f k : Nat) (S : RS) (ro : Nat → Int32), k + f = 2040 → RI kp S → AG ro S → (∀ ro', AG ro' (rcs (f + 1) S k) → post (nI (rcs (f + 1) S k).m) (nI (rcs (f + 1) S k).c) ro' (rcs (f + 1) S k).W.nw (rcs (f + 1) S k).W.qu (rcs (f + 1) S k).W.qd (nI (rcs (f + 1) S k).W.n) (nn (rcs (f + 1) S k).K) (nn (rcs (f + 1) S k).F) (nn (rcs (f + 1) S k).B)) → wX2_recover_26 post (f + 1) (nI k) (nI S.m) (nI S.c) ro S.W.nw S.W.qu S.W.qd (nI S.W.n) (nn S.K) (nn S.F) (nn S.B) := by
  intro f
  induction f with
  | zero =>
    intro k S ro hk hR hA h
    have hm := hR.le
    unfold wX2_recover_26
    have e : rcs (0 + 1) S k = S := by unfold rcs; rw [if_pos (by omega)]
    rw [e] at h
    exact pk_le S.m k (fun _ => h ro hA) (fun z => absurd z (by omega)) rfl rfl (by omega) (by omega)
  | succ f ih =>
    intro k S ro hk hR hA h
    have hm := hR.le
    unfold wX2_recover_26
    refine pk_le S.m k (fun g => ?_) (fun g => ?_) rfl rfl (by omega) (by omega)
    · have e : rcs (f + 1 + 1) S k = S := by unfold rcs; rw [if_pos g]
      rw [e] at h
      exact h ro hA
    · have e : rcs (f + 1 + 1) S k = rcs (f + 1) (lks S (S.ro k + 1) (rfw (S.W.nw (S.ro k)))) (k + 1) := by
        rw [rcs, if_neg (by omega)]
      rw [e] at h
      have hl := hR.rl g
      have hb := (LV_ge hR.pi hl).2
      have hr := rfw_lt (S.W.nw (S.ro k))
      have hF : FR S (S.ro k + 1) (rfw (S.W.nw (S.ro k))) := Or.inr ⟨S.ro k, rfl, hl, rfl⟩
      refine pk_le 2040 k (fun z => absurd z (by omega)) (fun _ => e_rowAt (by omega) ?_) rfl rfl (by omega) (by omega)
      rw [hA k g]
      refine e_wordOf (i := 0) (e_refsOf hb (cl_revive hR hF (by omega) hA (fun ro' hA' => ?_)))
      intro x hx
      rw [hx, nI_1]
      exact ih (k + 1) _ ro' (by omega) (lks_RI hR hF _ (Nat.le_refl _)).1 hA' h
/-- the state behind freeAll -/
def RS0 (F : Nat → Nat) (nw qu : Nat → Int32) (Lq : Nat → Nat) : RS := RS.of (up (fun _ => 0) 0 4) F (fun _ => 0) (WS.of nw qu (fun _ => 0) 0 Lq) 0 0 (fun _ => 0)
theorem LV_none {F : Nat → Nat} (x : Nat) : LV (up (fun _ => 0) 0 4) F (fun _ => 0) x = false := by
  unfold LV
  rw [bt_z, Bool.and_false]
theorem PI_none {F : Nat → Nat} (hf : ∀ p, F p ≤ 8) : PI (up (fun _ => 0) 0 4) F (fun _ => 0) := by
  refine ⟨by rw [up_s], fun q => Nat.zero_lt_succ _, hf, fun q => ?_, fun q hq => ?_, fun q _ _ => rfl, fun q g => ?_, fun q g => ?_, fun q g => ?_, fun q hq => ?_⟩
  · by_cases e : q = 0
    · rw [e, up_s]; omega
    · rw [up_n _ e]; omega
  · rw [up_n _ (by omega)]; omega
  · by_cases e : q = 0
    · rw [e, up_s] at g; omega
    · rw [up_n _ e] at g; omega
  · by_cases e : q = 0
    · rw [e, up_s] at g; omega
    · rw [up_n _ e] at g; omega
  · by_cases e : q = 0
    · rw [e, up_s] at g; omega
    · rw [up_n _ e] at g; omega
  · rw [up_n _ (by omega)]
theorem cnt_0 {P : Nat → Bool} (h : ∀ x, P x = false) (m : Nat) : cnt P m = 0 := cnt_skip (a := 0) (by omega) (fun x _ _ => h x)
theorem RS0_RI {F : Nat → Nat} (hf : ∀ p, F p ≤ 8) (nw qu : Nat → Int32) (Lq : Nat → Nat) : RI nw (RS0 F nw qu Lq) :=
  ⟨PI_none hf, fun a l => absurd (LV_none (F := F) a) (by
    have : LV (up (fun _ => 0) 0 4) F (fun _ => 0) a = true := l
    rw [this]; decide), QI_0 nw qu Lq, cnt_0 LV_none 4096, fun j hj => absurd hj (Nat.not_lt_zero j)⟩
/-- the state that a recovery leaves -/
def RCV (F : Nat → Nat) (nw qu : Nat → Int32) (Lq : Nat → Nat) : RS := rcs 2041 (lks (RS0 F nw qu Lq) 1 8) 0
theorem RCV_RI {F : Nat → Nat} (hf : ∀ p, F p ≤ 8) (nw qu : Nat → Int32) (Lq : Nat → Nat) : RI nw (RCV F nw qu Lq) :=
  rcs_RI _ _ _ (lks_RI (RS0_RI hf nw qu Lq) (Or.inl ⟨rfl, rfl⟩) 8 (Nat.le_refl 8)).1
theorem cl_recover {post : Int32 → Int32 → (Nat → Int32) → (Nat → Int32) → (Nat → Int32) → (Nat → Int32) → Int32 → (Nat → Int32) → (Nat → Int32) → (Nat → Int32) → Prop} {K F B : Nat → Nat} {nw qu ro : Nat → Int32} {Lq : Nat → Nat} {fd cd : Int32} (hI : PI K F B) (h : ∀ ro', post (nI (RCV F nw qu Lq).m) (nI (RCV F nw qu Lq).c) ro' (RCV F nw qu Lq).W.nw (RCV F nw qu Lq).W.qu (RCV F nw qu Lq).W.qd (nI (RCV F nw qu Lq).W.n) (nn (RCV F nw qu Lq).K) (nn (RCV F nw qu Lq).F) (nn (RCV F nw qu Lq).B)) : wX2_recover post fd cd ro nw qu (fun _ => 0) 0 (nn K) (nn F) (nn B) := by
  have hR := RS0_RI hI.f nw qu Lq
  have hF : FR (RS0 F nw qu Lq) 1 8 := Or.inl ⟨rfl, rfl⟩
  unfold wX2_recover wX0_freeAll
  refine e_fill (e_fill ⟨pk_in 0 256 (by omega), ?_⟩)
  have e1 : upd (fun i => if i < 256 then (0 : Int32) else nn K i) (0 : Int32).toNatClampNeg 4 = nn (up (fun _ => 0) 0 4) := by
    funext j
    show upd (fun i => if i < 256 then (0 : Int32) else nn K i) 0 4 j = nI (up (fun _ => 0) 0 4 j)
    by_cases e : j = 0
    · rw [e, pk_us, up_s]; rfl
    · rw [pk_un e, up_n _ e]
      by_cases g : j < 256
      · rw [if_pos g]; rfl
      · rw [if_neg g]
        show nI (K j) = nI 0
        rw [hI.o (by omega)]
  have e2 : (fun i => if i < 256 then (0 : Int32) else nn B i) = nn (fun _ => 0) := by
    funext j
    by_cases g : j < 256
    · rw [if_pos g]; rfl
    · rw [if_neg g]
      show nI (B j) = nI 0
      have := hI.o (p := j) (by omega)
      rw [hI.b0 (by omega) (by omega)]
  rw [e1, e2]
  refine cl_revive (S := RS0 F nw qu Lq) (f := 1) (l := 8) hR hF (by omega) (fun j hj => absurd hj (Nat.not_lt_zero j)) (fun ro' hA => ?_)
  exact ⟨_, cl_recover_l 2040 0 _ ro' (by omega) (lks_RI hR hF 8 (Nat.le_refl 8)).1 hA (fun ro'' _ => h ro'')⟩
theorem cl_crash {post : Int32 → Int32 → Int32 → Int32 → (Nat → Int32) → (Nat → Int32) → (Nat → Int32) → (Nat → Int32) → (Nat → Int32) → Int32 → (Nat → Int32) → (Nat → Int32) → (Nat → Int32) → Prop} {K F B : Nat → Nat} {nw kp qu qd ro : Nat → Int32} {n : Nat} {Lq : Nat → Nat} {fd cd cr x : Int32} (hI : PI K F B) (hQ : QI nw kp qu qd n Lq) {M : Nat → Int32} (hM : M = MK nw kp n Lq (fun j => mb x (j % 32))) (h : ∀ ro', post (nI (RCV F M qu Lq).m) (nI (RCV F M qu Lq).m) (nI (RCV F M qu Lq).c) (cr + 1) ro' (RCV F M qu Lq).W.nw M (RCV F M qu Lq).W.qu (RCV F M qu Lq).W.qd (nI (RCV F M qu Lq).W.n) (nn (RCV F M qu Lq).K) (nn (RCV F M qu Lq).F) (nn (RCV F M qu Lq).B)) : wX2_crash post fd cd cr ro nw kp qu qd (nI n) (nn K) (nn F) (nn B) x := by
  unfold wX2_crash
  subst hM
  exact e_keepSome hQ (cl_recover (Lq := Lq) hI h)
end OH
