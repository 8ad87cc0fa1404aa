/-! OPS J: what collect() marks -/
section OJ
variable {K F B : Nat → Nat} {nw kp qu qd : Nat → Int32} {n : Nat} {Lq : Nat → Nat}
def vad (V : Nat → Bool) (a : Nat) : Nat → Bool := fun x => V x || decide (x = a)
/-- the marks of the class are the set V -/
def MR (K F B : Nat → Nat) (mr : Nat → Int32) (V : Nat → Bool) : Prop := ∃ Mk : Nat → Nat, (∀ p, p < 256 → mr p = nI (Mk p) ∧ Mk p < 256) ∧ ∀ a, LV K F B a = true → bt (Mk (a / 16)) (sl K F a) = V a
theorem sl_one (hI : PI K F B) {a b : Nat} (ha : LV K F B a = true) (hb : LV K F B b = true) (e : b / 16 = a / 16) : sl K F b = sl K F a ↔ b = a := by
  have h1 := (LV_sl hI ha).2.2
  have h2 := (LV_sl hI hb).2.2
  constructor
  · intro z
    rw [z, e, h1] at h2
    omega
  · intro z; rw [z]
theorem MR.add (hI : PI K F B) {mr : Nat → Int32} {V : Nat → Bool} (h : MR K F B mr V) {a : Nat} (l : LV K F B a = true) : MR K F B (upd mr (a / 16) (mr (a / 16) ||| ((1 : Int32) <<< (nI (sl K F a) &&& 31)))) (vad V a) := by
  obtain ⟨Mk, h1, h2⟩ := h
  have ha := (LV_ge hI l).2
  have hp := h1 (a / 16) (by omega)
  have hs := (LV_sl hI l).1
  refine ⟨up Mk (a / 16) (sto (Mk (a / 16)) (sl K F a)), fun p hp' => ?_, fun b lb => ?_⟩
  · by_cases e : p = a / 16
    · rw [e, pk_us, up_s, hp.1, sto_v _ hp.2 _ hs]
      exact ⟨rfl, sto_lt _ hp.2 _ hs⟩
    · rw [pk_un e, up_n _ e]; exact h1 p hp'
  · unfold vad
    by_cases e : b / 16 = a / 16
    · rw [e, up_s, sto_bt _ hp.2 _ hs _ (LV_sl hI lb).1]
      have := h2 b lb
      rw [e] at this
      rw [this]
      have hd : decide (sl K F b = sl K F a) = decide (b = a) := by
        by_cases z : b = a
        · rw [decide_eq_true z, decide_eq_true ((sl_one hI l lb e).mpr z)]
        · rw [decide_eq_false z, decide_eq_false (fun y => z ((sl_one hI l lb e).mp y))]
      rw [hd]
    · rw [up_n _ e, decide_eq_false (fun z => e (by rw [z])), Bool.or_false]; exact h2 b lb
theorem e_isMarked {post : Int32 → Prop} {mr : Nat → Int32} {V : Nat → Bool} {a : Nat} (hI : PI K F B) (hM : MR K F B mr V) (l : LV K F B a = true) (h : post (bI (V a))) : wX0_isMarked post (nn K) (nn F) (nn B) mr (nI a) := by
  obtain ⟨l1, l2, l3, l4, l5⟩ := LV_iff.mp l
  obtain ⟨Mk, h1, h2⟩ := hM
  have hs := LV_sl hI l
  have hp := h1 (a / 16) (by omega)
  unfold wX0_isMarked
  refine e_pageOf l1 (e_slotAt hI l1 ?_)
  rw [slv_pos l2 l3 l4]
  refine e_isPage_t (by omega) ⟨fun z => absurd z (by decide), fun _ => e_isTaken (s := sl K F a) (hI.b _) (by omega) (by omega) ?_⟩
  rw [hs.2.1]
  refine ⟨fun z => absurd z (by decide), fun _ => ⟨pk_in (a / 16) 256 (by omega), ?_⟩⟩
  rw [nI_clamp (by omega), hp.1]
  have := h2 a l
  refine br_bit (b := Mk (a / 16)) (s := sl K F a) (by omega) (by omega) (fun g => ?_) (fun g => ?_)
  · rw [← this, g] at h; exact h
  · rw [← this, g] at h; exact h
theorem e_mark {post : Int32 → (Nat → Int32) → Prop} {mr : Nat → Int32} {V : Nat → Bool} {x : Int32} (hI : PI K F B) (hM : MR K F B mr V) (hf : (∀ a, x = nI a → LV K F B a = true → V a = true) → post 0 mr) (ht : ∀ a, x = nI a → LV K F B a = true → V a = false → ∀ mr', MR K F B mr' (vad V a) → post 1 mr') : wX0_mark post (nn K) (nn F) (nn B) mr x := by
  have bad : (x < 0 ∨ nI 4096 ≤ x) → wX0_mark post (nn K) (nn F) (nn B) mr x := by
    intro g
    unfold wX0_mark
    refine e_pageOf_f g (e_isPage_f (Or.inl (by decide)) ⟨fun _ => hf (fun a e l => ?_), fun z => absurd rfl z⟩)
    have := LX_f (K := K) (F := F) (B := B) g
    rw [e, LX_N (by have := (LV_ge hI l).2; omega), l] at this
    cases this
  rcases pk_ix x (n := 4096) (by omega) with g | g | ⟨a, ha, rfl⟩
  · exact bad (Or.inl g)
  · exact bad (Or.inr g)
  · unfold wX0_mark
    refine e_pageOf ha (e_isPage_t (by omega) ⟨fun z => absurd z (by decide), fun _ => e_isLive hI ha (br_b (fun l => hf (fun b e lb => ?_)) (fun l => e_isMarked hI hM l (br_b (fun v => ?_) (fun v => hf (fun b e lb => ?_)))))⟩)
    · have := (nI_eq (by omega) (by have := (LV_ge hI lb).2; omega)).mp e
      rw [← this, l] at lb; cases lb
    · have l' := LV_iff.mp l
      refine ⟨pk_in (a / 16) 256 (by omega), e_slotAt hI ha ?_⟩
      rw [slv_pos l'.2.1 l'.2.2.1 l'.2.2.2.1]
      refine ⟨pk_in (a / 16) 256 (by omega), ?_⟩
      rw [nI_clamp (by omega)]
      exact ht a rfl l v _ (hM.add hI l)
    · have := (nI_eq (by omega) (by have := (LV_ge hI lb).2; omega)).mp e
      rw [← this]; exact v
/-- the state of the marking: the set, how many, the row -/
def MS : Type := (Nat → Bool) × Nat × (Nat → Nat)
def MS.V (S : MS) : Nat → Bool := Prod.fst S
def MS.m (S : MS) : Nat := Prod.fst (Prod.snd S)
def MS.ro (S : MS) : Nat → Nat := Prod.snd (Prod.snd S)
def MS.of (V : Nat → Bool) (m : Nat) (ro : Nat → Nat) : MS := (V, m, ro)
def MS.ad (S : MS) (a : Nat) : MS := MS.of (vad S.V a) (S.m + 1) (up S.ro S.m a)
def sk (P : Nat → Bool) (S : MS) (x : Int32) : MS := if (!decide (x < 0) && P x.toNatClampNeg && !S.V x.toNatClampNeg) = true then S.ad x.toNatClampNeg else S
theorem sk_t {P : Nat → Bool} {S : MS} {a : Nat} (ha : a < 2 ^ 31) (l : P a = true) (v : S.V a = false) : sk P S (nI a) = S.ad a := by
  unfold sk
  rw [nI_clamp ha, decide_eq_false (nI_pos ha), l, v]
  rfl
theorem sk_f {P : Nat → Bool} {S : MS} {x : Int32} (h : ∀ a, x = nI a → P a = true → S.V a = true) : sk P S x = S := by
  unfold sk
  by_cases g : x < 0
  · rw [decide_eq_true g]; rfl
  · obtain ⟨j, hj, rfl⟩ := nI_of g
    rw [nI_clamp hj, decide_eq_false g]
    by_cases l : P j = true
    · rw [l, h j rfl l]; rfl
    · rw [Bool.eq_false_iff.mpr l]; rfl
theorem sk_cases (P : Nat → Bool) (hP : ∀ a, P a = true → a < 4096) (S : MS) (x : Int32) : (∃ a, x = nI a ∧ P a = true ∧ S.V a = false ∧ sk P S x = S.ad a) ∨ ((∀ a, x = nI a → P a = true → S.V a = true) ∧ sk P S x = S) := by
  by_cases g : ∃ a, x = nI a ∧ P a = true ∧ S.V a = false
  · obtain ⟨a, e, l, v⟩ := g
    refine Or.inl ⟨a, e, l, v, ?_⟩
    subst e
    exact sk_t (by have := hP a l; omega) l v
  · have h : ∀ a, x = nI a → P a = true → S.V a = true := fun a e l => by
      cases hv : S.V a with
      | false => exact absurd ⟨a, e, l, hv⟩ g
      | true => rfl
    exact Or.inr ⟨h, sk_f h⟩
def sks (P : Nat → Bool) (nw : Nat → Int32) (S : MS) (f : Nat) : Nat → MS
  | 0 => S
  | i + 1 => sk P (sks P nw S f i) (nw (f + i))
def rms (P : Nat → Bool) (nw : Nat → Int32) : Nat → MS → Nat → MS
  | 0, S, _ => S
  | f + 1, S, k => if S.m ≤ k then S else rms P nw f (sks P nw S (S.ro k + 1) (rfw (nw (S.ro k)))) (k + 1)
theorem cnt_mono {P Q : Nat → Bool} (h : ∀ x, P x = true → Q x = true) : ∀ m, cnt P m ≤ cnt Q m := by
  intro m
  induction m with
  | zero => exact Nat.le_refl 0
  | succ m ih =>
    rw [cnt_s, cnt_s]
    by_cases g : P m = true
    · rw [if_pos g, if_pos (h m g)]; omega
    · rw [if_neg g]; omega
def MI (P : Nat → Bool) (S : MS) : Prop := (∀ x, S.V x = true → P x = true) ∧ cnt S.V 4096 = S.m ∧ ∀ j, j < S.m → P (S.ro j) = true
theorem MI.le (hI : PI K F B) {S : MS} (h : MI (LV K F B) S) : S.m ≤ 2040 := by
  rw [← h.2.1]
  exact Nat.le_trans (cnt_mono h.1 4096) (cnt_LV hI)
theorem MI.ad {P : Nat → Bool} (hP : ∀ a, P a = true → a < 4096) {S : MS} (h : MI P S) {a : Nat} (l : P a = true) (v : S.V a = false) : MI P (S.ad a) := by
  refine ⟨fun x hx => ?_, ?_, fun j hj => ?_⟩
  · have hx' : (S.V x || decide (x = a)) = true := hx
    rw [Bool.or_eq_true, decide_eq_true_iff] at hx'
    rcases hx' with z | z
    · exact h.1 x z
    · rw [z]; exact l
  · have := cnt_one (P := S.V) (Q := (S.ad a).V) (a := a) (m := 4096) (fun _ => rfl) v (hP a l)
    rw [this, h.2.1]; rfl
  · have hj' : j < S.m + 1 := hj
    show P (up S.ro S.m a j) = true
    by_cases e : j = S.m
    · rw [e, up_s]; exact l
    · rw [up_n _ e]; exact h.2.2 j (by omega)
theorem MI.sk {P : Nat → Bool} (hP : ∀ a, P a = true → a < 4096) {S : MS} (h : MI P S) (x : Int32) : MI P (sk P S x) := by
  rcases sk_cases P hP S x with ⟨a, -, l, v, e⟩ | ⟨-, e⟩
  · rw [e]; exact h.ad hP l v
  · rw [e]; exact h
theorem MI.sks {P : Nat → Bool} (hP : ∀ a, P a = true → a < 4096) {S : MS} (h : MI P S) (f : Nat) : ∀ i, MI P (sks P nw S f i) := by
  intro i
  induction i with
  | zero => exact h
  | succ i ih => exact ih.sk hP _
theorem sk_ro (P : Nat → Bool) (hP : ∀ a, P a = true → a < 4096) {S : MS} {x : Int32} {j : Nat} (hj : j < S.m) : (sk P S x).ro j = S.ro j ∧ S.m ≤ (sk P S x).m := by
  rcases sk_cases P hP S x with ⟨a, -, l, v, e⟩ | ⟨-, e⟩
  · rw [e]
    exact ⟨up_n _ (by omega), Nat.le_succ _⟩
  · rw [e]; exact ⟨rfl, Nat.le_refl _⟩
theorem sks_ro (P : Nat → Bool) (hP : ∀ a, P a = true → a < 4096) {S : MS} {f j : Nat} (hj : j < S.m) : ∀ i, (sks P nw S f i).ro j = S.ro j ∧ S.m ≤ (sks P nw S f i).m := by
  intro i
  induction i with
  | zero => exact ⟨rfl, Nat.le_refl _⟩
  | succ i ih =>
    have := sk_ro P hP (S := sks P nw S f i) (x := nw (f + i)) (j := j) (by omega)
    exact ⟨by rw [← ih.1]; exact this.1, Nat.le_trans ih.2 this.2⟩
def AM (ro : Nat → Int32) (S : MS) : Prop := ∀ j, j < S.m → ro j = nI (S.ro j)
theorem AM_ad {ro : Nat → Int32} {S : MS} (h : AM ro S) (a : Nat) : AM (upd ro S.m (nI a)) (S.ad a) := by
  intro j hj
  have hj' : j < S.m + 1 := hj
  show upd ro S.m (nI a) j = nI (up S.ro S.m a j)
  by_cases e : j = S.m
  · rw [e, pk_us, up_s]
  · rw [pk_un e, up_n _ e]; exact h j (by omega)
theorem LVb (hI : PI K F B) : ∀ a, LV K F B a = true → a < 4096 := fun _ l => (LV_ge hI l).2
theorem cl_markFrom {post : Int32 → (Nat → Int32) → (Nat → Int32) → Prop} {S : MS} {f l : Nat} {ro mr : Nat → Int32} (hI : PI K F B) (hS : MI (LV K F B) S) (hl : f + l ≤ 4096) (hA : AM ro S) (hM : MR K F B mr S.V) (h : ∀ ro' mr', AM ro' (sks (LV K F B) nw S f l) → MR K F B mr' (sks (LV K F B) nw S f l).V → post (nI (sks (LV K F B) nw S f l).m) ro' mr') : wX2_markFrom post (nI S.m) ro nw (nn K) (nn F) (nn B) mr (nI f) (nI l) := by
  have st : ∀ (d i : Nat) (T : MS) (ro mr : Nat → Int32), i + d = l → T = sks (LV K F B) nw S f i → AM ro T → MR K F B mr T.V → wX2_markFrom_2 post nw (nn K) (nn F) (nn B) (d + 1) (nI f) (nI l) (nI i) (nI T.m) ro mr := by
    intro d
    induction d with
    | zero =>
      intro i T ro mr hi hT hA hM
      have e : i = l := by omega
      subst e
      subst hT
      unfold wX2_markFrom_2
      exact pk_le i i (fun _ => h ro mr hA hM) (fun z => absurd z (by omega)) rfl rfl (by omega) (by omega)
    | succ d ih =>
      intro i T ro mr hi hT hA hM
      have hMT : MI (LV K F B) T := by rw [hT]; exact hS.sks (LVb hI) f i
      have nx : sks (LV K F B) nw S f (i + 1) = sk (LV K F B) T (nw (f + i)) := by rw [hT]; rfl
      have hMN := MI.le hI (hMT.sk (LVb hI) (nw (f + i)))
      unfold wX2_markFrom_2
      refine pk_le l i (fun z => absurd z (by omega)) (fun _ => ?_) rfl rfl (by omega) (by omega)
      rw [nI_add f i]
      refine e_at (by omega) (e_mark hI hM (fun hf => ⟨fun _ => ?_, fun z => absurd rfl z⟩) (fun a e l v mr' hM' => ⟨fun z => absurd z (by decide), fun _ => ?_⟩))
      · intro x hx
        rw [hx, nI_1]
        exact ih (i + 1) T ro mr (by omega) (by rw [nx, sk_f hf]) hA hM
      · have ha := (LV_ge hI l).2
        have es : sk (LV K F B) T (nw (f + i)) = T.ad a := by rw [e]; exact sk_t (by omega) l v
        rw [es] at hMN
        have hm' : T.m + 1 ≤ 2040 := hMN
        unfold wX2_addFound
        refine pk_le 2040 T.m (fun z => absurd z (by omega)) (fun _ => ⟨pk_in T.m 2040 (by omega), ?_⟩) rfl rfl (by omega) (by omega)
        intro x hx
        rw [hx, nI_1, nI_1, nI_clamp (by omega), e]
        exact ih (i + 1) (T.ad a) _ mr' (by omega) (by rw [nx, es]) (AM_ad hA a) hM'
  exact ⟨_, st l 0 S ro mr (by omega) rfl hA hM⟩
theorem cl_reach_l {post : Int32 → (Nat → Int32) → (Nat → Int32) → Prop} (hI : PI K F B) (hSI : SI K F B nw) : ∀ (f k : Nat) (S : MS) (ro mr : Nat → Int32), k + f = 2040 → MI (LV K F B) S → AM ro S → MR K F B mr S.V → (∀ ro' mr', MR K F B mr' (rms (LV K F B) nw (f + 1) S k).V → post (nI (rms (LV K F B) nw (f + 1) S k).m) ro' mr') → wX2_markReached_21 post nw (nn K) (nn F) (nn B) (f + 1) (nI k) (nI S.m) ro mr := by
  intro f
  induction f with
  | zero =>
    intro k S ro mr hk hR hA hM h
    have hm := MI.le hI hR
    unfold wX2_markReached_21
    have e : rms (LV K F B) nw (0 + 1) S k = S := by unfold rms; rw [if_pos (by omega)]
    rw [e] at h
    exact pk_le S.m k (fun _ => h ro mr hM) (fun z => absurd z (by omega)) rfl rfl (by omega) (by omega)
  | succ f ih =>
    intro k S ro mr hk hR hA hM h
    have hm := MI.le hI hR
    unfold wX2_markReached_21
    refine pk_le S.m k (fun g => ?_) (fun g => ?_) rfl rfl (by omega) (by omega)
    · have e : rms (LV K F B) nw (f + 1 + 1) S k = S := by unfold rms; rw [if_pos g]
      rw [e] at h
      exact h ro mr hM
    · have e : rms (LV K F B) nw (f + 1 + 1) S k = rms (LV K F B) nw (f + 1) (sks (LV K F B) nw S (S.ro k + 1) (rfw (nw (S.ro k)))) (k + 1) := by
        rw [rms, if_neg (by omega)]
      rw [e] at h
      have hl := hR.2.2 k g
      have hb := (LV_ge hI hl).2
      have hin := hSI.in hI hl
      have hrs := (hSI _ hl).2.1
      refine pk_le 2040 k (fun z => absurd z (by omega)) (fun _ => e_rowAt (by omega) ?_) rfl rfl (by omega) (by omega)
      rw [hA k g]
      refine e_wordOf (i := 0) (e_refsOf hb (cl_markFrom hI hR (by omega) hA hM (fun ro' mr' hA' hM' => ?_)))
      intro x hx
      rw [hx, nI_1]
      exact ih (k + 1) _ ro' mr' (by omega) (hR.sks (LVb hI) _ _) hA' hM' h
def MS0 : MS := MS.of (fun _ => false) 0 (fun _ => 0)
theorem MS0_MI (P : Nat → Bool) : MI P MS0 := ⟨fun x hx => absurd hx (by show ¬ false = true; decide), cnt_0 (fun _ => rfl) 4096, fun j hj => absurd hj (Nat.not_lt_zero j)⟩
/-- what collect() sees -/
def RCH (P : Nat → Bool) (nw : Nat → Int32) : MS := rms P nw 2041 (sks P nw MS0 1 8) 0
theorem rms_MI {P : Nat → Bool} (hP : ∀ a, P a = true → a < 4096) : ∀ (f : Nat) (S : MS) (k : Nat), MI P S → MI P (rms P nw f S k) := by
  intro f
  induction f with
  | zero => intro S k h; exact h
  | succ f ih =>
    intro S k h
    unfold rms
    by_cases g : S.m ≤ k
    · rw [if_pos g]; exact h
    · rw [if_neg g]
      exact ih _ _ (h.sks hP _ _)
theorem cl_markReached {post : Int32 → (Nat → Int32) → (Nat → Int32) → Prop} {fd : Int32} {ro mr : Nat → Int32} (hI : PI K F B) (hSI : SI K F B nw) (h : ∀ ro' mr', MR K F B mr' (RCH (LV K F B) nw).V → post (nI (RCH (LV K F B) nw).m) ro' mr') : wX2_markReached post fd ro nw (nn K) (nn F) (nn B) mr := by
  unfold wX2_markReached wX0_clearMarks
  refine e_fill ?_
  refine cl_markFrom (S := MS0) (f := 1) (l := 8) hI (MS0_MI _) (by omega) (fun j hj => absurd hj (Nat.not_lt_zero j)) ⟨fun _ => 0, fun p hp => ⟨by show (if p < 256 then (0 : Int32) else mr p) = nI 0; rw [if_pos hp]; rfl, Nat.zero_lt_succ _⟩, fun a l => bt_z _⟩ (fun ro' mr' hA hM => ?_)
  exact ⟨_, cl_reach_l hI hSI 2040 0 _ ro' mr' (by omega) ((MS0_MI _).sks (LVb hI) 1 8) hA hM (fun ro'' mr'' hM' => h ro'' mr'' hM')⟩
end OJ
