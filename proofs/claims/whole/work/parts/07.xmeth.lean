/-- the truth of the formula at event t -/
def pm_R (w : Nat) (e c : Nat → Nat) (n t : Nat) : Bool := pm_V w e c n n 0 t
/-- would the formula hold at one more event x -/
def pm_W (w : Nat) (e c : Nat → Nat) (n m x : Nat) : Bool := decide (pm_N c n = 0) && pm_R w (pm_up e m x) c n m
theorem px_all {post : SX → Prop} {w n m : Nat} {c e : Nat → Nat} {u : SX} (B : pm_B w n m c e) (X : pm_X w n m c e u) (h0 : pm_N c n = 0) (K : ∀ tok tk hd mem : Nat → Int32, (∀ j, j < n → tok j = nI (c j)) → (∀ j, j < m → tk j = nI (e j)) → (∀ s, s < m → hd s = nI (pm_b (pm_R w e c n s))) → post (nI w, nI n, nI m, tok, tk, hd, mem)) : wpX_judgeAll post u := by
  obtain ⟨b1, b2, b3, b4, b5, b6⟩ := B
  obtain ⟨tok, tk, hd, mem, rfl, h1, h2⟩ := X
  exact px_judgeAll b1 b2 (pm_n1 h0) b3 b4 b5 (pm_ex (w := w) (e := e) b6 h0) h1 h2 (fun hd' mem' a _ => K tok tk hd' mem' h1 h2 a)
theorem px_at {post : Int32 → SX → Prop} {w n m t : Nat} {c e : Nat → Nat} {u : SX} (B : pm_B w n m c e) (X : pm_X w n m c e u) (ht : t < m) (h0 : pm_N c n = 0) (hp : ∀ u', pm_X w n m c e u' → post (nI (pm_b (pm_R w e c n t))) u') : wpX_at post u (nI t) := by
  have X0 := X
  have hm : m ≤ 200 := B.2.2.1
  obtain ⟨tok, tk, hd, mem, rfl, h1, h2⟩ := X
  refine br_f (nI_pos (by omega)) (pk_le m t (fun h => absurd h (by omega)) (fun _ => ?_))
  refine px_complete_t B X0 h0 (br_f pm_f1 ?_)
  refine px_all B X0 h0 (fun tok tk hd mem a b d => And.intro (pk_in t 200 (by omega)) ?_)
  rw [nI_clamp (show t < 2 ^ 31 by omega), d t ht]
  exact And.intro (pm_narrow _) (hp _ ⟨_, _, _, _, rfl, a, b⟩)
theorem px_at_neg {post : Int32 → SX → Prop} {w n m : Nat} {c e : Nat → Nat} {u : SX} {v1 : Int32} (X : pm_X w n m c e u) (hv : v1 < 0) (hp : post 0 u) : wpX_at post u v1 := by
  obtain ⟨tok, tk, hd, mem, rfl, h1, h2⟩ := X
  exact br_t hv hp
theorem px_at_no {post : Int32 → SX → Prop} {w n m t : Nat} {c e : Nat → Nat} {u : SX} (B : pm_B w n m c e) (X : pm_X w n m c e u) (ht : t < 2 ^ 31) (h : m ≤ t ∨ ¬ pm_N c n = 0) (hp : post 0 u) : wpX_at post u (nI t) := by
  have X0 := X
  have hm : m ≤ 200 := B.2.2.1
  obtain ⟨tok, tk, hd, mem, rfl, h1, h2⟩ := X
  refine br_f (nI_pos ht) (pk_le m t (fun _ => hp) (fun h3 => ?_))
  exact px_complete_f B X0 (by omega) (br_t pm_t0 hp)
theorem px_now1 {post : Int32 → SX → Prop} {w n m : Nat} {c e : Nat → Nat} {u : SX} (B : pm_B w n (m + 1) c e) (X : pm_X w n (m + 1) c e u) (h0 : pm_N c n = 0) (hp : ∀ u', pm_X w n (m + 1) c e u' → post (nI (pm_b (pm_R w e c n m))) u') : wpX_now post u := by
  have X0 := X
  obtain ⟨tok, tk, hd, mem, rfl, h1, h2⟩ := X
  unfold wpX_now
  dsimp only
  rw [nI_pred]
  refine px_at B X0 (by omega) h0 (fun u' X' => ?_)
  obtain ⟨tok', tk', hd', mem', rfl, h1', h2'⟩ := X'
  exact And.intro (pm_narrow _) (hp _ ⟨_, _, _, _, rfl, h1', h2'⟩)
theorem px_now0 {post : Int32 → SX → Prop} {w n m : Nat} {c e : Nat → Nat} {u : SX} (B : pm_B w n m c e) (X : pm_X w n m c e u) (h : m = 0 ∨ ¬ pm_N c n = 0) (hp : post 0 u) : wpX_now post u := by
  have X0 := X
  have hm : m ≤ 200 := B.2.2.1
  obtain ⟨tok, tk, hd, mem, rfl, h1, h2⟩ := X
  unfold wpX_now
  dsimp only
  rw [pm_k_sub]
  cases m with
  | zero => exact px_at_neg X0 pm_k_neg (And.intro (pm_narrow false) hp)
  | succ m => exact px_at_no (t := m) B X0 (by omega) (by omega) (And.intro (pm_narrow false) hp)
theorem px_cnt {post : Int32 → SX → Prop} {w tc : Int32} {tok tk hd mem : Nat → Int32} {m : Nat} {B : Nat → Bool} (hm : m ≤ 200) (hd' : ∀ s, s < m → hd s = nI (pm_b (B s))) (hp : post (nI (pm_cnt B m)) (w, tc, nI m, tok, tk, hd, mem)) : ∀ r t : Nat, t + r = m → wX_count_17 post w tc (nI m) tok tk hd mem (r + 1) (nI (pm_cnt B t)) (nI t) := by
  intro r
  induction r with
  | zero =>
    intro t ht
    have ht' : t = m := ht
    subst ht'
    exact pk_le t t (fun _ => hp) (fun h => absurd h (by omega))
  | succ r ih =>
    intro t ht
    refine pk_le m t (fun h => absurd h (by omega)) (fun _ => And.intro (pk_in t 200 (by omega)) ?_)
    rw [nI_clamp (show t < 2 ^ 31 by omega), hd' t (by omega)]
    have ih' := ih (t + 1) (by omega)
    have e1 : pm_cnt B (t + 1) = pm_cnt B t + pm_b (B t) := rfl
    rw [e1] at ih'
    cases hb : B t with
    | false =>
      rw [hb] at ih'
      exact br_t pm_t0 (nm_r (nI_1 t) ih')
    | true =>
      rw [hb] at ih'
      exact br_f pm_f1 (nm_r (nI_1 _) (nm_r (nI_1 t) ih'))
theorem px_count0 {post : Int32 → SX → Prop} {w n m : Nat} {c e : Nat → Nat} {u : SX} (B : pm_B w n m c e) (X : pm_X w n m c e u) (h0 : ¬ pm_N c n = 0) (hp : post (-1) u) : wpX_count post u := by
  have X0 := X
  obtain ⟨tok, tk, hd, mem, rfl, h1, h2⟩ := X
  unfold wpX_count
  dsimp only
  exact px_complete_f B X0 h0 (br_t pm_t0 hp)
theorem px_count {post : Int32 → SX → Prop} {w n m : Nat} {c e : Nat → Nat} {u : SX} (B : pm_B w n m c e) (X : pm_X w n m c e u) (h0 : pm_N c n = 0) (hp : ∀ u', pm_X w n m c e u' → post (nI (pm_cnt (pm_R w e c n) m)) u') : wpX_count post u := by
  have X0 := X
  have hm : m ≤ 200 := B.2.2.1
  obtain ⟨tok, tk, hd, mem, rfl, h1, h2⟩ := X
  unfold wpX_count
  dsimp only
  refine px_complete_t B X0 h0 (br_f pm_f1 ?_)
  refine px_all B X0 h0 (fun tok tk hd mem a b d => Exists.intro (m + 1) ?_)
  exact px_cnt hm d (hp _ ⟨_, _, _, _, rfl, a, b⟩) m 0 (by omega)
theorem px_vio {post : Int32 → SX → Prop} {w tc : Int32} {tok tk hd mem : Nat → Int32} {m : Nat} {B : Nat → Bool} (hm : m ≤ 200) (hd' : ∀ s, s < m → hd s = nI (pm_b (B s))) : ∀ r s : Nat, m - s = r → s < 2 ^ 31 → post (pm_vio B s r) (w, tc, nI m, tok, tk, hd, mem) → wX_violation_19 post w tc (nI m) tok tk hd mem (r + 1) (nI s) := by
  intro r
  induction r with
  | zero =>
    intro s hs hs2 hp
    exact pk_le m s (fun _ => hp) (fun h => absurd h (by omega))
  | succ r ih =>
    intro s hs hs2 hp
    refine pk_le m s (fun h => absurd h (by omega)) (fun _ => And.intro (pk_in s 200 (by omega)) ?_)
    rw [nI_clamp hs2, hd' s (by omega)]
    have hp' : post (cond (B s) (pm_vio B (s + 1) r) (nI s)) (w, tc, nI m, tok, tk, hd, mem) := hp
    cases hb : B s with
    | false =>
      rw [hb] at hp'
      exact br_t pm_t0 hp'
    | true =>
      rw [hb] at hp'
      exact br_f pm_f1 (nm_r (nI_1 s) (ih (s + 1) (by omega) (by omega) hp'))
theorem px_viol_neg {post : Int32 → SX → Prop} {w n m : Nat} {c e : Nat → Nat} {u : SX} {v1 : Int32} (X : pm_X w n m c e u) (hv : v1 < 0) (hp : post (-1) u) : wpX_violation post u v1 := by
  obtain ⟨tok, tk, hd, mem, rfl, h1, h2⟩ := X
  exact br_t hv hp
theorem px_viol0 {post : Int32 → SX → Prop} {w n m t : Nat} {c e : Nat → Nat} {u : SX} (B : pm_B w n m c e) (X : pm_X w n m c e u) (ht : t < 2 ^ 31) (h0 : ¬ pm_N c n = 0) (hp : post (-1) u) : wpX_violation post u (nI t) := by
  have X0 := X
  obtain ⟨tok, tk, hd, mem, rfl, h1, h2⟩ := X
  exact br_f (nI_pos ht) (px_complete_f B X0 h0 (br_t pm_t0 hp))
theorem px_viol {post : Int32 → SX → Prop} {w n m t : Nat} {c e : Nat → Nat} {u : SX} (B : pm_B w n m c e) (X : pm_X w n m c e u) (ht : t < 2 ^ 31) (h0 : pm_N c n = 0) (hp : ∀ u', pm_X w n m c e u' → post (pm_vio (pm_R w e c n) t (m - t)) u') : wpX_violation post u (nI t) := by
  have X0 := X
  have hm : m ≤ 200 := B.2.2.1
  obtain ⟨tok, tk, hd, mem, rfl, h1, h2⟩ := X
  refine br_f (nI_pos ht) (px_complete_t B X0 h0 (br_f pm_f1 ?_))
  refine px_all B X0 h0 (fun tok tk hd mem a b d => Exists.intro (m - t + 1) ?_)
  exact px_vio hm d (m - t) t rfl ht (hp _ ⟨_, _, _, _, rfl, a, b⟩)
theorem px_stk {post : Int32 → SX → Prop} {w tc : Int32} {tok tk hd mem : Nat → Int32} {m : Nat} {B : Nat → Bool} (hm : m ≤ 200) (hd' : ∀ s, s < m → hd s = nI (pm_b (B s))) : ∀ r l : Nat, r ≤ m → post (nI (l + pm_stk B r)) (w, tc, nI m, tok, tk, hd, mem) → wX_streak_22 post w tc (nI m) tok tk hd mem (r + 1) (nI l) (pm_k r) := by
  intro r
  induction r with
  | zero =>
    intro l hr hp
    exact br_t pm_k_neg hp
  | succ r ih =>
    intro l hr hp
    rw [show pm_k (r + 1) = nI r from rfl]
    refine br_f (nI_pos (by omega)) (And.intro (pk_in r 200 (by omega)) ?_)
    rw [nI_clamp (show r < 2 ^ 31 by omega), hd' r (by omega)]
    have e1 : pm_stk B (r + 1) = cond (B r) (pm_stk B r + 1) 0 := rfl
    rw [e1] at hp
    cases hb : B r with
    | false =>
      rw [hb] at hp
      exact br_t pm_t0 hp
    | true =>
      rw [hb] at hp
      refine br_f pm_f1 (nm_r (nI_1 l) (nm_r (pm_k_dec r) (ih (l + 1) (by omega) ?_)))
      rw [show l + 1 + pm_stk B r = l + (pm_stk B r + 1) by omega]
      exact hp
theorem px_streak0 {post : Int32 → SX → Prop} {w n m : Nat} {c e : Nat → Nat} {u : SX} (B : pm_B w n m c e) (X : pm_X w n m c e u) (h0 : ¬ pm_N c n = 0) (hp : post (-1) u) : wpX_streak post u := by
  have X0 := X
  obtain ⟨tok, tk, hd, mem, rfl, h1, h2⟩ := X
  unfold wpX_streak
  dsimp only
  exact px_complete_f B X0 h0 (br_t pm_t0 hp)
theorem px_streak {post : Int32 → SX → Prop} {w n m : Nat} {c e : Nat → Nat} {u : SX} (B : pm_B w n m c e) (X : pm_X w n m c e u) (h0 : pm_N c n = 0) (hp : ∀ u', pm_X w n m c e u' → post (nI (pm_stk (pm_R w e c n) m)) u') : wpX_streak post u := by
  have X0 := X
  have hm : m ≤ 200 := B.2.2.1
  obtain ⟨tok, tk, hd, mem, rfl, h1, h2⟩ := X
  unfold wpX_streak
  dsimp only
  refine px_complete_t B X0 h0 (br_f pm_f1 ?_)
  refine px_all B X0 h0 (fun tok tk hd mem a b d => nm_r (pm_k_sub m) (Exists.intro (m + 1) ?_))
  refine px_stk hm d m 0 (Nat.le_refl _) ?_
  rw [Nat.zero_add]
  exact hp _ ⟨_, _, _, _, rfl, a, b⟩
theorem px_would_neg {post : Int32 → SX → Prop} {w n m : Nat} {c e : Nat → Nat} {u : SX} {v1 : Int32} (X : pm_X w n m c e u) (hv : v1 < 0) (hp : post 0 u) : wpX_wouldHold post u v1 := by
  obtain ⟨tok, tk, hd, mem, rfl, h1, h2⟩ := X
  unfold wpX_wouldHold
  dsimp only
  exact px_fs_neg hv (br_t rfl hp)
theorem px_would_no {post : Int32 → SX → Prop} {w n m j : Nat} {c e : Nat → Nat} {u : SX} (X : pm_X w n m c e u) (hj : j < 2 ^ 31) (h : 16 ≤ j) (hp : post 0 u) : wpX_wouldHold post u (nI j) := by
  obtain ⟨tok, tk, hd, mem, rfl, h1, h2⟩ := X
  unfold wpX_wouldHold
  dsimp only
  exact px_fs_no hj h (br_t rfl hp)
theorem px_would {post : Int32 → SX → Prop} {w n m x : Nat} {c e : Nat → Nat} {u : SX} (B : pm_B w n m c e) (X : pm_X w n m c e u) (hx : x < 16) (hp : ∀ u', pm_X w n m c e u' → post (nI (pm_b (pm_W w e c n m x))) u') : wpX_wouldHold post u (nI x) := by
  have X0 := X
  have B0 := B
  obtain ⟨b1, b2, b3, b4, b5, b6⟩ := B
  obtain ⟨tok, tk, hd, mem, rfl, h1, h2⟩ := X
  unfold wpX_wouldHold
  dsimp only
  refine px_fs_ok hx (br_f (by decide) ?_)
  by_cases h0 : pm_N c n = 0
  · have eW : pm_W w e c n m x = pm_V w (pm_up e m x) c n n 0 m := by
      unfold pm_W pm_R
      rw [decide_eq_true h0, Bool.true_and]
    refine px_complete_t B0 X0 h0 (br_f pm_f1 ?_)
    refine px_judgeAll (e := pm_up e m x) b1 b2 (pm_n1 h0) b3 b4 ?_ (pm_ex (w := w) (e := pm_up e m x) b6 h0) h1 ?_ (fun hd' mem' a hm' => ?_)
    · intro j hj
      rw [pm_up_n (by omega)]
      exact b5 j hj
    · intro j hj
      rw [pm_up_n (by omega)]
      exact h2 j hj
    · refine px_judgeNext (t := m) b1 b2 (pm_n1 h0) b4 (pm_ex (w := w) (e := pm_up e m x) b6 h0) h1 hx pm_up_s hm' (fun mem'' _ => ?_)
      rw [← eW]
      exact And.intro (pm_narrow _) (hp _ ⟨_, _, _, _, rfl, h1, h2⟩)
  · have eW : pm_W w e c n m x = false := by
      unfold pm_W
      rw [decide_eq_false h0, Bool.false_and]
    have hp' := hp _ X0
    rw [eW] at hp'
    exact px_complete_f B0 X0 h0 (br_t pm_t0 hp')
theorem px_alw {post : Int32 → SX → Prop} {w n m : Nat} {c e : Nat → Nat} (B : pm_B w n m c e) (hp : ∀ u', pm_X w n m c e u' → post (nI (pm_cnt (pm_W w e c n m) 16)) u') : ∀ r x : Nat, x + r = 16 → ∀ tok tk hd mem : Nat → Int32, (∀ j, j < n → tok j = nI (c j)) → (∀ j, j < m → tk j = nI (e j)) → wX_allowed_4 post (r + 1) (nI (pm_cnt (pm_W w e c n m) x)) (nI x) (nI w) (nI n) (nI m) tok tk hd mem := by
  intro r
  induction r with
  | zero =>
    intro x hx tok tk hd mem h1 h2
    have hx' : x = 16 := hx
    subst hx'
    exact pk_le 16 16 (fun _ => hp _ ⟨_, _, _, _, rfl, h1, h2⟩) (fun h => absurd h (by omega))
  | succ r ih =>
    intro x hx tok tk hd mem h1 h2
    refine pk_le 16 x (fun h => absurd h (by omega)) (fun _ => ?_)
    refine px_would B ⟨_, _, _, _, rfl, h1, h2⟩ (by omega) (fun u' X' => ?_)
    obtain ⟨tok', tk', hd', mem', rfl, h1', h2'⟩ := X'
    have ih' := ih (x + 1) (by omega) tok' tk' hd' mem' h1' h2'
    have e1 : pm_cnt (pm_W w e c n m) (x + 1) = pm_cnt (pm_W w e c n m) x + pm_b (pm_W w e c n m x) := rfl
    rw [e1] at ih'
    cases hb : pm_W w e c n m x with
    | false =>
      rw [hb] at ih'
      exact br_t pm_t0 (nm_r (nI_1 x) ih')
    | true =>
      rw [hb] at ih'
      exact br_f pm_f1 (nm_r (nI_1 _) (nm_r (nI_1 x) ih'))
theorem px_allowed {post : Int32 → SX → Prop} {w n m : Nat} {c e : Nat → Nat} {u : SX} (B : pm_B w n m c e) (X : pm_X w n m c e u) (hp : ∀ u', pm_X w n m c e u' → post (nI (pm_cnt (pm_W w e c n m) 16)) u') : wpX_allowed post u := by
  obtain ⟨tok, tk, hd, mem, rfl, h1, h2⟩ := X
  exact Exists.intro 17 (px_alw B hp 16 0 (by omega) tok tk hd mem h1 h2)
