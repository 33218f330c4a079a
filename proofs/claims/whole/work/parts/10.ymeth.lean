theorem py_comp {post : Int32 → Prop} {w ct : Int32} {tok fc hd st : Nat → Int32} {n : Nat} {c : Nat → Nat} (hn : n ≤ 14) (hc : ∀ j, j < n → c j ≤ 12) (ht : ∀ j, j < n → tok j = nI (c j)) (hN : ∀ k, k < n → 1 ≤ pm_N c k) (hp : post (nI (pm_b (decide (pm_N c n = 0))))) : ∀ r i : Nat, i + r = n → wY_complete_4 post w (nI n) ct tok fc hd st (r + 1) (nI (pm_N c i)) (nI i) := by
  intro r
  induction r with
  | zero =>
    intro i hi
    have hi' : i = n := hi
    have hb := pm_N_le c n
    rw [hi']
    refine pk_le n n (fun _ => ?_) (fun h => absurd h (by omega))
    refine pk_eq (pm_N c n) 0 (fun h0 => ?_) (fun h0 => ?_)
    · rw [decide_eq_true h0] at hp
      exact hp
    · rw [decide_eq_false h0] at hp
      exact hp
  | succ r ih =>
    intro i hi
    have hin : i < n := by omega
    have h1 := hN i hin
    have hci := hc i hin
    have ih' := ih (i + 1) (by omega)
    have e1 : pm_N c (i + 1) = pm_N c i + pm_ar (c i) - 1 := rfl
    rw [e1] at ih'
    refine pk_le n i (fun h => absurd h (by omega)) (fun _ => And.intro (pk_in i 14 (by omega)) (nm_r (e' := nI (c i)) (by rw [nI_clamp (show i < 2 ^ 31 by omega), ht i hin]) ?_))
    refine pk_lt 3 (c i) (fun h3 => pk_eq (c i) 5 (fun h5 => ?_) (fun h5 => pk_eq (c i) 6 (fun h6 => ?_) (fun h6 => pk_eq (c i) 10 (fun h10 => ?_) (fun h10 => ?_)))) (fun h3 => ?_)
    · rw [show pm_ar (c i) = 2 from by rw [h5]; rfl, show pm_N c i + 2 - 1 = pm_N c i + 1 by omega] at ih'
      exact nm_r (nI_1 _) (nm_r (nI_1 i) ih')
    · rw [show pm_ar (c i) = 2 from by rw [h6]; rfl, show pm_N c i + 2 - 1 = pm_N c i + 1 by omega] at ih'
      exact nm_r (nI_1 _) (nm_r (nI_1 i) ih')
    · rw [show pm_ar (c i) = 2 from by rw [h10]; rfl, show pm_N c i + 2 - 1 = pm_N c i + 1 by omega] at ih'
      exact nm_r (nI_1 _) (nm_r (nI_1 i) ih')
    · rw [show pm_ar (c i) = 1 from by unfold pm_ar; rw [if_neg (by omega), if_neg (by omega)], show pm_N c i + 1 - 1 = pm_N c i by omega] at ih'
      exact nm_r (nI_1 i) ih'
    · rw [show pm_ar (c i) = 0 from by unfold pm_ar; rw [if_pos (by omega)], show pm_N c i + 0 - 1 = pm_N c i - 1 by omega] at ih'
      exact nm_r (pm_sub1 h1) (nm_r (nI_1 i) ih')
theorem py_complete {post : Int32 → Prop} {w n m : Nat} {c e : Nat → Nat} {v : SY} (B : pm_B w n m c e) (Y : pm_Y w n m c e v) (hp : post (nI (pm_b (decide (pm_N c n = 0))))) : wpY_complete post v := by
  obtain ⟨b1, b2, b3, b4, b5, b6⟩ := B
  obtain ⟨tok, fc, hd, st, rfl, h1, h2⟩ := Y
  exact Exists.intro (n + 1) (py_comp b2 b4 h1 b6 hp n 0 (by omega))
theorem py_complete_t {post : Int32 → Prop} {w n m : Nat} {c e : Nat → Nat} {v : SY} (B : pm_B w n m c e) (Y : pm_Y w n m c e v) (h0 : pm_N c n = 0) (hp : post (nI (pm_b true))) : wpY_complete post v :=
  py_complete B Y (by rw [decide_eq_true h0]; exact hp)
theorem py_complete_f {post : Int32 → Prop} {w n m : Nat} {c e : Nat → Nat} {v : SY} (B : pm_B w n m c e) (Y : pm_Y w n m c e v) (h0 : ¬ pm_N c n = 0) (hp : post (nI (pm_b false))) : wpY_complete post v :=
  py_complete B Y (by rw [decide_eq_false h0]; exact hp)
theorem py_feed_neg {post : Int32 → SY → Prop} {w n m : Nat} {c e : Nat → Nat} {v : SY} {v1 : Int32} (Y : pm_Y w n m c e v) (hv : v1 < 0) (hp : post (-1) v) : wpY_feed post v v1 := by
  obtain ⟨tok, fc, hd, st, rfl, h1, h2⟩ := Y
  exact br_t hv hp
theorem py_feed_no {post : Int32 → SY → Prop} {w n m j : Nat} {c e : Nat → Nat} {v : SY} (B : pm_B w n m c e) (Y : pm_Y w n m c e v) (hj : j < 2 ^ 31) (h : 12 < j ∨ 14 ≤ n ∨ pm_N c n = 0) (hp : post (-1) v) : wpY_feed post v (nI j) := by
  have Y0 := Y
  have hn : n ≤ 14 := B.2.1
  obtain ⟨tok, fc, hd, st, rfl, h1, h2⟩ := Y
  refine br_f (nI_pos hj) (pk_lt 12 j (fun _ => hp) (fun h3 => ?_))
  by_cases h0 : pm_N c n = 0
  · exact py_complete_t B Y0 h0 (br_f pm_f1 hp)
  · exact py_complete_f B Y0 h0 (br_t pm_t0 (pk_lt n 14 (fun z => absurd z (by omega)) (fun _ => hp)))
theorem py_feed_ok {post : Int32 → SY → Prop} {w n m x : Nat} {c e : Nat → Nat} {v : SY} (B : pm_B w n m c e) (Y : pm_Y w n m c e v) (hx : x ≤ 12) (hn : n < 14) (h0 : ¬ pm_N c n = 0) (hp : ∀ v', pm_Y w (n + 1) m (pm_up c n x) e v' → post (nI (n + 1)) v') : wpY_feed post v (nI x) := by
  have Y0 := Y
  obtain ⟨tok, fc, hd, st, rfl, h1, h2⟩ := Y
  refine br_f (nI_pos (by omega)) (pk_lt 12 x (fun h => absurd h (by omega)) (fun _ => ?_))
  refine py_complete_f B Y0 h0 (br_t pm_t0 (pk_lt n 14 (fun _ => And.intro (pk_in n 14 hn) ?_) (fun z => absurd z (by omega))))
  refine nm_r (e' := upd tok n (nI x)) (by rw [nI_clamp (show n < 2 ^ 31 by omega)]) (nm_r (nI_1 n) ?_)
  exact hp _ ⟨_, _, _, _, rfl, pm_tokup h1, h2⟩
theorem py_back0 {post : Int32 → SY → Prop} {w m : Nat} {c e : Nat → Nat} {v : SY} (Y : pm_Y w 0 m c e v) (hp : post (-1) v) : wpY_back post v := by
  obtain ⟨tok, fc, hd, st, rfl, h1, h2⟩ := Y
  exact br_t nI_0 hp
theorem py_back1 {post : Int32 → SY → Prop} {w n m : Nat} {c e : Nat → Nat} {v : SY} (hn : n < 14) (Y : pm_Y w (n + 1) m c e v) (hp : ∀ v', pm_Y w n m c e v' → post (nI (c n)) v') : wpY_back post v := by
  obtain ⟨tok, fc, hd, st, rfl, h1, h2⟩ := Y
  refine br_f (nI_ne0 (by omega) (by omega)) (nm_r (nI_pred n) (And.intro (pk_in n 14 hn) ?_))
  rw [nI_clamp (show n < 2 ^ 31 by omega), h1 n (by omega)]
  exact hp _ ⟨_, _, _, _, rfl, fun j hj => h1 j (by omega), h2⟩
theorem py_event_neg {post : Int32 → SY → Prop} {w n m : Nat} {c e : Nat → Nat} {v : SY} {v1 : Int32} (Y : pm_Y w n m c e v) (hv : v1 < 0) (hp : post (-1) v) : wpY_event post v v1 := by
  obtain ⟨tok, fc, hd, st, rfl, h1, h2⟩ := Y
  exact br_t hv hp
theorem py_event_no {post : Int32 → SY → Prop} {w n m j : Nat} {c e : Nat → Nat} {v : SY} (Y : pm_Y w n m c e v) (hj : j < 2 ^ 31) (h : 16 ≤ j) (hp : post (-1) v) : wpY_event post v (nI j) := by
  obtain ⟨tok, fc, hd, st, rfl, h1, h2⟩ := Y
  exact br_f (nI_pos hj) (pk_le j 15 (fun z => absurd z (by omega)) (fun _ => hp))
theorem py_event_full {post : Int32 → SY → Prop} {w n j : Nat} {c e : Nat → Nat} {v : SY} (Y : pm_Y w n 200 c e v) (h : j < 16) (hp : post (-2) v) : wpY_event post v (nI j) := by
  obtain ⟨tok, fc, hd, st, rfl, h1, h2⟩ := Y
  exact br_f (nI_pos (by omega)) (pk_le j 15 (fun _ => pk_lt 200 200 (fun z => absurd z (by omega)) (fun _ => hp)) (fun z => absurd z (by omega)))
theorem py_event_ok {post : Int32 → SY → Prop} {w n m j : Nat} {c e : Nat → Nat} {v : SY} (Y : pm_Y w n m c e v) (hm : m < 200) (h : j < 16) (hp : ∀ v', pm_Y w n (m + 1) c (pm_up e m j) v' → post (nI m) v') : wpY_event post v (nI j) := by
  obtain ⟨tok, fc, hd, st, rfl, h1, h2⟩ := Y
  refine br_f (nI_pos (by omega)) (pk_le j 15 (fun _ => pk_lt m 200 (fun _ => And.intro (pk_in m 201 (by omega)) ?_) (fun z => absurd z (by omega))) (fun z => absurd z (by omega)))
  refine nm_r (e' := upd fc m (nI j)) (by rw [nI_clamp (show m < 2 ^ 31 by omega)]) (nm_r (nI_1 m) ?_)
  rw [nI_pred]
  exact hp _ ⟨_, _, _, _, rfl, h1, pm_tokup h2⟩
theorem py_undo0 {post : Int32 → SY → Prop} {w n : Nat} {c e : Nat → Nat} {v : SY} (Y : pm_Y w n 0 c e v) (hp : post (-1) v) : wpY_undo post v := by
  obtain ⟨tok, fc, hd, st, rfl, h1, h2⟩ := Y
  exact br_t nI_0 hp
theorem py_undo1 {post : Int32 → SY → Prop} {w n m : Nat} {c e : Nat → Nat} {v : SY} (hm : m < 200) (Y : pm_Y w n (m + 1) c e v) (hp : ∀ v', pm_Y w n m c e v' → post (nI m) v') : wpY_undo post v := by
  obtain ⟨tok, fc, hd, st, rfl, h1, h2⟩ := Y
  refine br_f (nI_ne0 (by omega) (by omega)) (nm_r (nI_pred m) ?_)
  exact hp _ ⟨_, _, _, _, rfl, h1, fun j hj => h2 j (by omega)⟩
theorem py_all {post : SY → Prop} {w n m : Nat} {c e : Nat → Nat} {v : SY} (B : pm_B w n m c e) (Y : pm_Y w n m c e v) (h0 : pm_N c n = 0) (K : ∀ tok fc hd st : Nat → Int32, (∀ j, j < n → tok j = nI (c j)) → (∀ j, j < m → fc j = nI (e j)) → (∀ s, s < m → hd s = nI (pm_b (pm_R w e c n s))) → post (nI w, nI n, nI m, tok, fc, hd, st)) : wpY_work post v (nI m) := by
  obtain ⟨b1, b2, b3, b4, b5, b6⟩ := B
  obtain ⟨tok, fc, hd, st, rfl, h1, h2⟩ := Y
  exact py_work b1 b2 (pm_n1 h0) (by omega) b4 (pm_ex (w := w) (e := e) b6 h0) h1 h2 b5 (fun hd' st' a => K tok fc hd' st' h1 h2 a)
theorem py_at {post : Int32 → SY → Prop} {w n m t : Nat} {c e : Nat → Nat} {v : SY} (B : pm_B w n m c e) (Y : pm_Y w n m c e v) (ht : t < m) (h0 : pm_N c n = 0) (hp : ∀ v', pm_Y w n m c e v' → post (nI (pm_b (pm_R w e c n t))) v') : wpY_at post v (nI t) := by
  have Y0 := Y
  have hm : m ≤ 200 := B.2.2.1
  obtain ⟨tok, fc, hd, st, rfl, h1, h2⟩ := Y
  refine br_f (nI_pos (by omega)) (pk_le m t (fun h => absurd h (by omega)) (fun _ => ?_))
  refine py_complete_t B Y0 h0 (br_f pm_f1 ?_)
  refine py_all B Y0 h0 (fun tok fc hd st a b d => And.intro (pk_in t 2814 (by omega)) ?_)
  rw [nI_clamp (show t < 2 ^ 31 by omega), d t ht]
  exact And.intro (pm_narrow _) (hp _ ⟨_, _, _, _, rfl, a, b⟩)
theorem py_at_neg {post : Int32 → SY → Prop} {w n m : Nat} {c e : Nat → Nat} {v : SY} {v1 : Int32} (Y : pm_Y w n m c e v) (hv : v1 < 0) (hp : post 0 v) : wpY_at post v v1 := by
  obtain ⟨tok, fc, hd, st, rfl, h1, h2⟩ := Y
  exact br_t hv hp
theorem py_at_no {post : Int32 → SY → Prop} {w n m t : Nat} {c e : Nat → Nat} {v : SY} (B : pm_B w n m c e) (Y : pm_Y w n m c e v) (ht : t < 2 ^ 31) (h : m ≤ t ∨ ¬ pm_N c n = 0) (hp : post 0 v) : wpY_at post v (nI t) := by
  have Y0 := Y
  have hm : m ≤ 200 := B.2.2.1
  obtain ⟨tok, fc, hd, st, rfl, h1, h2⟩ := Y
  refine br_f (nI_pos ht) (pk_le m t (fun _ => hp) (fun h3 => ?_))
  exact py_complete_f B Y0 (by omega) (br_t pm_t0 hp)
theorem py_now1 {post : Int32 → SY → Prop} {w n m : Nat} {c e : Nat → Nat} {v : SY} (B : pm_B w n (m + 1) c e) (Y : pm_Y w n (m + 1) c e v) (h0 : pm_N c n = 0) (hp : ∀ v', pm_Y w n (m + 1) c e v' → post (nI (pm_b (pm_R w e c n m))) v') : wpY_now post v := by
  have Y0 := Y
  obtain ⟨tok, fc, hd, st, rfl, h1, h2⟩ := Y
  unfold wpY_now
  dsimp only
  rw [nI_pred]
  refine py_at B Y0 (by omega) h0 (fun v' Y' => ?_)
  obtain ⟨tok', fc', hd', st', rfl, h1', h2'⟩ := Y'
  exact And.intro (pm_narrow _) (hp _ ⟨_, _, _, _, rfl, h1', h2'⟩)
theorem py_now0 {post : Int32 → SY → Prop} {w n m : Nat} {c e : Nat → Nat} {v : SY} (B : pm_B w n m c e) (Y : pm_Y w n m c e v) (h : m = 0 ∨ ¬ pm_N c n = 0) (hp : post 0 v) : wpY_now post v := by
  have Y0 := Y
  have hm : m ≤ 200 := B.2.2.1
  obtain ⟨tok, fc, hd, st, rfl, h1, h2⟩ := Y
  unfold wpY_now
  dsimp only
  rw [pm_k_sub]
  cases m with
  | zero => exact py_at_neg Y0 pm_k_neg (And.intro (pm_narrow false) hp)
  | succ m => exact py_at_no (t := m) B Y0 (by omega) (by omega) (And.intro (pm_narrow false) hp)
theorem py_cnt {post : Int32 → SY → Prop} {w tc : Int32} {tok fc hd st : Nat → Int32} {m : Nat} {B : Nat → Bool} (hm : m ≤ 200) (hd' : ∀ s, s < m → hd s = nI (pm_b (B s))) (hp : post (nI (pm_cnt B m)) (w, tc, nI m, tok, fc, hd, st)) : ∀ r t : Nat, t + r = m → wY_count_21 post w tc (nI m) tok fc hd st (r + 1) (nI (pm_cnt B t)) (nI t) := by
  intro r
  induction r with
  | zero =>
    intro t ht
    have ht' : t = m := ht
    subst ht'
    exact pk_le t t (fun _ => hp) (fun h => absurd h (by omega))
  | succ r ih =>
    intro t ht
    refine pk_le m t (fun h => absurd h (by omega)) (fun _ => And.intro (pk_in t 2814 (by omega)) ?_)
    rw [nI_clamp (show t < 2 ^ 31 by omega), hd' t (by omega)]
    have ih' := ih (t + 1) (by omega)
    have e1 : pm_cnt B (t + 1) = pm_cnt B t + pm_b (B t) := rfl
    rw [e1] at ih'
    cases hb : B t with
    | false =>
      rw [hb] at ih'
      exact br_t pm_t0 (nm_r (Int32.add_zero _) (nm_r (nI_1 t) ih'))
    | true =>
      rw [hb] at ih'
      exact br_f pm_f1 (nm_r (nI_1 _) (nm_r (nI_1 t) ih'))
theorem py_count0 {post : Int32 → SY → Prop} {w n m : Nat} {c e : Nat → Nat} {v : SY} (B : pm_B w n m c e) (Y : pm_Y w n m c e v) (h0 : ¬ pm_N c n = 0) (hp : post (-1) v) : wpY_count post v := by
  have Y0 := Y
  obtain ⟨tok, fc, hd, st, rfl, h1, h2⟩ := Y
  unfold wpY_count
  dsimp only
  exact py_complete_f B Y0 h0 (br_t pm_t0 hp)
theorem py_count {post : Int32 → SY → Prop} {w n m : Nat} {c e : Nat → Nat} {v : SY} (B : pm_B w n m c e) (Y : pm_Y w n m c e v) (h0 : pm_N c n = 0) (hp : ∀ v', pm_Y w n m c e v' → post (nI (pm_cnt (pm_R w e c n) m)) v') : wpY_count post v := by
  have Y0 := Y
  have hm : m ≤ 200 := B.2.2.1
  obtain ⟨tok, fc, hd, st, rfl, h1, h2⟩ := Y
  unfold wpY_count
  dsimp only
  refine py_complete_t B Y0 h0 (br_f pm_f1 ?_)
  refine py_all B Y0 h0 (fun tok fc hd st a b d => Exists.intro (m + 1) ?_)
  exact py_cnt hm d (hp _ ⟨_, _, _, _, rfl, a, b⟩) m 0 (by omega)
theorem py_vio {post : Int32 → SY → Prop} {w tc : Int32} {tok fc hd st : Nat → Int32} {m : Nat} {B : Nat → Bool} (hm : m ≤ 200) (hd' : ∀ s, s < m → hd s = nI (pm_b (B s))) : ∀ r s : Nat, m - s = r → s < 2 ^ 31 → post (pm_vio B s r) (w, tc, nI m, tok, fc, hd, st) → wY_violation_23 post w tc (nI m) tok fc hd st (r + 1) (nI s) := by
  intro r
  induction r with
  | zero =>
    intro s hs hs2 hp
    exact pk_le m s (fun _ => hp) (fun h => absurd h (by omega))
  | succ r ih =>
    intro s hs hs2 hp
    refine pk_le m s (fun h => absurd h (by omega)) (fun _ => And.intro (pk_in s 2814 (by omega)) ?_)
    rw [nI_clamp hs2, hd' s (by omega)]
    have hp' : post (cond (B s) (pm_vio B (s + 1) r) (nI s)) (w, tc, nI m, tok, fc, hd, st) := hp
    cases hb : B s with
    | false =>
      rw [hb] at hp'
      exact br_t pm_t0 hp'
    | true =>
      rw [hb] at hp'
      exact br_f pm_f1 (nm_r (nI_1 s) (ih (s + 1) (by omega) (by omega) hp'))
theorem py_viol_neg {post : Int32 → SY → Prop} {w n m : Nat} {c e : Nat → Nat} {v : SY} {v1 : Int32} (Y : pm_Y w n m c e v) (hv : v1 < 0) (hp : post (-1) v) : wpY_violation post v v1 := by
  obtain ⟨tok, fc, hd, st, rfl, h1, h2⟩ := Y
  exact br_t hv hp
theorem py_viol0 {post : Int32 → SY → Prop} {w n m t : Nat} {c e : Nat → Nat} {v : SY} (B : pm_B w n m c e) (Y : pm_Y w n m c e v) (ht : t < 2 ^ 31) (h0 : ¬ pm_N c n = 0) (hp : post (-1) v) : wpY_violation post v (nI t) := by
  have Y0 := Y
  obtain ⟨tok, fc, hd, st, rfl, h1, h2⟩ := Y
  exact br_f (nI_pos ht) (py_complete_f B Y0 h0 (br_t pm_t0 hp))
theorem py_viol {post : Int32 → SY → Prop} {w n m t : Nat} {c e : Nat → Nat} {v : SY} (B : pm_B w n m c e) (Y : pm_Y w n m c e v) (ht : t < 2 ^ 31) (h0 : pm_N c n = 0) (hp : ∀ v', pm_Y w n m c e v' → post (pm_vio (pm_R w e c n) t (m - t)) v') : wpY_violation post v (nI t) := by
  have Y0 := Y
  have hm : m ≤ 200 := B.2.2.1
  obtain ⟨tok, fc, hd, st, rfl, h1, h2⟩ := Y
  refine br_f (nI_pos ht) (py_complete_t B Y0 h0 (br_f pm_f1 ?_))
  refine py_all B Y0 h0 (fun tok fc hd st a b d => Exists.intro (m - t + 1) ?_)
  exact py_vio hm d (m - t) t rfl ht (hp _ ⟨_, _, _, _, rfl, a, b⟩)
theorem py_stk {post : Int32 → SY → Prop} {w tc : Int32} {tok fc hd st : Nat → Int32} {m : Nat} {B : Nat → Bool} (hm : m ≤ 200) (hd' : ∀ s, s < m → hd s = nI (pm_b (B s))) : ∀ r l : Nat, l + r = m → post (nI (l + pm_stk B r)) (w, tc, nI m, tok, fc, hd, st) → wY_streak_19 post w tc (nI m) tok fc hd st (r + 1) (nI l) := by
  intro r
  induction r with
  | zero =>
    intro l hl hp
    exact pk_le m l (fun _ => hp) (fun h => absurd h (by omega))
  | succ r ih =>
    intro l hl hp
    refine pk_le m l (fun h => absurd h (by omega)) (fun _ => ?_)
    rw [pm_sub1 (show 1 ≤ m by omega), pk_sub (show l ≤ m - 1 by omega), show m - 1 - l = r by omega]
    refine And.intro (pk_in r 2814 (by omega)) ?_
    rw [nI_clamp (show r < 2 ^ 31 by omega), hd' r (by omega)]
    have e1 : pm_stk B (r + 1) = cond (B r) (pm_stk B r + 1) 0 := rfl
    rw [e1] at hp
    cases hb : B r with
    | false =>
      rw [hb] at hp
      exact br_t pm_t0 hp
    | true =>
      rw [hb] at hp
      refine br_f pm_f1 (nm_r (nI_1 l) (ih (l + 1) (by omega) ?_))
      rw [show l + 1 + pm_stk B r = l + (pm_stk B r + 1) by omega]
      exact hp
theorem py_streak0 {post : Int32 → SY → Prop} {w n m : Nat} {c e : Nat → Nat} {v : SY} (B : pm_B w n m c e) (Y : pm_Y w n m c e v) (h0 : ¬ pm_N c n = 0) (hp : post (-1) v) : wpY_streak post v := by
  have Y0 := Y
  obtain ⟨tok, fc, hd, st, rfl, h1, h2⟩ := Y
  unfold wpY_streak
  dsimp only
  exact py_complete_f B Y0 h0 (br_t pm_t0 hp)
theorem py_streak {post : Int32 → SY → Prop} {w n m : Nat} {c e : Nat → Nat} {v : SY} (B : pm_B w n m c e) (Y : pm_Y w n m c e v) (h0 : pm_N c n = 0) (hp : ∀ v', pm_Y w n m c e v' → post (nI (pm_stk (pm_R w e c n) m)) v') : wpY_streak post v := by
  have Y0 := Y
  have hm : m ≤ 200 := B.2.2.1
  obtain ⟨tok, fc, hd, st, rfl, h1, h2⟩ := Y
  unfold wpY_streak
  dsimp only
  refine py_complete_t B Y0 h0 (br_f pm_f1 ?_)
  refine py_all B Y0 h0 (fun tok fc hd st a b d => Exists.intro (m + 1) ?_)
  refine py_stk hm d m 0 (by omega) ?_
  rw [Nat.zero_add]
  exact hp _ ⟨_, _, _, _, rfl, a, b⟩
theorem py_would_neg {post : Int32 → SY → Prop} {w n m : Nat} {c e : Nat → Nat} {v : SY} {v1 : Int32} (Y : pm_Y w n m c e v) (hv : v1 < 0) (hp : post 0 v) : wpY_wouldHold post v v1 := by
  obtain ⟨tok, fc, hd, st, rfl, h1, h2⟩ := Y
  exact br_t hv hp
theorem py_would_no {post : Int32 → SY → Prop} {w n m j : Nat} {c e : Nat → Nat} {v : SY} (Y : pm_Y w n m c e v) (hj : j < 2 ^ 31) (h : 16 ≤ j) (hp : post 0 v) : wpY_wouldHold post v (nI j) := by
  obtain ⟨tok, fc, hd, st, rfl, h1, h2⟩ := Y
  exact br_f (nI_pos hj) (pk_lt 15 j (fun _ => hp) (fun z => absurd z (by omega)))
theorem py_would {post : Int32 → SY → Prop} {w n m x : Nat} {c e : Nat → Nat} {v : SY} (B : pm_B w n m c e) (Y : pm_Y w n m c e v) (hx : x < 16) (hp : ∀ v', pm_Y w n m c e v' → post (nI (pm_b (pm_W w e c n m x))) v') : wpY_wouldHold post v (nI x) := by
  have Y0 := Y
  have B0 := B
  obtain ⟨b1, b2, b3, b4, b5, b6⟩ := B
  obtain ⟨tok, fc, hd, st, rfl, h1, h2⟩ := Y
  refine br_f (nI_pos (by omega)) (pk_lt 15 x (fun z => absurd z (by omega)) (fun _ => ?_))
  by_cases h0 : pm_N c n = 0
  · have eW : pm_W w e c n m x = pm_V w (pm_up e m x) c n n 0 m := by
      unfold pm_W pm_R
      rw [decide_eq_true h0, Bool.true_and]
    refine py_complete_t B0 Y0 h0 (br_f pm_f1 (And.intro (pk_in m 201 (by omega)) (nm_r (e' := upd fc m (nI x)) (by rw [nI_clamp (show m < 2 ^ 31 by omega)]) ?_)))
    rw [nI_1 m]
    refine py_work (e := pm_up e m x) b1 b2 (pm_n1 h0) (by omega) b4 (pm_ex (w := w) (e := pm_up e m x) b6 h0) h1 (pm_tokup h2) ?_ (fun hd' st' a => ?_)
    · intro u hu
      by_cases hum : u = m
      · rw [hum, pm_up_s]
        exact hx
      · rw [pm_up_n hum]
        exact b5 u (by omega)
    · refine And.intro (pk_in m 2814 (by omega)) ?_
      rw [nI_clamp (show m < 2 ^ 31 by omega), a m (by omega), ← eW]
      refine And.intro (pm_narrow _) (hp _ ⟨_, _, _, _, rfl, h1, fun j hj => ?_⟩)
      rw [pk_un (by omega)]
      exact h2 j hj
  · have eW : pm_W w e c n m x = false := by
      unfold pm_W
      rw [decide_eq_false h0, Bool.false_and]
    have hp' := hp _ Y0
    rw [eW] at hp'
    exact py_complete_f B0 Y0 h0 (br_t pm_t0 hp')
theorem py_alw {post : Int32 → SY → Prop} {w n m : Nat} {c e : Nat → Nat} (B : pm_B w n m c e) (hp : ∀ v', pm_Y w n m c e v' → post (nI (pm_cnt (pm_W w e c n m) 16)) v') : ∀ r x : Nat, x + r = 16 → ∀ tok fc hd st : Nat → Int32, (∀ j, j < n → tok j = nI (c j)) → (∀ j, j < m → fc j = nI (e j)) → wY_allowed_4 post (r + 1) (nI (pm_cnt (pm_W w e c n m) x)) (nI x) (nI w) (nI n) (nI m) tok fc hd st := by
  intro r
  induction r with
  | zero =>
    intro x hx tok fc hd st h1 h2
    have hx' : x = 16 := hx
    subst hx'
    exact pk_le 16 16 (fun _ => hp _ ⟨_, _, _, _, rfl, h1, h2⟩) (fun h => absurd h (by omega))
  | succ r ih =>
    intro x hx tok fc hd st h1 h2
    refine pk_le 16 x (fun h => absurd h (by omega)) (fun _ => ?_)
    refine py_would B ⟨_, _, _, _, rfl, h1, h2⟩ (by omega) (fun v' Y' => ?_)
    obtain ⟨tok', fc', hd', st', rfl, h1', h2'⟩ := Y'
    have ih' := ih (x + 1) (by omega) tok' fc' hd' st' h1' h2'
    have e1 : pm_cnt (pm_W w e c n m) (x + 1) = pm_cnt (pm_W w e c n m) x + pm_b (pm_W w e c n m x) := rfl
    rw [e1] at ih'
    cases hb : pm_W w e c n m x with
    | false =>
      rw [hb] at ih'
      exact br_t pm_t0 (nm_r (Int32.add_zero _) (nm_r (nI_1 x) ih'))
    | true =>
      rw [hb] at ih'
      exact br_f pm_f1 (nm_r (nI_1 _) (nm_r (nI_1 x) ih'))
theorem py_allowed {post : Int32 → SY → Prop} {w n m : Nat} {c e : Nat → Nat} {v : SY} (B : pm_B w n m c e) (Y : pm_Y w n m c e v) (hp : ∀ v', pm_Y w n m c e v' → post (nI (pm_cnt (pm_W w e c n m) 16)) v') : wpY_allowed post v := by
  obtain ⟨tok, fc, hd, st, rfl, h1, h2⟩ := Y
  exact Exists.intro 17 (py_alw B hp 16 0 (by omega) tok fc hd st h1 h2)
