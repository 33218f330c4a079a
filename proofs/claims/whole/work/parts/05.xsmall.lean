/-- the class's state: window w, n tokens c, m events e -/
def pm_X (w n m : Nat) (c e : Nat → Nat) (u : SX) : Prop := ∃ tok tk hd mem : Nat → Int32, u = (nI w, nI n, nI m, tok, tk, hd, mem) ∧ (∀ j, j < n → tok j = nI (c j)) ∧ (∀ j, j < m → tk j = nI (e j))
theorem pm_t0 : nI (pm_b false) = 0 := by decide +kernel
theorem pm_f1 : ¬ nI (pm_b true) = 0 := by decide +kernel
theorem pm_tokup {a : Nat → Int32} {c : Nat → Nat} {n x : Nat} (h : ∀ j, j < n → a j = nI (c j)) : ∀ j, j < n + 1 → upd a n (nI x) j = nI (pm_up c n x j) := by
  intro j hj
  by_cases hjn : j = n
  · rw [hjn, pk_us, pm_up_s]
  · rw [pk_un hjn, pm_up_n hjn]
    exact h j (by omega)
theorem px_op {post : Int32 → Prop} {c : Nat} (hc : c ≤ 12) (h : post (nI (pm_ar c))) : wpX_operands post (nI c) := by
  refine pk_le 4 c (fun h4 => ?_) (fun h4 => ?_)
  · refine pk_eq c 5 (fun h5 => ?_) (fun h5 => pk_eq c 6 (fun h6 => ?_) (fun h6 => pk_eq c 10 (fun h10 => ?_) (fun h10 => ?_)))
    · rw [show pm_ar c = 2 from by rw [h5]; rfl] at h
      exact h
    · rw [show pm_ar c = 2 from by rw [h6]; rfl] at h
      exact h
    · rw [show pm_ar c = 2 from by rw [h10]; rfl] at h
      exact h
    · rw [show pm_ar c = 1 from by unfold pm_ar; rw [if_neg (by omega), if_neg (by omega)]] at h
      exact h
  · rw [show pm_ar c = 0 from by unfold pm_ar; rw [if_pos (by omega)]] at h
    exact h
theorem px_comp {post : Int32 → Prop} {w ec : Int32} {tok tk hd mem : Nat → Int32} {n : Nat} {c : Nat → Nat} (hn : n ≤ 14) (hc : ∀ j, j < n → c j ≤ 12) (ht : ∀ j, j < n → tok j = nI (c j)) (hN : ∀ k, k < n → 1 ≤ pm_N c k) (hp : post (nI (pm_b (decide (pm_N c n = 0))))) : ∀ r i : Nat, i + r = n → wX_complete_4 post w (nI n) ec tok tk hd mem (r + 1) (nI (pm_N c i)) (nI i) := by
  intro r
  induction r with
  | zero =>
    intro i hi
    have hi' : i = n := hi
    have hb := pm_N_le c n
    rw [hi']
    refine pk_le n n (fun _ => ?_) (fun h => absurd h (by omega))
    refine pk_eq (pm_N c n) 0 (fun h0 => ?_) (fun h0 => ?_)
    · rw [decide_eq_true h0] at hp
      exact hp
    · rw [decide_eq_false h0] at hp
      exact hp
  | succ r ih =>
    intro i hi
    have hin : i < n := by omega
    refine pk_le n i (fun h => absurd h (by omega)) (fun _ => And.intro (pk_in i 14 (by omega)) ?_)
    rw [nI_clamp (show i < 2 ^ 31 by omega), ht i hin]
    refine px_op (hc i hin) ?_
    refine nm_r (pm_mis (hN i hin)) (nm_r (nI_1 i) ?_)
    exact ih (i + 1) (by omega)
theorem px_complete {post : Int32 → Prop} {w n m : Nat} {c e : Nat → Nat} {u : SX} (B : pm_B w n m c e) (X : pm_X w n m c e u) (hp : post (nI (pm_b (decide (pm_N c n = 0))))) : wpX_complete post u := by
  obtain ⟨b1, b2, b3, b4, b5, b6⟩ := B
  obtain ⟨tok, tk, hd, mem, rfl, h1, h2⟩ := X
  exact Exists.intro (n + 1) (px_comp b2 b4 h1 b6 hp n 0 (by omega))
theorem px_complete_t {post : Int32 → Prop} {w n m : Nat} {c e : Nat → Nat} {u : SX} (B : pm_B w n m c e) (X : pm_X w n m c e u) (h0 : pm_N c n = 0) (hp : post (nI (pm_b true))) : wpX_complete post u :=
  px_complete B X (by rw [decide_eq_true h0]; exact hp)
theorem px_complete_f {post : Int32 → Prop} {w n m : Nat} {c e : Nat → Nat} {u : SX} (B : pm_B w n m c e) (X : pm_X w n m c e u) (h0 : ¬ pm_N c n = 0) (hp : post (nI (pm_b false))) : wpX_complete post u :=
  px_complete B X (by rw [decide_eq_false h0]; exact hp)
theorem px_feed_neg {post : Int32 → SX → Prop} {w n m : Nat} {c e : Nat → Nat} {u : SX} {v1 : Int32} (X : pm_X w n m c e u) (hv : v1 < 0) (hp : post (-1) u) : wpX_feed post u v1 := by
  obtain ⟨tok, tk, hd, mem, rfl, h1, h2⟩ := X
  exact br_t hv hp
theorem px_feed_no {post : Int32 → SX → Prop} {w n m j : Nat} {c e : Nat → Nat} {u : SX} (B : pm_B w n m c e) (X : pm_X w n m c e u) (hj : j < 2 ^ 31) (h : 12 < j ∨ 14 ≤ n ∨ pm_N c n = 0) (hp : post (-1) u) : wpX_feed post u (nI j) := by
  have X0 := X
  have hn : n ≤ 14 := B.2.1
  obtain ⟨tok, tk, hd, mem, rfl, h1, h2⟩ := X
  refine br_f (nI_pos hj) (pk_lt 12 j (fun _ => hp) (fun h3 => pk_le 14 n (fun _ => hp) (fun h4 => ?_)))
  refine px_complete_t B X0 (by omega) ?_
  exact br_f pm_f1 hp
theorem px_feed_ok {post : Int32 → SX → Prop} {w n m x : Nat} {c e : Nat → Nat} {u : SX} (B : pm_B w n m c e) (X : pm_X w n m c e u) (hx : x ≤ 12) (hn : n < 14) (h0 : ¬ pm_N c n = 0) (hp : ∀ u', pm_X w (n + 1) m (pm_up c n x) e u' → post (nI (n + 1)) u') : wpX_feed post u (nI x) := by
  have X0 := X
  obtain ⟨tok, tk, hd, mem, rfl, h1, h2⟩ := X
  refine br_f (nI_pos (by omega)) (pk_lt 12 x (fun h => absurd h (by omega)) (fun _ => pk_le 14 n (fun h => absurd h (by omega)) (fun _ => ?_)))
  refine px_complete_f B X0 h0 ?_
  refine br_t pm_t0 (And.intro (pk_in n 14 hn) ?_)
  refine nm_r (e' := upd tok n (nI x)) (by rw [nI_clamp (show n < 2 ^ 31 by omega)]) (nm_r (nI_1 n) ?_)
  exact hp _ ⟨_, _, _, _, rfl, pm_tokup h1, h2⟩
theorem px_back0 {post : Int32 → SX → Prop} {w m : Nat} {c e : Nat → Nat} {u : SX} (X : pm_X w 0 m c e u) (hp : post (-1) u) : wpX_back post u := by
  obtain ⟨tok, tk, hd, mem, rfl, h1, h2⟩ := X
  exact br_t nI_0 hp
theorem px_back1 {post : Int32 → SX → Prop} {w n m : Nat} {c e : Nat → Nat} {u : SX} (hn : n < 14) (X : pm_X w (n + 1) m c e u) (hp : ∀ u', pm_X w n m c e u' → post (nI (c n)) u') : wpX_back post u := by
  obtain ⟨tok, tk, hd, mem, rfl, h1, h2⟩ := X
  refine br_f (nI_ne0 (by omega) (by omega)) (nm_r (nI_pred n) (And.intro (pk_in n 14 hn) ?_))
  rw [nI_clamp (show n < 2 ^ 31 by omega), h1 n (by omega)]
  exact hp _ ⟨_, _, _, _, rfl, fun j hj => h1 j (by omega), h2⟩
theorem px_fs_neg {post : Int32 → Prop} {v1 : Int32} (hv : v1 < 0) (hp : post 0) : wpX_isFactSet post v1 := br_t hv hp
theorem px_fs_no {post : Int32 → Prop} {j : Nat} (hj : j < 2 ^ 31) (h : 16 ≤ j) (hp : post 0) : wpX_isFactSet post (nI j) :=
  br_f (nI_pos hj) (pk_le 16 j (fun _ => hp) (fun h2 => absurd h2 (by omega)))
theorem px_fs_ok {post : Int32 → Prop} {j : Nat} (h : j < 16) (hp : post 1) : wpX_isFactSet post (nI j) :=
  br_f (nI_pos (by omega)) (pk_le 16 j (fun h2 => absurd h2 (by omega)) (fun _ => hp))
theorem px_event_neg {post : Int32 → SX → Prop} {w n m : Nat} {c e : Nat → Nat} {u : SX} {v1 : Int32} (X : pm_X w n m c e u) (hv : v1 < 0) (hp : post (-1) u) : wpX_event post u v1 := by
  obtain ⟨tok, tk, hd, mem, rfl, h1, h2⟩ := X
  unfold wpX_event
  dsimp only
  refine px_fs_neg hv ?_
  exact br_t rfl hp
theorem px_event_no {post : Int32 → SX → Prop} {w n m j : Nat} {c e : Nat → Nat} {u : SX} (X : pm_X w n m c e u) (hj : j < 2 ^ 31) (h : 16 ≤ j) (hp : post (-1) u) : wpX_event post u (nI j) := by
  obtain ⟨tok, tk, hd, mem, rfl, h1, h2⟩ := X
  unfold wpX_event
  dsimp only
  refine px_fs_no hj h ?_
  exact br_t rfl hp
theorem px_event_full {post : Int32 → SX → Prop} {w n j : Nat} {c e : Nat → Nat} {u : SX} (X : pm_X w n 200 c e u) (h : j < 16) (hp : post (-2) u) : wpX_event post u (nI j) := by
  obtain ⟨tok, tk, hd, mem, rfl, h1, h2⟩ := X
  unfold wpX_event
  dsimp only
  refine px_fs_ok h ?_
  exact br_f (by decide) (pk_lt 200 200 (fun h => absurd h (by omega)) (fun _ => hp))
theorem px_event_ok {post : Int32 → SX → Prop} {w n m j : Nat} {c e : Nat → Nat} {u : SX} (X : pm_X w n m c e u) (hm : m < 200) (h : j < 16) (hp : ∀ u', pm_X w n (m + 1) c (pm_up e m j) u' → post (nI m) u') : wpX_event post u (nI j) := by
  obtain ⟨tok, tk, hd, mem, rfl, h1, h2⟩ := X
  unfold wpX_event
  dsimp only
  refine px_fs_ok h ?_
  refine br_f (by decide) (pk_lt m 200 (fun _ => And.intro (pk_in m 200 hm) ?_) (fun h => absurd h (by omega)))
  refine nm_r (e' := upd tk m (nI j)) (by rw [nI_clamp (show m < 2 ^ 31 by omega)]) (nm_r (nI_1 m) ?_)
  rw [nI_pred]
  exact hp _ ⟨_, _, _, _, rfl, h1, pm_tokup h2⟩
theorem px_undo0 {post : Int32 → SX → Prop} {w n : Nat} {c e : Nat → Nat} {u : SX} (X : pm_X w n 0 c e u) (hp : post (-1) u) : wpX_undo post u := by
  obtain ⟨tok, tk, hd, mem, rfl, h1, h2⟩ := X
  exact br_t nI_0 hp
theorem px_undo1 {post : Int32 → SX → Prop} {w n m : Nat} {c e : Nat → Nat} {u : SX} (hm : m < 200) (X : pm_X w n (m + 1) c e u) (hp : ∀ u', pm_X w n m c e u' → post (nI m) u') : wpX_undo post u := by
  obtain ⟨tok, tk, hd, mem, rfl, h1, h2⟩ := X
  refine br_f (nI_ne0 (by omega) (by omega)) (nm_r (nI_pred m) ?_)
  exact hp _ ⟨_, _, _, _, rfl, h1, fun j hj => h2 j (by omega)⟩
