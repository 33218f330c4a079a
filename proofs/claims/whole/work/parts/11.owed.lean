/-- both sides by the same naturals: window w, n tokens c, m events e -/
def i_Rel (k : Nat) (u : SX) (v : SY) : Prop := ∃ (w n m : Nat) (c e : Nat → Nat), pm_B w n m c e ∧ pm_X w n m c e u ∧ pm_Y w n m c e v
theorem i_up {k : Nat} {u : SX} {v : SY} (h : i_Rel k u v) : i_Rel (k + 2) u v := h
theorem pm_rel0 {w : Nat} (hw : w ≤ 12) : i_Rel 1 (nI w, 0, 0, (fun _ => 0), (fun _ => 0), (fun _ => 0), (fun _ => 0)) (nI w, 0, 0, (fun _ => 0), (fun _ => 0), (fun _ => 0), (fun _ => 0)) :=
  ⟨w, 0, 0, fun _ => 0, fun _ => 0, ⟨hw, by omega, by omega, fun j hj => absurd hj (by omega), fun j hj => absurd hj (by omega), fun j hj => absurd hj (by omega)⟩, ⟨_, _, _, _, rfl, fun j hj => absurd hj (by omega), fun j hj => absurd hj (by omega)⟩, ⟨_, _, _, _, rfl, fun j hj => absurd hj (by omega), fun j hj => absurd hj (by omega)⟩⟩
theorem i_vc0 (k0 : Int32) : wpX_init (fun u => wpY_init (fun v => i_Rel 1 u v) k0) k0 := by
  by_cases h0 : 0 ≤ k0
  · obtain ⟨j, hj, rfl⟩ := nI_of (x := k0) (Int32.not_lt.mpr h0)
    refine br_t h0 (pk_le j 12 (fun h => br_t h0 (pk_le j 12 (fun _ => pm_rel0 h) (fun z => absurd z (by omega)))) (fun h => br_t h0 (pk_le j 12 (fun z => absurd z (by omega)) (fun _ => pm_rel0 (w := 12) (by omega)))))
  · exact br_f h0 (br_f h0 (pm_rel0 (w := 0) (by omega)))
theorem i_vc_feed {k : Nat} {u : SX} {v : SY} (I : i_Rel k u v) (hk : k + 2 ≤ 1025) (v1 : Int32) : wpX_feed (fun r u' => wpY_feed (fun r' v' => r' = r ∧ i_Rel (k + 2) u' v') v v1) u v1 := by
  obtain ⟨w, n, m, c, e, B, X, Y⟩ := I
  have R : i_Rel (k + 2) u v := ⟨w, n, m, c, e, B, X, Y⟩
  by_cases hv : v1 < 0
  · exact px_feed_neg X hv (py_feed_neg Y hv ⟨rfl, R⟩)
  · obtain ⟨j, hj, rfl⟩ := nI_of hv
    by_cases h : 12 < j ∨ 14 ≤ n ∨ pm_N c n = 0
    · exact px_feed_no B X hj h (py_feed_no B Y hj h ⟨rfl, R⟩)
    · have h1 : j ≤ 12 := by omega
      have h2 : n < 14 := by omega
      have h3 : ¬ pm_N c n = 0 := by omega
      exact px_feed_ok B X h1 h2 h3 (fun u' X' => py_feed_ok B Y h1 h2 h3 (fun v' Y' => ⟨rfl, w, n + 1, m, _, e, pm_B_feed B h2 h1 h3, X', Y'⟩))
theorem i_vc_back {k : Nat} {u : SX} {v : SY} (I : i_Rel k u v) (hk : k + 2 ≤ 1025) : wpX_back (fun r u' => wpY_back (fun r' v' => r' = r ∧ i_Rel (k + 2) u' v') v) u := by
  obtain ⟨w, n, m, c, e, B, X, Y⟩ := I
  have R : i_Rel (k + 2) u v := ⟨w, n, m, c, e, B, X, Y⟩
  cases n with
  | zero => exact px_back0 X (py_back0 Y ⟨rfl, R⟩)
  | succ n =>
    have hn : n < 14 := by
      have := B.2.1
      omega
    exact px_back1 hn X (fun u' X' => py_back1 hn Y (fun v' Y' => ⟨rfl, w, n, m, c, e, pm_B_back B, X', Y'⟩))
theorem i_vc_complete {k : Nat} {u : SX} {v : SY} (I : i_Rel k u v) (hk : k + 2 ≤ 1025) : wpX_complete (fun r => wpY_complete (fun r' => r' = r ∧ i_Rel (k + 2) u v) v) u := by
  obtain ⟨w, n, m, c, e, B, X, Y⟩ := I
  have R : i_Rel (k + 2) u v := ⟨w, n, m, c, e, B, X, Y⟩
  exact px_complete B X (py_complete B Y ⟨rfl, R⟩)
theorem i_vc_window {k : Nat} {u : SX} {v : SY} (I : i_Rel k u v) (hk : k + 2 ≤ 1025) : wpX_window (fun r => wpY_window (fun r' => r' = r ∧ i_Rel (k + 2) u v) v) u := by
  obtain ⟨w, n, m, c, e, B, X, Y⟩ := I
  have R : i_Rel (k + 2) u v := ⟨w, n, m, c, e, B, X, Y⟩
  obtain ⟨tok, tk, hd, mem, rfl, x1, x2⟩ := X
  obtain ⟨tok', fc, hd', st, rfl, y1, y2⟩ := Y
  exact And.intro rfl R
theorem i_vc_event {k : Nat} {u : SX} {v : SY} (I : i_Rel k u v) (hk : k + 2 ≤ 1025) (v1 : Int32) : wpX_event (fun r u' => wpY_event (fun r' v' => r' = r ∧ i_Rel (k + 2) u' v') v v1) u v1 := by
  obtain ⟨w, n, m, c, e, B, X, Y⟩ := I
  have R : i_Rel (k + 2) u v := ⟨w, n, m, c, e, B, X, Y⟩
  by_cases hv : v1 < 0
  · exact px_event_neg X hv (py_event_neg Y hv ⟨rfl, R⟩)
  · obtain ⟨j, hj, rfl⟩ := nI_of hv
    by_cases h : 16 ≤ j
    · exact px_event_no X hj h (py_event_no Y hj h ⟨rfl, R⟩)
    · have h1 : j < 16 := by omega
      by_cases hm : m < 200
      · exact px_event_ok X hm h1 (fun u' X' => py_event_ok Y hm h1 (fun v' Y' => ⟨rfl, w, n, m + 1, c, _, pm_B_event B hm h1, X', Y'⟩))
      · have h200 : m = 200 := by
          have := B.2.2.1
          omega
        subst h200
        exact px_event_full X h1 (py_event_full Y h1 ⟨rfl, R⟩)
theorem i_vc_undo {k : Nat} {u : SX} {v : SY} (I : i_Rel k u v) (hk : k + 2 ≤ 1025) : wpX_undo (fun r u' => wpY_undo (fun r' v' => r' = r ∧ i_Rel (k + 2) u' v') v) u := by
  obtain ⟨w, n, m, c, e, B, X, Y⟩ := I
  have R : i_Rel (k + 2) u v := ⟨w, n, m, c, e, B, X, Y⟩
  cases m with
  | zero => exact px_undo0 X (py_undo0 Y ⟨rfl, R⟩)
  | succ m =>
    have hm : m < 200 := by
      have := B.2.2.1
      omega
    exact px_undo1 hm X (fun u' X' => py_undo1 hm Y (fun v' Y' => ⟨rfl, w, n, m, c, e, pm_B_less B (by omega), X', Y'⟩))
theorem i_vc_restart {k : Nat} {u : SX} {v : SY} (I : i_Rel k u v) (hk : k + 2 ≤ 1025) : wpX_restart (fun u' => wpY_restart (fun v' => i_Rel (k + 2) u' v') v) u := by
  obtain ⟨w, n, m, c, e, B, X, Y⟩ := I
  obtain ⟨tok, tk, hd, mem, rfl, x1, x2⟩ := X
  obtain ⟨tok', fc, hd', st, rfl, y1, y2⟩ := Y
  exact ⟨w, n, 0, c, e, pm_B_less B (Nat.zero_le _), ⟨_, _, _, _, rfl, x1, fun j hj => absurd hj (by omega)⟩, ⟨_, _, _, _, rfl, y1, fun j hj => absurd hj (by omega)⟩⟩
theorem i_vc_events {k : Nat} {u : SX} {v : SY} (I : i_Rel k u v) (hk : k + 2 ≤ 1025) : wpX_events (fun r => wpY_events (fun r' => r' = r ∧ i_Rel (k + 2) u v) v) u := by
  obtain ⟨w, n, m, c, e, B, X, Y⟩ := I
  have R : i_Rel (k + 2) u v := ⟨w, n, m, c, e, B, X, Y⟩
  obtain ⟨tok, tk, hd, mem, rfl, x1, x2⟩ := X
  obtain ⟨tok', fc, hd', st, rfl, y1, y2⟩ := Y
  exact And.intro rfl R
theorem i_vc_now {k : Nat} {u : SX} {v : SY} (I : i_Rel k u v) (hk : k + 2 ≤ 1025) : wpX_now (fun r u' => wpY_now (fun r' v' => r' = r ∧ i_Rel (k + 2) u' v') v) u := by
  obtain ⟨w, n, m, c, e, B, X, Y⟩ := I
  have R : i_Rel (k + 2) u v := ⟨w, n, m, c, e, B, X, Y⟩
  by_cases h0 : pm_N c n = 0
  · cases m with
    | zero => exact px_now0 B X (Or.inl rfl) (py_now0 B Y (Or.inl rfl) ⟨rfl, R⟩)
    | succ m => exact px_now1 B X h0 (fun u' X' => py_now1 B Y h0 (fun v' Y' => ⟨rfl, w, n, m + 1, c, e, B, X', Y'⟩))
  · exact px_now0 B X (Or.inr h0) (py_now0 B Y (Or.inr h0) ⟨rfl, R⟩)
theorem i_vc_at {k : Nat} {u : SX} {v : SY} (I : i_Rel k u v) (hk : k + 2 ≤ 1025) (v1 : Int32) : wpX_at (fun r u' => wpY_at (fun r' v' => r' = r ∧ i_Rel (k + 2) u' v') v v1) u v1 := by
  obtain ⟨w, n, m, c, e, B, X, Y⟩ := I
  have R : i_Rel (k + 2) u v := ⟨w, n, m, c, e, B, X, Y⟩
  by_cases hv : v1 < 0
  · exact px_at_neg X hv (py_at_neg Y hv ⟨rfl, R⟩)
  · obtain ⟨j, hj, rfl⟩ := nI_of hv
    by_cases h : m ≤ j ∨ ¬ pm_N c n = 0
    · exact px_at_no B X hj h (py_at_no B Y hj h ⟨rfl, R⟩)
    · have h1 : j < m := by omega
      have h0 : pm_N c n = 0 := by omega
      exact px_at B X h1 h0 (fun u' X' => py_at B Y h1 h0 (fun v' Y' => ⟨rfl, w, n, m, c, e, B, X', Y'⟩))
theorem i_vc_count {k : Nat} {u : SX} {v : SY} (I : i_Rel k u v) (hk : k + 2 ≤ 1025) : wpX_count (fun r u' => wpY_count (fun r' v' => r' = r ∧ i_Rel (k + 2) u' v') v) u := by
  obtain ⟨w, n, m, c, e, B, X, Y⟩ := I
  have R : i_Rel (k + 2) u v := ⟨w, n, m, c, e, B, X, Y⟩
  by_cases h0 : pm_N c n = 0
  · exact px_count B X h0 (fun u' X' => py_count B Y h0 (fun v' Y' => ⟨rfl, w, n, m, c, e, B, X', Y'⟩))
  · exact px_count0 B X h0 (py_count0 B Y h0 ⟨rfl, R⟩)
theorem i_vc_streak {k : Nat} {u : SX} {v : SY} (I : i_Rel k u v) (hk : k + 2 ≤ 1025) : wpX_streak (fun r u' => wpY_streak (fun r' v' => r' = r ∧ i_Rel (k + 2) u' v') v) u := by
  obtain ⟨w, n, m, c, e, B, X, Y⟩ := I
  have R : i_Rel (k + 2) u v := ⟨w, n, m, c, e, B, X, Y⟩
  by_cases h0 : pm_N c n = 0
  · exact px_streak B X h0 (fun u' X' => py_streak B Y h0 (fun v' Y' => ⟨rfl, w, n, m, c, e, B, X', Y'⟩))
  · exact px_streak0 B X h0 (py_streak0 B Y h0 ⟨rfl, R⟩)
theorem i_vc_violation {k : Nat} {u : SX} {v : SY} (I : i_Rel k u v) (hk : k + 2 ≤ 1025) (v1 : Int32) : wpX_violation (fun r u' => wpY_violation (fun r' v' => r' = r ∧ i_Rel (k + 2) u' v') v v1) u v1 := by
  obtain ⟨w, n, m, c, e, B, X, Y⟩ := I
  have R : i_Rel (k + 2) u v := ⟨w, n, m, c, e, B, X, Y⟩
  by_cases hv : v1 < 0
  · exact px_viol_neg X hv (py_viol_neg Y hv ⟨rfl, R⟩)
  · obtain ⟨j, hj, rfl⟩ := nI_of hv
    by_cases h0 : pm_N c n = 0
    · exact px_viol B X hj h0 (fun u' X' => py_viol B Y hj h0 (fun v' Y' => ⟨rfl, w, n, m, c, e, B, X', Y'⟩))
    · exact px_viol0 B X hj h0 (py_viol0 B Y hj h0 ⟨rfl, R⟩)
theorem i_vc_wouldHold {k : Nat} {u : SX} {v : SY} (I : i_Rel k u v) (hk : k + 2 ≤ 1025) (v1 : Int32) : wpX_wouldHold (fun r u' => wpY_wouldHold (fun r' v' => r' = r ∧ i_Rel (k + 2) u' v') v v1) u v1 := by
  obtain ⟨w, n, m, c, e, B, X, Y⟩ := I
  have R : i_Rel (k + 2) u v := ⟨w, n, m, c, e, B, X, Y⟩
  by_cases hv : v1 < 0
  · exact px_would_neg X hv (py_would_neg Y hv ⟨rfl, R⟩)
  · obtain ⟨j, hj, rfl⟩ := nI_of hv
    by_cases h : 16 ≤ j
    · exact px_would_no X hj h (py_would_no Y hj h ⟨rfl, R⟩)
    · have h1 : j < 16 := by omega
      exact px_would B X h1 (fun u' X' => py_would B Y h1 (fun v' Y' => ⟨rfl, w, n, m, c, e, B, X', Y'⟩))
theorem i_vc_allowed {k : Nat} {u : SX} {v : SY} (I : i_Rel k u v) (hk : k + 2 ≤ 1025) : wpX_allowed (fun r u' => wpY_allowed (fun r' v' => r' = r ∧ i_Rel (k + 2) u' v') v) u := by
  obtain ⟨w, n, m, c, e, B, X, Y⟩ := I
  have R : i_Rel (k + 2) u v := ⟨w, n, m, c, e, B, X, Y⟩
  exact px_allowed B X (fun u' X' => py_allowed B Y (fun v' Y' => ⟨rfl, w, n, m, c, e, B, X', Y'⟩))
