/-- the reference's state: window w, n tokens c, m events e -/
def pm_Y (w n m : Nat) (c e : Nat → Nat) (v : SY) : Prop := ∃ tok fc hd st : Nat → Int32, v = (nI w, nI n, nI m, tok, fc, hd, st) ∧ (∀ j, j < n → tok j = nI (c j)) ∧ (∀ j, j < m → fc j = nI (e j))
theorem pm_ix (g u : Nat) : (201 * nI g) + nI u = nI (201 * g + u) := by
  rw [show (201 : Int32) = nI 201 from rfl, pk_mul, nI_add]
theorem pm_in2 {g t : Nat} (hg : g < 14) (ht : t < 201) : vp_in ((201 * nI g) + nI t) 2814 := by
  rw [pm_ix]
  exact pk_in (201 * g + t) 2814 (by omega)
theorem pm_at2 {g t : Nat} (hg : g < 14) (ht : t < 201) : ((201 * nI g) + nI t).toNatClampNeg = 201 * g + t := by
  rw [pm_ix, nI_clamp (by omega)]
theorem py_dur0 {post : Int32 → Prop} {w sz ct : Int32} {tok fc hd st : Nat → Int32} {g s t : Nat} {G : Nat → Bool} (hg : g < 14) (ht : t < 201) (hs : s ≤ t + 1) (hr : ∀ u, u ≤ t → hd (201 * g + u) = nI (pm_b (G u))) (hp : post (nI (pm_b (pm_any G s (t + 1 - s))))) : ∀ r d : Nat, s + d + r = t + 1 → wY_during_15 post (nI g) (nI t) 0 w sz ct tok fc hd st (r + 1) (nI (pm_b (pm_any G s d))) (nI (s + d)) := by
  intro r
  induction r with
  | zero =>
    intro d hd'
    rw [show t + 1 - s = d by omega] at hp
    exact pk_lt t (s + d) (fun _ => And.intro (pm_narrow _) hp) (fun h => absurd h (by omega))
  | succ r ih =>
    intro d hd'
    have ih' := ih (d + 1) (by omega)
    have e1 : pm_any G s (d + 1) = (pm_any G s d || G (s + d)) := rfl
    rw [e1, show s + (d + 1) = s + d + 1 by omega] at ih'
    refine pk_lt t (s + d) (fun h => absurd h (by omega)) (fun _ => br_t rfl ?_)
    cases hb : pm_any G s d with
    | true =>
      rw [hb] at ih'
      exact br_f pm_f1 (nm_r (nI_1 _) ih')
    | false =>
      refine br_t pm_t0 (And.intro (pm_in2 hg (by omega)) ?_)
      rw [pm_at2 hg (show s + d < 201 by omega), hr (s + d) (by omega)]
      rw [hb] at ih'
      cases hG : G (s + d) with
      | false =>
        rw [hG] at ih'
        exact br_t pm_t0 (nm_r (nI_1 _) ih')
      | true =>
        rw [hG] at ih'
        exact br_f pm_f1 (nm_r (nI_1 _) ih')
theorem py_dur1 {post : Int32 → Prop} {w sz ct : Int32} {tok fc hd st : Nat → Int32} {g s t : Nat} {G : Nat → Bool} (hg : g < 14) (ht : t < 201) (hs : s ≤ t + 1) (hr : ∀ u, u ≤ t → hd (201 * g + u) = nI (pm_b (G u))) (hp : post (nI (pm_b (pm_all G s (t + 1 - s))))) : ∀ r d : Nat, s + d + r = t + 1 → wY_during_15 post (nI g) (nI t) 1 w sz ct tok fc hd st (r + 1) (nI (pm_b (pm_all G s d))) (nI (s + d)) := by
  intro r
  induction r with
  | zero =>
    intro d hd'
    rw [show t + 1 - s = d by omega] at hp
    exact pk_lt t (s + d) (fun _ => And.intro (pm_narrow _) hp) (fun h => absurd h (by omega))
  | succ r ih =>
    intro d hd'
    have ih' := ih (d + 1) (by omega)
    have e1 : pm_all G s (d + 1) = (pm_all G s d && G (s + d)) := rfl
    rw [e1, show s + (d + 1) = s + d + 1 by omega] at ih'
    refine pk_lt t (s + d) (fun h => absurd h (by omega)) (fun _ => br_f (by decide) ?_)
    cases hb : pm_all G s d with
    | false =>
      rw [hb] at ih'
      exact br_t pm_t0 (nm_r (nI_1 _) ih')
    | true =>
      refine br_f pm_f1 (And.intro (pm_in2 hg (by omega)) ?_)
      rw [pm_at2 hg (show s + d < 201 by omega), hr (s + d) (by omega)]
      rw [hb] at ih'
      cases hG : G (s + d) with
      | false =>
        rw [hG] at ih'
        exact br_t pm_t0 (nm_r (nI_1 _) ih')
      | true =>
        rw [hG] at ih'
        exact br_f pm_f1 (nm_r (nI_1 _) ih')
/-- a start of during: s itself, or below 0 -/
def pm_start (p : Int32) (s : Nat) : Prop := p = nI s ∨ (¬ 0 ≤ p ∧ s = 0)
theorem py_during0 {post : Int32 → Prop} {w sz ct p : Int32} {tok fc hd st : Nat → Int32} {g s t : Nat} {G : Nat → Bool} (hg : g < 14) (ht : t < 201) (hs : s ≤ t + 1) (hq : pm_start p s) (hr : ∀ u, u ≤ t → hd (201 * g + u) = nI (pm_b (G u))) (hp : post (nI (pm_b (pm_any G s (t + 1 - s))))) : wpY_during post (w, sz, ct, tok, fc, hd, st) (nI g) p (nI t) 0 := by
  have L := py_dur0 (w := w) (sz := sz) (ct := ct) (tok := tok) (fc := fc) (st := st) hg ht hs hr hp (t + 1 - s) 0 (by omega)
  cases hq with
  | inl h =>
    subst h
    exact br_t (nI_pos' (by omega)) (Exists.intro _ L)
  | inr h =>
    obtain ⟨h1, h2⟩ := h
    subst h2
    exact br_f h1 (Exists.intro _ L)
theorem py_during1 {post : Int32 → Prop} {w sz ct p : Int32} {tok fc hd st : Nat → Int32} {g s t : Nat} {G : Nat → Bool} (hg : g < 14) (ht : t < 201) (hs : s ≤ t + 1) (hq : pm_start p s) (hr : ∀ u, u ≤ t → hd (201 * g + u) = nI (pm_b (G u))) (hp : post (nI (pm_b (pm_all G s (t + 1 - s))))) : wpY_during post (w, sz, ct, tok, fc, hd, st) (nI g) p (nI t) 1 := by
  have L := py_dur1 (w := w) (sz := sz) (ct := ct) (tok := tok) (fc := fc) (st := st) hg ht hs hr hp (t + 1 - s) 0 (by omega)
  cases hq with
  | inl h =>
    subst h
    exact br_t (nI_pos' (by omega)) (Exists.intro _ L)
  | inr h =>
    obtain ⟨h1, h2⟩ := h
    subst h2
    exact br_f h1 (Exists.intro _ L)
theorem py_sin {post : Int32 → Prop} {w sz ct : Int32} {tok fc hd st : Nat → Int32} {g h t : Nat} {G H : Nat → Bool} (hg : g < 14) (hh : h < 14) (ht : t < 201) (hrG : ∀ u, u ≤ t → hd (201 * g + u) = nI (pm_b (G u))) (hrH : ∀ u, u ≤ t → hd (201 * h + u) = nI (pm_b (H u))) (hp : post (nI (pm_b (pm_sin G H t (t + 1))))) : ∀ r d : Nat, d + r = t + 1 → wY_since_6 post (nI g) (nI h) (nI t) w sz ct tok fc hd st (r + 1) (nI (pm_b (pm_sin G H t d))) (nI d) := by
  intro r
  induction r with
  | zero =>
    intro d hd'
    have hd2 : d = t + 1 := hd'
    subst hd2
    exact pk_lt t (t + 1) (fun _ => And.intro (pm_narrow _) hp) (fun h => absurd h (by omega))
  | succ r ih =>
    intro d hd'
    have ih' := ih (d + 1) (by omega)
    have e1 : pm_sin G H t (d + 1) = (pm_sin G H t d || (H d && pm_all G (d + 1) (t - d))) := rfl
    rw [e1] at ih'
    refine pk_lt t d (fun h => absurd h (by omega)) (fun _ => ?_)
    cases hb : pm_sin G H t d with
    | true =>
      rw [hb] at ih'
      exact br_f pm_f1 (nm_r (nI_1 _) ih')
    | false =>
      refine br_t pm_t0 (And.intro (pm_in2 hh (by omega)) ?_)
      rw [pm_at2 hh (show d < 201 by omega), hrH d (by omega)]
      rw [hb] at ih'
      cases hH : H d with
      | false =>
        rw [hH] at ih'
        exact br_t pm_t0 (nm_r (nI_1 _) ih')
      | true =>
        rw [hH] at ih'
        refine br_f pm_f1 ?_
        refine py_during1 (s := d + 1) (G := G) hg ht (by omega) (Or.inl (nI_1 d)) hrG ?_
        rw [show t + 1 - (d + 1) = t - d by omega]
        cases hA : pm_all G (d + 1) (t - d) with
        | false =>
          rw [hA] at ih'
          exact br_t pm_t0 (nm_r (nI_1 _) ih')
        | true =>
          rw [hA] at ih'
          exact br_f pm_f1 (nm_r (nI_1 _) ih')
theorem py_since {post : Int32 → Prop} {w sz ct : Int32} {tok fc hd st : Nat → Int32} {g h t : Nat} {G H : Nat → Bool} (hg : g < 14) (hh : h < 14) (ht : t < 201) (hrG : ∀ u, u ≤ t → hd (201 * g + u) = nI (pm_b (G u))) (hrH : ∀ u, u ≤ t → hd (201 * h + u) = nI (pm_b (H u))) (hp : post (nI (pm_b (pm_sin G H t (t + 1))))) : wpY_since post (w, sz, ct, tok, fc, hd, st) (nI g) (nI h) (nI t) :=
  Exists.intro (t + 2) (py_sin hg hh ht hrG hrH hp (t + 1) 0 (by omega))
theorem pm_startW {w t : Nat} (hw : w ≤ 12) (ht : t < 201) : pm_start (nI t - nI w) (t - w) := by
  by_cases h : w ≤ t
  · exact Or.inl (pk_sub h)
  · refine Or.inr ⟨fun z => ?_, by omega⟩
    have hneg := pk_sneg (a := t) (b := w) (by omega) (by omega)
    exact absurd hneg (Int32.not_lt.mpr z)
theorem py_188a {post : Int32 → Prop} {w sz ct p : Int32} {tok fc hd st : Nat → Int32} {x g s t : Nat} {G : Nat → Bool} (hx : x = 9 ∨ x = 12) (hg : g < 14) (ht : t < 201) (hs : s ≤ t + 1) (hq : pm_start p s) (hr : ∀ u, u ≤ t → hd (201 * g + u) = nI (pm_b (G u))) (hp : post (nI (pm_b (pm_all G s (t + 1 - s))))) : wY_truth_188 post (nI x) (nI t) p (nI g) w sz ct tok fc hd st := by
  unfold wY_truth_188 wY_truth_202 wY_truth_207
  have L : wpY_during (fun r_11 => narrow .boolean (.int r_11) = .int r_11 ∧ post r_11) (w, sz, ct, tok, fc, hd, st) (nI g) p (nI t) 1 := py_during1 hg ht hs hq hr (And.intro (pm_narrow _) hp)
  exact pk_eq x 9 (fun _ => L) (fun h9 => pk_eq x 12 (fun _ => L) (fun h12 => absurd hx (by omega)))
theorem py_188o {post : Int32 → Prop} {w sz ct p : Int32} {tok fc hd st : Nat → Int32} {x g s t : Nat} {G : Nat → Bool} (hx : x = 8 ∨ x = 11) (hg : g < 14) (ht : t < 201) (hs : s ≤ t + 1) (hq : pm_start p s) (hr : ∀ u, u ≤ t → hd (201 * g + u) = nI (pm_b (G u))) (hp : post (nI (pm_b (pm_any G s (t + 1 - s))))) : wY_truth_188 post (nI x) (nI t) p (nI g) w sz ct tok fc hd st := by
  unfold wY_truth_188 wY_truth_202 wY_truth_207
  have L : wpY_during (fun r_11 => narrow .boolean (.int r_11) = .int r_11 ∧ post r_11) (w, sz, ct, tok, fc, hd, st) (nI g) p (nI t) 0 := py_during0 hg ht hs hq hr (And.intro (pm_narrow _) hp)
  exact pk_eq x 9 (fun h9 => absurd hx (by omega)) (fun h9 => pk_eq x 12 (fun h12 => absurd hx (by omega)) (fun _ => L))
theorem py_truth {post : Int32 → Prop} {sz ct : Int32} {tok fc hd st : Nat → Int32} {w x g h t : Nat} {e : Nat → Nat} {G H : Nat → Bool} (hw : w ≤ 12) (hx : x ≤ 12) (hg : g < 14) (hh : h < 14) (ht : t < 201) (hf : fc t = nI (e t)) (he : e t < 16) (hrG : 1 ≤ pm_ar x → ∀ u, u ≤ t → hd (201 * g + u) = nI (pm_b (G u))) (hrH : 2 ≤ pm_ar x → ∀ u, u ≤ t → hd (201 * h + u) = nI (pm_b (H u))) (hp : post (nI (pm_b (pm_tr w e x G H t)))) : wpY_truth post (nI w, sz, ct, tok, fc, hd, st) (nI x) (nI g) (nI h) (nI t) := by
  by_cases h3 : x ≤ 3
  · refine pk_lt 3 x (fun z => absurd z (by omega)) (fun _ => And.intro (pk_in t 201 ht) ?_)
    rw [nI_clamp (show t < 2 ^ 31 by omega), hf, pm_fact (e t) he x (by omega)]
    rw [pm_t3 h3] at hp
    cases hb : decide (e t / 2 ^ x % 2 = 1) with
    | false =>
      rw [hb] at hp
      exact br_f (by decide +kernel) hp
    | true =>
      rw [hb] at hp
      exact br_t (by decide +kernel) hp
  · have ha : 1 ≤ pm_ar x := by
      unfold pm_ar
      rw [if_neg h3]
      split <;> omega
    have rG := hrG ha
    refine pk_lt 3 x (fun _ => And.intro (pm_in2 hg ht) (nm_r (e' := nI (pm_b (G t))) (by rw [pm_at2 hg ht]; exact rG t (Nat.le_refl _)) (And.intro (pm_in2 hh ht) (nm_r (e' := hd (201 * h + t)) (by rw [pm_at2 hh ht]) ?_)))) (fun z => absurd z (by omega))
    refine pk_lt 6 x (fun h6 => ?_) (fun h6 => ?_)
    · refine pk_eq x 7 (fun h7 => ?_) (fun h7 => pk_eq x 10 (fun h10 => ?_) (fun h10 => pk_lt 9 x (fun h9 => ?_) (fun h9 => ?_)))
      · subst h7
        cases t with
        | zero => exact pk_le 0 0 (fun _ => hp) (fun z => absurd z (by omega))
        | succ t =>
          refine pk_le (t + 1) 0 (fun z => absurd z (by omega)) (fun _ => ?_)
          rw [pm_ix, show 201 * g + (t + 1) = 201 * g + t + 1 by omega, nI_pred]
          refine And.intro (pk_in (201 * g + t) 2814 (by omega)) ?_
          rw [nI_clamp (show 201 * g + t < 2 ^ 31 by omega), rG t (by omega)]
          have hp' : post (nI (pm_b (G t))) := hp
          cases hb : G t with
          | false =>
            rw [hb] at hp'
            exact br_t pm_t0 hp'
          | true =>
            rw [hb] at hp'
            exact br_f pm_f1 hp'
      · subst h10
        exact py_since hg hh ht rG (hrH (by decide)) (And.intro (pm_narrow _) hp)
      · by_cases h11 : x = 11
        · subst h11
          exact py_188o (s := t - w) (Or.inr rfl) hg ht (by omega) (pm_startW hw ht) rG hp
        · have h12 : x = 12 := by omega
          subst h12
          exact py_188a (s := t - w) (Or.inr rfl) hg ht (by omega) (pm_startW hw ht) rG hp
      · by_cases h8 : x = 8
        · subst h8
          exact py_188o (s := 0) (Or.inl rfl) hg ht (by omega) (Or.inl nI_0.symm) rG hp
        · have h9' : x = 9 := by omega
          subst h9'
          exact py_188a (s := 0) (Or.inl rfl) hg ht (by omega) (Or.inl nI_0.symm) rG hp
    · refine pk_eq x 4 (fun h4 => ?_) (fun h4 => pk_eq x 5 (fun h5 => ?_) (fun h5 => ?_))
      · subst h4
        have hp' : post (nI (pm_b (!(G t)))) := hp
        cases hb : G t with
        | false =>
          rw [hb] at hp'
          exact br_t pm_t0 hp'
        | true =>
          rw [hb] at hp'
          exact br_f pm_f1 hp'
      · subst h5
        rw [hrH (by decide) t (Nat.le_refl _)]
        have hp' : post (nI (pm_b (G t && H t))) := hp
        cases hb : G t with
        | false =>
          rw [hb] at hp'
          exact br_t pm_t0 hp'
        | true =>
          rw [hb] at hp'
          refine br_f pm_f1 ?_
          cases hc : H t with
          | false =>
            rw [hc] at hp'
            exact br_t pm_t0 hp'
          | true =>
            rw [hc] at hp'
            exact br_f pm_f1 hp'
      · have h6' : x = 6 := by omega
        subst h6'
        rw [hrH (by decide) t (Nat.le_refl _)]
        have hp' : post (nI (pm_b (G t || H t))) := hp
        cases hb : G t with
        | true =>
          rw [hb] at hp'
          exact br_f pm_f1 hp'
        | false =>
          rw [hb] at hp'
          refine br_t pm_t0 ?_
          cases hc : H t with
          | false =>
            rw [hc] at hp'
            exact br_t pm_t0 hp'
          | true =>
            rw [hc] at hp'
            exact br_f pm_f1 hp'
