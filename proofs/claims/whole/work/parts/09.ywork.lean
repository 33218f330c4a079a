theorem pm_getD_out {l : List Nat} {i : Nat} (h : l.length ≤ i) : l.getD i 0 = 0 := by
  rw [List.getD_eq_getElem?_getD, List.getElem?_eq_none h]
  rfl
theorem pm_sub1 {L : Nat} (h : 1 ≤ L) : nI L - 1 = nI (L - 1) := pk_sub (a := L) (b := 1) h
theorem pm_sub2 {L : Nat} (h : 2 ≤ L) : nI L - 2 = nI (L - 2) := pk_sub (a := L) (b := 2) h
theorem py_inner {post : SY → Prop} {J9 : Int32 → Int32 → (Nat → Int32) → (Nat → Int32) → (Nat → Int32) → (Nat → Int32) → Prop} {ct : Int32} {tok fc st : Nat → Int32} {w n N k d : Nat} {c e : Nat → Nat} {V : Nat → Nat → Bool} (hw : w ≤ 12) (hn : n ≤ 14) (hN : N ≤ 201) (hkd : k + d + 1 = n) (hck : c k ≤ 12) (HV : pm_HV w e c n V) (hf : ∀ u, u < N → fc u = nI (e u)) (hE : ∀ u, u < N → e u < 16) (K : ∀ hd', (∀ j, k ≤ j → j < n → ∀ u, u < N → hd' (201 * j + u) = nI (pm_b (V j u))) → J9 (nI ((pm_S c n d).length - pm_ar (c k) + 1)) (pm_k k) tok fc hd' (upd st ((pm_S c n d).length - pm_ar (c k)) (nI k))) : ∀ r t : Nat, t + r = N → ∀ hd : Nat → Int32, (∀ j, k < j → j < n → ∀ u, u < N → hd (201 * j + u) = nI (pm_b (V j u))) → (∀ u, u < t → hd (201 * k + u) = nI (pm_b (V k u))) → wY_work_99 post J9 (nI N) (nI (pm_S c n d).length) (nI k) (nI (c k)) (nI (pm_ar (c k))) (nI ((pm_S c n d).getD 0 0)) (nI ((pm_S c n d).getD 1 0)) (nI w) (nI n) ct (r + 1) (nI t) tok fc hd st := by
  obtain ⟨ho, hv⟩ := HV d k hkd
  have hL : (pm_S c n d).length ≤ d := pm_S_len d
  have hmem : ∀ p, p ∈ pm_S c n d → n - d ≤ p ∧ p < n := fun p hp => pm_S_mem (by omega) hp
  intro r
  induction r with
  | zero =>
    intro t ht hd h1 h2
    have htN : t = N := ht
    subst htN
    refine pk_le t t (fun _ => pk_lt (pm_S c n d).length (pm_ar (c k)) (fun z => absurd z (by omega)) (fun _ => ?_)) (fun z => absurd z (by omega))
    rw [pk_sub ho]
    refine And.intro (pk_in ((pm_S c n d).length - pm_ar (c k)) 15 (by omega)) (nm_r (e' := upd st ((pm_S c n d).length - pm_ar (c k)) (nI k)) (by rw [nI_clamp (show (pm_S c n d).length - pm_ar (c k) < 2 ^ 31 by omega)]) (nm_r (nI_1 _) (nm_r (pm_k_dec k) (K hd ?_))))
    intro j hj1 hj2
    by_cases hjk : j = k
    · subst hjk
      exact h2
    · exact h1 j (by omega) hj2
  | succ r ih =>
    intro t ht hd h1 h2
    have hg := pm_gD (fun p hp => (hmem p hp).2) (by omega) 0
    have hh := pm_gD (fun p hp => (hmem p hp).2) (by omega) 1
    refine pk_le N t (fun z => absurd z (by omega)) (fun _ => ?_)
    refine py_truth (e := e) (G := V ((pm_S c n d).getD 0 0)) (H := V ((pm_S c n d).getD 1 0)) hw hck (by omega) (by omega) (by omega) (hf t (by omega)) (hE t (by omega)) (fun z u hu => ?_) (fun z u hu => ?_) ?_
    · have hb := hmem _ (pm_mem0 (l := pm_S c n d) (by omega))
      exact h1 _ (by omega) (by omega) u (by omega)
    · have hb := hmem _ (pm_mem1 (l := pm_S c n d) (by omega))
      exact h1 _ (by omega) (by omega) u (by omega)
    · rw [← hv]
      refine And.intro (pm_in2 (by omega) (by omega)) (nm_r (e' := upd hd (201 * k + t) (nI (pm_b (V k t)))) (by rw [pm_at2 (show k < 14 by omega) (show t < 201 by omega), pm_nar]) (nm_r (nI_1 t) ?_))
      refine ih (t + 1) (by omega) _ ?_ ?_
      · intro j hj1 hj2 u hu
        rw [pk_un (by omega)]
        exact h1 j hj1 hj2 u hu
      · intro u hu
        by_cases hut : u = t
        · rw [hut, pk_us]
        · rw [pk_un (by omega)]
          exact h2 u (by omega)
theorem py_75 {post : SY → Prop} {J9 : Int32 → Int32 → (Nat → Int32) → (Nat → Int32) → (Nat → Int32) → (Nat → Int32) → Prop} {N k x a z w sz ct : Int32} {tok fc hd st : Nat → Int32} {l : List Nat} (hl : l.length ≤ 14) (hst : pm_St st l) (L99 : ∃ nn : Nat, wY_work_99 post J9 N (nI l.length) k x a z (nI (l.getD 1 0)) w sz ct nn 0 tok fc hd st) : wY_work_75 post J9 N (nI l.length) k x a z w sz ct tok fc hd st := by
  refine pk_lt l.length 2 (fun h => ?_) (fun h => And.intro ?_ (nm_r (e' := nI (l.getD 1 0)) ?_ L99))
  · rw [pm_getD_out (l := l) (i := 1) (by omega)] at L99
    exact L99
  · rw [pm_sub2 h]
    exact pk_in (l.length - 2) 15 (by omega)
  · rw [pm_sub2 h, nI_clamp (show l.length - 2 < 2 ^ 31 by omega)]
    exact hst 1 (by omega)
theorem py_56 {post : SY → Prop} {J9 : Int32 → Int32 → (Nat → Int32) → (Nat → Int32) → (Nat → Int32) → (Nat → Int32) → Prop} {N k x a w sz ct : Int32} {tok fc hd st : Nat → Int32} {l : List Nat} (hl : l.length ≤ 14) (hst : pm_St st l) (L99 : ∃ nn : Nat, wY_work_99 post J9 N (nI l.length) k x a (nI (l.getD 0 0)) (nI (l.getD 1 0)) w sz ct nn 0 tok fc hd st) : wY_work_56 post J9 N (nI l.length) k x a w sz ct tok fc hd st := by
  have L75 := py_75 hl hst L99
  refine pk_lt l.length 1 (fun h => ?_) (fun h => And.intro ?_ ?_)
  · rw [pm_getD_out (l := l) (i := 0) (by omega)] at L75
    exact L75
  · rw [pm_sub1 h]
    exact pk_in (l.length - 1) 15 (by omega)
  · have e0 : st (l.length - 1) = nI (l.getD 0 0) := hst 0 (by omega)
    rw [pm_sub1 h, nI_clamp (show l.length - 1 < 2 ^ 31 by omega), e0]
    exact L75
theorem py_outer {post : SY → Prop} {ct : Int32} {tok fc : Nat → Int32} {w n N : Nat} {c e : Nat → Nat} {V : Nat → Nat → Bool} (hw : w ≤ 12) (hn : n ≤ 14) (hN : N ≤ 201) (hc : ∀ j, j < n → c j ≤ 12) (HV : pm_HV w e c n V) (ht : ∀ j, j < n → tok j = nI (c j)) (hf : ∀ u, u < N → fc u = nI (e u)) (hE : ∀ u, u < N → e u < 16) (K : ∀ hd' st', (∀ j, j < n → ∀ u, u < N → hd' (201 * j + u) = nI (pm_b (V j u))) → post (nI w, nI n, ct, tok, fc, hd', st')) : ∀ r d : Nat, d + r = n → ∀ hd st : Nat → Int32, (∀ j, r ≤ j → j < n → ∀ u, u < N → hd (201 * j + u) = nI (pm_b (V j u))) → pm_St st (pm_S c n d) → wY_work_9 post (nI N) (nI w) (nI n) ct (r + 1) (nI (pm_S c n d).length) (pm_k r) tok fc hd st := by
  intro r
  induction r with
  | zero =>
    intro d hd' hd st h1 h2
    exact br_t pm_k_neg (K hd st (fun j hj => h1 j (Nat.zero_le _) hj))
  | succ r ih =>
    intro d hd' hd st h1 h2
    have hL : (pm_S c n d).length ≤ d := pm_S_len d
    have hr : r < n := by omega
    have ho := (HV d r (by omega)).1
    have eS : pm_S c n (d + 1) = r :: (pm_S c n d).drop (pm_ar (c r)) := by
      show (n - 1 - d) :: (pm_S c n d).drop (pm_ar (c (n - 1 - d))) = _
      rw [show n - 1 - d = r by omega]
    have L56 : wY_work_56 post (wY_work_9 post (nI N) (nI w) (nI n) ct (r + 1)) (nI N) (nI (pm_S c n d).length) (nI r) (nI (c r)) (nI (pm_ar (c r))) (nI w) (nI n) ct tok fc hd st := by
      refine py_56 (by omega) h2 (Exists.intro (N + 1) ?_)
      refine py_inner (e := e) (V := V) hw hn hN (by omega) (hc r hr) HV hf hE (fun hd2 hrow => ?_) N 0 (by omega) hd (fun j hj1 hj2 => h1 j (by omega) hj2) (fun u hu => absurd hu (by omega))
      have ih' := ih (d + 1) (by omega) hd2 (upd st ((pm_S c n d).length - pm_ar (c r)) (nI r)) hrow (by rw [eS]; exact pm_St_push h2 ho)
      rw [eS, List.length_cons, List.length_drop] at ih'
      exact ih'
    rw [show pm_k (r + 1) = nI r from rfl]
    refine br_f (nI_pos (by omega)) (And.intro (pk_in r 14 (by omega)) (nm_r (e' := nI (c r)) (by rw [nI_clamp (show r < 2 ^ 31 by omega), ht r hr]) ?_))
    have hcr := hc r hr
    refine pk_lt 3 (c r) (fun h3 => pk_eq (c r) 5 (fun h5 => ?_) (fun h5 => pk_eq (c r) 6 (fun h6 => ?_) (fun h6 => pk_eq (c r) 10 (fun h10 => ?_) (fun h10 => ?_)))) (fun h3 => ?_)
    · rw [show pm_ar (c r) = 2 from by rw [h5]; rfl] at L56
      exact L56
    · rw [show pm_ar (c r) = 2 from by rw [h6]; rfl] at L56
      exact L56
    · rw [show pm_ar (c r) = 2 from by rw [h10]; rfl] at L56
      exact L56
    · rw [show pm_ar (c r) = 1 from by unfold pm_ar; rw [if_neg (by omega), if_neg (by omega)]] at L56
      exact L56
    · rw [show pm_ar (c r) = 0 from by unfold pm_ar; rw [if_pos (by omega)]] at L56
      exact L56
theorem py_work {post : SY → Prop} {ct : Int32} {tok fc hd st : Nat → Int32} {w n N : Nat} {c e : Nat → Nat} {V : Nat → Nat → Bool} (hw : w ≤ 12) (hn : n ≤ 14) (h1n : 1 ≤ n) (hN : N ≤ 201) (hc : ∀ j, j < n → c j ≤ 12) (HV : pm_HV w e c n V) (ht : ∀ j, j < n → tok j = nI (c j)) (hf : ∀ u, u < N → fc u = nI (e u)) (hE : ∀ u, u < N → e u < 16) (K : ∀ hd' st', (∀ u, u < N → hd' u = nI (pm_b (V 0 u))) → post (nI w, nI n, ct, tok, fc, hd', st')) : wpY_work post (nI w, nI n, ct, tok, fc, hd, st) (nI N) := by
  refine nm_r (pm_k_sub n) (Exists.intro (n + 1) ?_)
  refine py_outer (e := e) (V := V) hw hn hN hc HV ht hf hE (fun hd' st' h => K hd' st' (fun u hu => ?_)) n 0 (by omega) hd st (fun j h1 h2 => absurd h2 (by omega)) pm_St_0
  have h' := h 0 (by omega) u hu
  rw [show 201 * 0 + u = u by omega] at h'
  exact h'
