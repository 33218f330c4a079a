theorem px_seen {post : Int32 → SX → Prop} {tc ec : Int32} {tok tk hd mem : Nat → Int32} {w k t : Nat} (B : Nat → Bool) (hw : w ≤ 12) (hk : k < 14) (hm : mem k = nI (pm_wm B w t)) (K : post (nI (pm_b (pm_any B (t - w) (t + 1 - (t - w))))) (nI w, tc, ec, tok, tk, hd, upd mem k (nI (pm_wm B w (t + 1))))) : wpX_seenInWindow post (nI w, tc, ec, tok, tk, hd, mem) (nI k) (nI (pm_b (B t))) := by
  have kc : (nI k).toNatClampNeg = k := nI_clamp (by omega)
  refine nm_e (And.intro (pk_in k 14 hk) (And.intro (pk_in k 14 hk) (nm_r (e' := upd mem k (nI (pm_wm B w (t + 1)))) ?_ (And.intro (pk_in k 14 hk) ?_))))
  · rw [kc, hm, pm_s11 B t hw]
  · rw [kc, pk_us]
    cases hv : pm_any B (t - w) (t + 1 - (t - w)) with
    | false =>
      rw [hv] at K
      exact br_t ((pm_s11v B t hw).mpr hv) K
    | true =>
      rw [hv] at K
      refine br_f (fun z => ?_) K
      rw [(pm_s11v B t hw).mp z] at hv
      cases hv
theorem px_value {post : Int32 → SX → Prop} {tc ec : Int32} {w k x f t gg hh : Nat} {e : Nat → Nat} {G H : Nat → Bool} {tok tk hd mem : Nat → Int32} (hw : w ≤ 12) (hk : k < 14) (hx : x ≤ 12) (hf : f < 16) (he : e t = f) (ht : tok k = nI x) (hg : 1 ≤ pm_ar x → gg = pm_b (G t)) (hh' : 2 ≤ pm_ar x → hh = pm_b (H t)) (hm : mem k = nI (pm_mm w x G H t)) (K : ∀ mem', mem' k = nI (pm_mm w x G H (t + 1)) → (∀ j, j ≠ k → mem' j = mem j) → post (nI (pm_b (pm_tr w e x G H t))) (nI w, tc, ec, tok, tk, hd, mem')) : wpX_valueAt post (nI w, tc, ec, tok, tk, hd, mem) (nI k) (nI f) (nI gg) (nI hh) := by
  have kc : (nI k).toNatClampNeg = k := nI_clamp (by omega)
  refine And.intro (pk_in k 14 hk) (nm_r (e' := nI x) (by rw [kc, ht]) ?_)
  by_cases h3 : x ≤ 3
  · refine pk_lt x 4 (fun _ => And.intro (pk_in k 14 hk) ?_) (fun h => absurd h (by omega))
    rw [kc, ht, pm_fact f hf x (by omega)]
    have K' := K mem (by rw [hm, pm_m6 (by omega), pm_m6 (by omega)]) (fun _ _ => rfl)
    rw [pm_t3 h3, he] at K'
    exact K'
  · refine pk_lt x 4 (fun h => absurd h (by omega)) (fun _ => pk_lt 12 x (fun h => absurd h (by omega)) (fun _ => ?_))
    refine pk_eq x 4 (fun h4 => ?_) (fun h4 => pk_eq x 5 (fun h5 => ?_) (fun h5 => pk_eq x 6 (fun h6 => ?_) (fun h6 => pk_eq x 7 (fun h7 => ?_) (fun h7 => pk_eq x 8 (fun h8 => ?_) (fun h8 => pk_eq x 9 (fun h9 => ?_) (fun h9 => pk_eq x 10 (fun h10 => ?_) (fun h10 => pk_eq x 11 (fun h11 => ?_) (fun h11 => pk_eq x 12 (fun h12 => ?_) (fun h12 => trivial)))))))))
    · subst h4
      have eg := hg (by decide)
      subst eg
      have K' := K mem (by rw [hm, pm_m6 (by omega), pm_m6 (by omega)]) (fun _ _ => rfl)
      rw [pm_inot]
      exact K'
    · subst h5
      have eg := hg (by decide)
      have eh := hh' (by decide)
      subst eg eh
      have K' := K mem (by rw [hm, pm_m6 (by omega), pm_m6 (by omega)]) (fun _ _ => rfl)
      rw [pm_iand]
      exact K'
    · subst h6
      have eg := hg (by decide)
      have eh := hh' (by decide)
      subst eg eh
      have K' := K mem (by rw [hm, pm_m6 (by omega), pm_m6 (by omega)]) (fun _ _ => rfl)
      rw [pm_ior]
      exact K'
    · subst h7
      have eg := hg (by decide)
      subst eg
      refine And.intro (pk_in k 14 hk) (nm_e (And.intro (pk_in k 14 hk) (nm_e ?_)))
      show post (mem (nI k).toNatClampNeg) (nI w, tc, ec, tok, tk, hd, upd mem (nI k).toNatClampNeg (nI (pm_b (G t))))
      rw [kc, hm]
      exact K _ pk_us (fun j hj => pk_un hj)
    · subst h8
      have eg := hg (by decide)
      subst eg
      refine And.intro (pk_in k 14 hk) (And.intro (pk_in k 14 hk) (nm_e ?_))
      show post (mem (nI k).toNatClampNeg ||| nI (pm_b (G t))) (nI w, tc, ec, tok, tk, hd, upd mem (nI k).toNatClampNeg (mem (nI k).toNatClampNeg ||| nI (pm_b (G t))))
      rw [kc, hm, pm_m8, pm_s8]
      exact K _ pk_us (fun j hj => pk_un hj)
    · subst h9
      have eg := hg (by decide)
      subst eg
      refine And.intro (pk_in k 14 hk) (And.intro (pk_in k 14 hk) (nm_e ?_))
      show post (1 - (mem (nI k).toNatClampNeg ||| (1 - nI (pm_b (G t))))) (nI w, tc, ec, tok, tk, hd, upd mem (nI k).toNatClampNeg (mem (nI k).toNatClampNeg ||| (1 - nI (pm_b (G t)))))
      rw [kc, hm, pm_m9, pm_s9, pm_s9v]
      exact K _ pk_us (fun j hj => pk_un hj)
    · subst h10
      have eg := hg (by decide)
      have eh := hh' (by decide)
      subst eg eh
      refine And.intro (pk_in k 14 hk) (And.intro (pk_in k 14 hk) (nm_e ?_))
      show post (nI (pm_b (H t)) ||| (nI (pm_b (G t)) &&& mem (nI k).toNatClampNeg)) (nI w, tc, ec, tok, tk, hd, upd mem (nI k).toNatClampNeg (nI (pm_b (H t)) ||| (nI (pm_b (G t)) &&& mem (nI k).toNatClampNeg)))
      rw [kc, hm, pm_m10, pm_s10]
      exact K _ pk_us (fun j hj => pk_un hj)
    · subst h11
      have eg := hg (by decide)
      subst eg
      refine px_seen G hw hk hm ?_
      exact K _ pk_us (fun j hj => pk_un hj)
    · subst h12
      have eg := hg (by decide)
      subst eg
      rw [pm_inot]
      refine px_seen (fun u => !(G u)) hw hk hm ?_
      show post (1 - nI (pm_b (pm_any (fun u => !(G u)) (t - w) (t + 1 - (t - w))))) (nI w, tc, ec, tok, tk, hd, upd mem k (nI (pm_wm (fun u => !(G u)) w (t + 1))))
      rw [pm_s12v]
      exact K _ pk_us (fun j hj => pk_un hj)
/-- what the class remembers at place j ahead of event t -/
def pm_MJ (w : Nat) (c : Nat → Nat) (n : Nat) (V : Nat → Nat → Bool) (j t : Nat) : Nat := pm_mm w (c j) (V ((pm_S c n (n - 1 - j)).getD 0 0)) (V ((pm_S c n (n - 1 - j)).getD 1 0)) t
theorem pm_bl14 {V : Nat → Bool} {c : Nat → Nat} {n d : Nat} (h : d ≤ 14) : pm_bl V (pm_S c n d) < 16384 :=
  Nat.lt_of_lt_of_le (pm_bl_lt V _) (Nat.pow_le_pow_right (show 0 < 2 by decide) (show (pm_S c n d).length ≤ 14 from Nat.le_trans (pm_S_len d) h))
theorem px_loop {post : Int32 → SX → Prop} {w n f t : Nat} {c e : Nat → Nat} {V : Nat → Nat → Bool} {ec : Int32} {tok tk hd : Nat → Int32} (hw : w ≤ 12) (hn : n ≤ 14) (hc : ∀ j, j < n → c j ≤ 12) (HV : pm_HV w e c n V) (ht : ∀ j, j < n → tok j = nI (c j)) (hf : f < 16) (he : e t = f) (K : ∀ mem', (∀ j, j < n → mem' j = nI (pm_MJ w c n V j (t + 1))) → post (nI (pm_b (decide (pm_bl (fun p => V p t) (pm_S c n n) % 2 = 1)))) (nI w, nI n, ec, tok, tk, hd, mem')) : ∀ r d : Nat, d + r = n → ∀ mem : Nat → Int32, (∀ j, j < r → mem j = nI (pm_MJ w c n V j t)) → (∀ j, r ≤ j → j < n → mem j = nI (pm_MJ w c n V j (t + 1))) → wX_judgeNext_9 post (nI f) (r + 1) (nI (pm_bl (fun p => V p t) (pm_S c n d))) (pm_k r) (nI w) (nI n) ec tok tk hd mem := by
  intro r
  induction r with
  | zero =>
    intro d hd' mem h1 h2
    have hdn : d = n := hd'
    subst hdn
    have K' := K mem (fun j hj => h2 j (Nat.zero_le _) hj)
    have hb := pm_bl14 (V := fun p => V p t) (c := c) (n := d) hn
    refine br_t pm_k_neg ?_
    rw [pm_w1 (by omega)]
    refine pk_eq (pm_bl (fun p => V p t) (pm_S c d d) % 2) 1 (fun h => ?_) (fun h => ?_)
    · rw [decide_eq_true h] at K'
      exact K'
    · rw [decide_eq_false h] at K'
      exact K'
  | succ r ih =>
    intro d hd' mem h1 h2
    have hb := pm_bl14 (V := fun p => V p t) (c := c) (n := n) (d := d) (by omega)
    obtain ⟨ho, hv⟩ := HV d r (by omega)
    have hr : r < n := by omega
    have hrc : (nI r).toNatClampNeg = r := nI_clamp (by omega)
    have eMJ : ∀ s, pm_MJ w c n V r s = pm_mm w (c r) (V ((pm_S c n d).getD 0 0)) (V ((pm_S c n d).getD 1 0)) s := by
      intro s
      unfold pm_MJ
      rw [show n - 1 - r = d by omega]
    rw [show pm_k (r + 1) = nI r from rfl]
    refine br_f (nI_pos (n := r) (by omega)) ?_
    refine nm_r (pm_w1 (by omega)) (nm_r (pm_w2 (by omega)) ?_)
    refine px_value (x := c r) (e := e) (t := t) (G := V ((pm_S c n d).getD 0 0)) (H := V ((pm_S c n d).getD 1 0)) hw (by omega) (hc r hr) hf he (ht r hr) (fun z => pm_bl_g _ (by omega)) (fun z => pm_bl_h _ (by omega)) ?_ (fun mem' hm1 hm2 => ?_)
    · rw [h1 r (by omega), eMJ]
    · refine And.intro (pk_in r 14 (by omega)) ?_
      rw [hrc, ht r hr]
      refine px_op (hc r hr) ?_
      have hdv : pm_bl (fun p => V p t) (pm_S c n d) / 2 ^ pm_ar (c r) ≤ pm_bl (fun p => V p t) (pm_S c n d) := Nat.div_le_self _ _
      refine nm_r (pm_w3 (by omega) (pm_ar_le _)) (nm_r (pm_w4 _ (by omega)) (nm_r (pm_k_dec r) ?_))
      have eq : pm_b (pm_tr w e (c r) (V ((pm_S c n d).getD 0 0)) (V ((pm_S c n d).getD 1 0)) t) + 2 * (pm_bl (fun p => V p t) (pm_S c n d) / 2 ^ pm_ar (c r)) = pm_bl (fun p => V p t) (pm_S c n (d + 1)) := by
        rw [pm_bl_drop, ← hv]
        show _ = pm_b (V (n - 1 - d) t) + 2 * pm_bl (fun p => V p t) ((pm_S c n d).drop (pm_ar (c (n - 1 - d))))
        rw [show n - 1 - d = r by omega]
      rw [eq]
      refine ih (d + 1) (by omega) mem' ?_ ?_
      · intro j hj
        rw [hm2 j (by omega)]
        exact h1 j (by omega)
      · intro j hj1 hj2
        by_cases hjr : j = r
        · rw [hjr, hm1, eMJ]
        · rw [hm2 j hjr]
          exact h2 j (by omega) hj2
theorem px_judgeNext {post : Int32 → SX → Prop} {w n f t : Nat} {c e : Nat → Nat} {V : Nat → Nat → Bool} {ec : Int32} {tok tk hd mem : Nat → Int32} (hw : w ≤ 12) (hn : n ≤ 14) (h1n : 1 ≤ n) (hc : ∀ j, j < n → c j ≤ 12) (HV : pm_HV w e c n V) (ht : ∀ j, j < n → tok j = nI (c j)) (hf : f < 16) (he : e t = f) (hm : ∀ j, j < n → mem j = nI (pm_MJ w c n V j t)) (K : ∀ mem', (∀ j, j < n → mem' j = nI (pm_MJ w c n V j (t + 1))) → post (nI (pm_b (V 0 t))) (nI w, nI n, ec, tok, tk, hd, mem')) : wpX_judgeNext post (nI w, nI n, ec, tok, tk, hd, mem) (nI f) := by
  refine nm_r (pm_k_sub n) (Exists.intro (n + 1) ?_)
  refine px_loop hw hn hc HV ht hf he (fun mem' h => ?_) n 0 (by omega) mem hm (fun j h1 h2 => absurd h2 (by omega))
  have e0 : decide (pm_bl (fun p => V p t) (pm_S c n n) % 2 = 1) = V 0 t := by
    obtain ⟨n', rfl⟩ : ∃ n', n = n' + 1 := ⟨n - 1, by omega⟩
    have hl : 1 ≤ (pm_S c (n' + 1) (n' + 1)).length := Nat.succ_le_succ (Nat.zero_le _)
    rw [pm_bl_g _ hl]
    show decide (pm_b (V (n' + 1 - 1 - n') t) = 1) = V 0 t
    rw [show n' + 1 - 1 - n' = 0 by omega]
    cases V 0 t <;> rfl
  rw [e0]
  exact K mem' h
theorem px_ja23 {post : SX → Prop} {w n m : Nat} {c e : Nat → Nat} {V : Nat → Nat → Bool} {tok tk : Nat → Int32} (hw : w ≤ 12) (hn : n ≤ 14) (h1n : 1 ≤ n) (hm : m ≤ 200) (hc : ∀ j, j < n → c j ≤ 12) (hE : ∀ j, j < m → e j < 16) (HV : pm_HV w e c n V) (ht : ∀ j, j < n → tok j = nI (c j)) (hk : ∀ j, j < m → tk j = nI (e j)) (K : ∀ hd' mem', (∀ s, s < m → hd' s = nI (pm_b (V 0 s))) → (∀ j, j < n → mem' j = nI (pm_MJ w c n V j m)) → post (nI w, nI n, nI m, tok, tk, hd', mem')) : ∀ r t : Nat, t + r = m → ∀ hd mem : Nat → Int32, (∀ s, s < t → hd s = nI (pm_b (V 0 s))) → (∀ j, j < n → mem j = nI (pm_MJ w c n V j t)) → wX_judgeAll_23 post (r + 1) (nI t) (nI w) (nI n) (nI m) tok tk hd mem := by
  intro r
  induction r with
  | zero =>
    intro t ht' hd mem h1 h2
    have htm : t = m := ht'
    subst htm
    exact pk_le t t (fun _ => K hd mem h1 h2) (fun h => absurd h (by omega))
  | succ r ih =>
    intro t ht' hd mem h1 h2
    have htc : (nI t).toNatClampNeg = t := nI_clamp (by omega)
    refine pk_le m t (fun h => absurd h (by omega)) (fun _ => And.intro (pk_in t 200 (by omega)) ?_)
    rw [htc, hk t (by omega)]
    refine px_judgeNext (t := t) hw hn h1n hc HV ht (hE t (by omega)) rfl h2 (fun mem' hm' => ?_)
    refine And.intro (pk_in t 200 (by omega)) (nm_r (e' := upd hd t (nI (pm_b (V 0 t)))) (by rw [pm_nar]) (nm_r (nI_1 t) ?_))
    refine ih (t + 1) (by omega) _ mem' ?_ hm'
    intro s hs
    by_cases hst : s = t
    · rw [hst, pk_us]
    · rw [pk_un hst]
      exact h1 s (by omega)
theorem px_ja2 {post : SX → Prop} {w n m : Nat} {c e : Nat → Nat} {V : Nat → Nat → Bool} {tok tk hd : Nat → Int32} (hw : w ≤ 12) (hn : n ≤ 14) (h1n : 1 ≤ n) (hm : m ≤ 200) (hc : ∀ j, j < n → c j ≤ 12) (hE : ∀ j, j < m → e j < 16) (HV : pm_HV w e c n V) (ht : ∀ j, j < n → tok j = nI (c j)) (hk : ∀ j, j < m → tk j = nI (e j)) (K : ∀ hd' mem', (∀ s, s < m → hd' s = nI (pm_b (V 0 s))) → (∀ j, j < n → mem' j = nI (pm_MJ w c n V j m)) → post (nI w, nI n, nI m, tok, tk, hd', mem')) : ∀ r i : Nat, i + r = 14 → ∀ mem : Nat → Int32, (∀ j, j < i → mem j = 0) → wX_judgeAll_2 post (nI w) (nI n) (nI m) (r + 1) (nI i) tok tk hd mem := by
  intro r
  induction r with
  | zero =>
    intro i hi mem h1
    have hi' : i = 14 := hi
    subst hi'
    refine pk_le 14 14 (fun _ => Exists.intro (m + 1) ?_) (fun h => absurd h (by omega))
    refine px_ja23 hw hn h1n hm hc hE HV ht hk K m 0 (by omega) hd mem (fun s hs => absurd hs (by omega)) ?_
    intro j hj
    rw [h1 j (by omega)]
    unfold pm_MJ
    rw [pm_mm_0]
    exact nI_0.symm
  | succ r ih =>
    intro i hi mem h1
    have hic : (nI i).toNatClampNeg = i := nI_clamp (by omega)
    refine pk_le 14 i (fun h => absurd h (by omega)) (fun _ => And.intro (pk_in i 14 (by omega)) (nm_r (e' := upd mem i 0) (by rw [hic]) (nm_r (nI_1 i) ?_)))
    refine ih (i + 1) (by omega) _ ?_
    intro j hj
    by_cases hji : j = i
    · rw [hji, pk_us]
    · rw [pk_un hji]
      exact h1 j (by omega)
theorem px_judgeAll {post : SX → Prop} {w n m : Nat} {c e : Nat → Nat} {V : Nat → Nat → Bool} {tok tk hd mem : Nat → Int32} (hw : w ≤ 12) (hn : n ≤ 14) (h1n : 1 ≤ n) (hm : m ≤ 200) (hc : ∀ j, j < n → c j ≤ 12) (hE : ∀ j, j < m → e j < 16) (HV : pm_HV w e c n V) (ht : ∀ j, j < n → tok j = nI (c j)) (hk : ∀ j, j < m → tk j = nI (e j)) (K : ∀ hd' mem', (∀ s, s < m → hd' s = nI (pm_b (V 0 s))) → (∀ j, j < n → mem' j = nI (pm_MJ w c n V j m)) → post (nI w, nI n, nI m, tok, tk, hd', mem')) : wpX_judgeAll post (nI w, nI n, nI m, tok, tk, hd, mem) :=
  Exists.intro 15 (px_ja2 hw hn h1n hm hc hE HV ht hk K 14 0 (by omega) mem (fun j hj => absurd hj (by omega)))
