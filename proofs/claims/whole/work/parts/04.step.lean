theorem pm_t3 {w c t : Nat} {e : Nat → Nat} {G H : Nat → Bool} (h : c ≤ 3) : pm_tr w e c G H t = decide (e t / 2 ^ c % 2 = 1) := if_pos h
theorem pm_t4 {w t : Nat} {e : Nat → Nat} {G H : Nat → Bool} : pm_tr w e 4 G H t = !(G t) := rfl
theorem pm_t5 {w t : Nat} {e : Nat → Nat} {G H : Nat → Bool} : pm_tr w e 5 G H t = (G t && H t) := rfl
theorem pm_t6 {w t : Nat} {e : Nat → Nat} {G H : Nat → Bool} : pm_tr w e 6 G H t = (G t || H t) := rfl
theorem pm_t7 {w t : Nat} {e : Nat → Nat} {G H : Nat → Bool} : pm_tr w e 7 G H t = pm_pr G t := rfl
theorem pm_t8 {w t : Nat} {e : Nat → Nat} {G H : Nat → Bool} : pm_tr w e 8 G H t = pm_any G 0 (t + 1) := rfl
theorem pm_t9 {w t : Nat} {e : Nat → Nat} {G H : Nat → Bool} : pm_tr w e 9 G H t = pm_all G 0 (t + 1) := rfl
theorem pm_t10 {w t : Nat} {e : Nat → Nat} {G H : Nat → Bool} : pm_tr w e 10 G H t = pm_sin G H t (t + 1) := rfl
theorem pm_t11 {w t : Nat} {e : Nat → Nat} {G H : Nat → Bool} : pm_tr w e 11 G H t = pm_any G (t - w) (t + 1 - (t - w)) := rfl
theorem pm_t12 {w t : Nat} {e : Nat → Nat} {G H : Nat → Bool} : pm_tr w e 12 G H t = pm_all G (t - w) (t + 1 - (t - w)) := rfl
theorem pm_m7 {w t : Nat} {G H : Nat → Bool} : pm_mm w 7 G H t = pm_b (pm_pr G t) := rfl
theorem pm_m8 {w t : Nat} {G H : Nat → Bool} : pm_mm w 8 G H t = pm_b (pm_any G 0 t) := rfl
theorem pm_m9 {w t : Nat} {G H : Nat → Bool} : pm_mm w 9 G H t = pm_b (pm_any (fun u => !(G u)) 0 t) := rfl
theorem pm_m10 {w t : Nat} {G H : Nat → Bool} : pm_mm w 10 G H t = pm_b (pm_sp G H t) := rfl
theorem pm_m11 {w t : Nat} {G H : Nat → Bool} : pm_mm w 11 G H t = pm_wm G w t := rfl
theorem pm_m12 {w t : Nat} {G H : Nat → Bool} : pm_mm w 12 G H t = pm_wm (fun u => !(G u)) w t := rfl
theorem pm_m6 {w c t : Nat} {G H : Nat → Bool} (h : c ≤ 6) : pm_mm w c G H t = 0 := by
  unfold pm_mm
  rw [if_neg (by omega), if_neg (by omega), if_neg (by omega), if_neg (by omega), if_neg (by omega), if_neg (by omega)]
/-- the new memory of ONCE, and its answer -/
theorem pm_s8 (G : Nat → Bool) (t : Nat) : nI (pm_b (pm_any G 0 t)) ||| nI (pm_b (G t)) = nI (pm_b (pm_any G 0 (t + 1))) := by
  rw [pm_ior, pm_any_s]
theorem pm_s9 (G : Nat → Bool) (t : Nat) : nI (pm_b (pm_any (fun u => !(G u)) 0 t)) ||| (1 - nI (pm_b (G t))) = nI (pm_b (pm_any (fun u => !(G u)) 0 (t + 1))) := by
  rw [pm_inot, pm_ior, pm_any_s]
theorem pm_s9v (G : Nat → Bool) (t : Nat) : 1 - nI (pm_b (pm_any (fun u => !(G u)) 0 (t + 1))) = nI (pm_b (pm_all G 0 (t + 1))) := by
  rw [pm_inot, ← pm_all_not]
theorem pm_s10 (G H : Nat → Bool) (t : Nat) : nI (pm_b (H t)) ||| (nI (pm_b (G t)) &&& nI (pm_b (pm_sp G H t))) = nI (pm_b (pm_sin G H t (t + 1))) := by
  rw [pm_iand, pm_ior, pm_sin_rec]
theorem pm_s12v (G : Nat → Bool) (w t : Nat) : 1 - nI (pm_b (pm_any (fun u => !(G u)) (t - w) (t + 1 - (t - w)))) = nI (pm_b (pm_all G (t - w) (t + 1 - (t - w)))) := by
  rw [pm_inot, ← pm_all_not]
theorem pm_s11 (G : Nat → Bool) {w : Nat} (t : Nat) (hw : w ≤ 12) : ((nI (pm_wm G w t) <<< ((1 : Int32) &&& 31)) ||| nI (pm_b (G t))) &&& (((2 : Int32) <<< (nI w &&& 31)) - 1) = nI (pm_wm G w (t + 1)) :=
  pm_wstep (G t) hw (pm_wm_lt G w t)
theorem pm_wm_small (G : Nat → Bool) {w : Nat} (t : Nat) (hw : w ≤ 12) : pm_wm G w t < 8192 :=
  Nat.lt_of_lt_of_le (pm_wm_lt G w t) (Nat.pow_le_pow_right (show 0 < 2 by decide) (show w + 1 ≤ 13 by omega))
theorem pm_s11v (G : Nat → Bool) {w : Nat} (t : Nat) (hw : w ≤ 12) : nI (pm_wm G w (t + 1)) = 0 ↔ pm_any G (t - w) (t + 1 - (t - w)) = false := by
  have h := pm_wm_small G (t + 1) hw
  rw [← nI_0, nI_eq (by omega) (by omega)]
  exact pm_wm_val G w t
theorem pm_12 {P : Nat → Prop} (h0 : P 0) (h1 : P 1) (h2 : P 2) (h3 : P 3) (h4 : P 4) (h5 : P 5) (h6 : P 6) (h7 : P 7) (h8 : P 8) (h9 : P 9) (h10 : P 10) (h11 : P 11) (h12 : P 12) {c : Nat} (h : c ≤ 12) : P c :=
  match c, h with
  | 0, _ => h0
  | 1, _ => h1
  | 2, _ => h2
  | 3, _ => h3
  | 4, _ => h4
  | 5, _ => h5
  | 6, _ => h6
  | 7, _ => h7
  | 8, _ => h8
  | 9, _ => h9
  | 10, _ => h10
  | 11, _ => h11
  | 12, _ => h12
  | _ + 13, h => absurd h (by omega)
/-- a counter that runs down to -1 -/
def pm_k : Nat → Int32
  | 0 => -1
  | r + 1 => nI r
theorem pm_k_dec (r : Nat) : nI r + (-1) = pm_k r := by
  cases r with
  | zero => decide +kernel
  | succ r => exact pk_m1 r
theorem pm_k_sub (r : Nat) : nI r - 1 = pm_k r := by
  cases r with
  | zero => decide +kernel
  | succ r => exact nI_pred r
theorem pm_k_neg : pm_k 0 < 0 := by decide +kernel
/-- the array st holds the list l, its head on top -/
def pm_St (st : Nat → Int32) (l : List Nat) : Prop := ∀ i, i < l.length → st (l.length - 1 - i) = nI (l.getD i 0)
theorem pm_getD_drop (l : List Nat) (a i : Nat) : (l.drop a).getD i 0 = l.getD (a + i) 0 := by
  rw [List.getD_eq_getElem?_getD, List.getD_eq_getElem?_getD, List.getElem?_drop]
theorem pm_St_push {st : Nat → Int32} {l : List Nat} {a k : Nat} (h : pm_St st l) (ha : a ≤ l.length) : pm_St (upd st (l.length - a) (nI k)) (k :: l.drop a) := by
  intro i hi
  have hi' : i < l.length - a + 1 := by
    have := hi
    rw [List.length_cons, List.length_drop] at this
    exact this
  cases i with
  | zero =>
    show upd st (l.length - a) (nI k) ((k :: l.drop a).length - 1 - 0) = nI k
    rw [List.length_cons, List.length_drop, show l.length - a + 1 - 1 - 0 = l.length - a by omega]
    exact pk_us
  | succ i =>
    show upd st (l.length - a) (nI k) ((k :: l.drop a).length - 1 - (i + 1)) = nI ((l.drop a).getD i 0)
    rw [List.length_cons, List.length_drop, pk_un (by omega), pm_getD_drop, ← h (a + i) (by omega)]
    congr 1
    omega
theorem pm_St_0 {st : Nat → Int32} : pm_St st [] := fun i hi => absurd hi (by
  show ¬ i < 0
  omega)
theorem pm_gD {l : List Nat} {n : Nat} (hl : ∀ p, p ∈ l → p < n) (hn : 1 ≤ n) (i : Nat) : l.getD i 0 < n := by
  rw [List.getD_eq_getElem?_getD]
  cases h : l[i]? with
  | none => exact hn
  | some p => exact hl p (List.mem_of_getElem? h)
