/-- how many operands a token takes -/
def pm_ar (c : Nat) : Nat := if c ≤ 3 then 0 else if c = 5 ∨ c = 6 ∨ c = 10 then 2 else 1
def pm_b (b : Bool) : Nat := cond b 1 0
def pm_any (G : Nat → Bool) (s : Nat) : Nat → Bool
  | 0 => false
  | d + 1 => pm_any G s d || G (s + d)
def pm_all (G : Nat → Bool) (s : Nat) : Nat → Bool
  | 0 => true
  | d + 1 => pm_all G s d && G (s + d)
def pm_sin (G H : Nat → Bool) (t : Nat) : Nat → Bool
  | 0 => false
  | d + 1 => pm_sin G H t d || (H d && pm_all G (d + 1) (t - d))
def pm_pr (G : Nat → Bool) : Nat → Bool
  | 0 => false
  | t + 1 => G t
def pm_sp (G H : Nat → Bool) : Nat → Bool
  | 0 => false
  | t + 1 => pm_sin G H t (t + 1)
def pm_last (G : Nat → Bool) : Nat → Nat → Bool
  | 0, _ => false
  | _ + 1, 0 => false
  | t + 1, j + 1 => G t || pm_last G t j
def pm_wm (G : Nat → Bool) (w : Nat) : Nat → Nat
  | 0 => 0
  | t + 1 => (2 * pm_wm G w t + pm_b (G t)) % 2 ^ (w + 1)
/-- the truth of a token at t, from its operands' rows -/
def pm_tr (w : Nat) (e : Nat → Nat) (c : Nat) (G H : Nat → Bool) (t : Nat) : Bool :=
  if c ≤ 3 then decide (e t / 2 ^ c % 2 = 1)
  else if c = 4 then !(G t)
  else if c = 5 then (G t && H t)
  else if c = 6 then (G t || H t)
  else if c = 7 then pm_pr G t
  else if c = 8 then pm_any G 0 (t + 1)
  else if c = 9 then pm_all G 0 (t + 1)
  else if c = 10 then pm_sin G H t (t + 1)
  else if c = 11 then pm_any G (t - w) (t + 1 - (t - w))
  else pm_all G (t - w) (t + 1 - (t - w))
/-- what the class remembers of a token ahead of event t -/
def pm_mm (w c : Nat) (G H : Nat → Bool) (t : Nat) : Nat :=
  if c = 7 then pm_b (pm_pr G t)
  else if c = 8 then pm_b (pm_any G 0 t)
  else if c = 9 then pm_b (pm_any (fun u => !(G u)) 0 t)
  else if c = 10 then pm_b (pm_sp G H t)
  else if c = 11 then pm_wm G w t
  else if c = 12 then pm_wm (fun u => !(G u)) w t
  else 0
theorem pm_b_le (b : Bool) : pm_b b ≤ 1 := by cases b <;> decide
theorem pm_ar_le (c : Nat) : pm_ar c ≤ 2 := by
  unfold pm_ar
  split
  · omega
  · split <;> omega
theorem pm_all_not (G : Nat → Bool) (s d : Nat) : pm_all G s d = !(pm_any (fun u => !(G u)) s d) := by
  induction d with
  | zero => rfl
  | succ d ih =>
    show (pm_all G s d && G (s + d)) = !(pm_any (fun u => !(G u)) s d || !(G (s + d)))
    rw [ih]
    cases pm_any (fun u => !(G u)) s d <;> cases G (s + d) <;> rfl
theorem pm_any_last (G : Nat → Bool) (s d : Nat) : pm_any G s d = pm_last G (s + d) d := by
  induction d with
  | zero => cases s <;> rfl
  | succ d ih =>
    show (pm_any G s d || G (s + d)) = (G (s + d) || pm_last G (s + d) d)
    rw [ih, Bool.or_comm]
theorem pm_last_cap (G : Nat → Bool) : ∀ t j : Nat, t ≤ j → pm_last G t j = pm_last G t t
  | 0, j, _ => by simp [pm_last]
  | t + 1, 0, h => by omega
  | t + 1, j + 1, h => by
    show (G t || pm_last G t j) = (G t || pm_last G t t)
    rw [pm_last_cap G t j (by omega)]
theorem pm_win (G : Nat → Bool) (w t : Nat) : pm_any G (t - w) (t + 1 - (t - w)) = pm_last G (t + 1) (w + 1) := by
  rw [pm_any_last, show t - w + (t + 1 - (t - w)) = t + 1 by omega]
  by_cases h : w ≤ t
  · rw [show t + 1 - (t - w) = w + 1 by omega]
  · rw [show t + 1 - (t - w) = t + 1 by omega, ← pm_last_cap G (t + 1) (w + 1) (by omega)]
theorem pm_wm_lt (G : Nat → Bool) (w t : Nat) : pm_wm G w t < 2 ^ (w + 1) := by
  cases t with
  | zero => exact Nat.two_pow_pos _
  | succ t => exact Nat.mod_lt _ (Nat.two_pow_pos _)
theorem pm_wm_last (G : Nat → Bool) (w : Nat) : ∀ t j : Nat, j ≤ w + 1 → (pm_wm G w t % 2 ^ j = 0 ↔ pm_last G t j = false)
  | 0, j, _ => by simp [pm_wm, pm_last]
  | t + 1, 0, _ => by simp [pm_last, Nat.mod_one]
  | t + 1, j + 1, h => by
    have ih := pm_wm_last G w t j (by omega)
    have e : pm_wm G w (t + 1) % 2 ^ (j + 1) = (2 * pm_wm G w t + pm_b (G t)) % 2 ^ (j + 1) := by
      show (2 * pm_wm G w t + pm_b (G t)) % 2 ^ (w + 1) % 2 ^ (j + 1) = _
      exact Nat.mod_mod_of_dvd _ (Nat.pow_dvd_pow 2 h)
    rw [e]
    show _ ↔ (G t || pm_last G t j) = false
    rw [Bool.or_eq_false_iff, ← ih, Nat.pow_succ]
    generalize pm_wm G w t = M
    generalize 2 ^ j = P
    cases G t with
    | false =>
      show (2 * M + 0) % (P * 2) = 0 ↔ _
      rw [Nat.add_zero, Nat.mul_comm P 2, Nat.mul_mod_mul_left]
      constructor
      · intro h0
        exact ⟨rfl, by omega⟩
      · intro h0
        rw [h0.2]
    | true =>
      have h2 : (2 * M + 1) % (P * 2) % 2 = (2 * M + 1) % 2 := Nat.mod_mod_of_dvd _ (Nat.dvd_mul_left 2 P)
      show (2 * M + 1) % (P * 2) = 0 ↔ _
      constructor
      · intro h0
        rw [h0] at h2
        omega
      · intro h0
        exact absurd h0.1 (by decide)
theorem pm_wm_ne (G : Nat → Bool) (w t : Nat) : pm_wm G w t = 0 ↔ pm_last G t (w + 1) = false := by
  rw [← pm_wm_last G w t (w + 1) (Nat.le_refl _), Nat.mod_eq_of_lt (pm_wm_lt G w t)]
theorem pm_wm_val (G : Nat → Bool) (w t : Nat) : pm_wm G w (t + 1) = 0 ↔ pm_any G (t - w) (t + 1 - (t - w)) = false := by
  rw [pm_win]
  exact pm_wm_ne G w (t + 1)
theorem pm_sin_ext (G H : Nat → Bool) (t : Nat) : ∀ d : Nat, d ≤ t + 1 → pm_sin G H (t + 1) d = (pm_sin G H t d && G (t + 1))
  | 0, _ => rfl
  | d + 1, h => by
    have e : pm_all G (d + 1) (t + 1 - d) = (pm_all G (d + 1) (t - d) && G (t + 1)) := by
      rw [show t + 1 - d = (t - d) + 1 by omega]
      show (pm_all G (d + 1) (t - d) && G (d + 1 + (t - d))) = _
      rw [show d + 1 + (t - d) = t + 1 by omega]
    show (pm_sin G H (t + 1) d || (H d && pm_all G (d + 1) (t + 1 - d))) = ((pm_sin G H t d || (H d && pm_all G (d + 1) (t - d))) && G (t + 1))
    rw [pm_sin_ext G H t d (by omega), e]
    cases pm_sin G H t d <;> cases H d <;> cases pm_all G (d + 1) (t - d) <;> cases G (t + 1) <;> rfl
theorem pm_sin_rec (G H : Nat → Bool) (t : Nat) : pm_sin G H t (t + 1) = (H t || (G t && pm_sp G H t)) := by
  cases t with
  | zero =>
    show (false || (H 0 && true)) = (H 0 || (G 0 && false))
    cases H 0 <;> cases G 0 <;> rfl
  | succ t =>
    show (pm_sin G H (t + 1) (t + 1) || (H (t + 1) && pm_all G (t + 1 + 1) (t + 1 - (t + 1)))) = (H (t + 1) || (G (t + 1) && pm_sin G H t (t + 1)))
    rw [pm_sin_ext G H t (t + 1) (Nat.le_refl _), Nat.sub_self]
    show ((pm_sin G H t (t + 1) && G (t + 1)) || (H (t + 1) && true)) = _
    cases pm_sin G H t (t + 1) <;> cases H (t + 1) <;> cases G (t + 1) <;> rfl
theorem pm_mm_0 (w c : Nat) (G H : Nat → Bool) : pm_mm w c G H 0 = 0 := by
  unfold pm_mm
  repeat' split
  all_goals rfl
theorem pm_tr_congr {w c : Nat} {e : Nat → Nat} {G H G' H' : Nat → Bool} (hg : 1 ≤ pm_ar c → G = G') (hh : 2 ≤ pm_ar c → H = H') : pm_tr w e c G H = pm_tr w e c G' H' := by
  funext t
  by_cases h3 : c ≤ 3
  · simp [pm_tr, h3]
  · have hg' : G = G' := hg (by
      unfold pm_ar
      rw [if_neg h3]
      split <;> omega)
    subst hg'
    by_cases h2 : c = 5 ∨ c = 6 ∨ c = 10
    · have hh' : H = H' := hh (by
        unfold pm_ar
        rw [if_neg h3, if_pos h2]
        omega)
      subst hh'
      rfl
    · have h5 : ¬ c = 5 := fun z => h2 (Or.inl z)
      have h6 : ¬ c = 6 := fun z => h2 (Or.inr (Or.inl z))
      have h10 : ¬ c = 10 := fun z => h2 (Or.inr (Or.inr z))
      unfold pm_tr
      rw [if_neg h3, if_neg h3]
      simp only [h5, h6, h10, if_false]
/-- the stack of places once d tokens are read from the end -/
def pm_S (c : Nat → Nat) (n : Nat) : Nat → List Nat
  | 0 => []
  | d + 1 => (n - 1 - d) :: (pm_S c n d).drop (pm_ar (c (n - 1 - d)))
def pm_V (w : Nat) (e c : Nat → Nat) (n : Nat) : Nat → Nat → Nat → Bool
  | 0 => fun _ _ => false
  | d + 1 => fun k => if k = n - 1 - d then pm_tr w e (c k) (pm_V w e c n d ((pm_S c n d).getD 0 0)) (pm_V w e c n d ((pm_S c n d).getD 1 0)) else pm_V w e c n d k
theorem pm_S_mem {c : Nat → Nat} {n : Nat} : ∀ {d p : Nat}, d ≤ n → p ∈ pm_S c n d → n - d ≤ p ∧ p < n
  | 0, p, _, h => by
    have h' : p ∈ ([] : List Nat) := h
    cases h'
  | d + 1, p, hd, h => by
    have h' : p ∈ (n - 1 - d) :: (pm_S c n d).drop (pm_ar (c (n - 1 - d))) := h
    rw [List.mem_cons] at h'
    cases h' with
    | inl h1 => omega
    | inr h1 =>
      have h2 := pm_S_mem (d := d) (by omega) (List.mem_of_mem_drop h1)
      omega
theorem pm_V_st {w : Nat} {e c : Nat → Nat} {n d p : Nat} (h1 : n - d ≤ p) : ∀ i : Nat, d + i ≤ n → pm_V w e c n (d + i) p = pm_V w e c n d p
  | 0, _ => rfl
  | i + 1, h => by
    have hp : ¬ p = n - 1 - (d + i) := by omega
    show (if p = n - 1 - (d + i) then _ else pm_V w e c n (d + i) p) = _
    rw [if_neg hp]
    exact pm_V_st h1 i (by omega)
theorem pm_mem0 {l : List Nat} (h : 1 ≤ l.length) : l.getD 0 0 ∈ l := by
  cases l with
  | nil => exact absurd h (by decide)
  | cons a l => exact List.mem_cons_self
theorem pm_mem1 {l : List Nat} (h : 2 ≤ l.length) : l.getD 1 0 ∈ l := by
  cases l with
  | nil => exact absurd h (by decide)
  | cons a l =>
    cases l with
    | nil => exact absurd h (show ¬ 2 ≤ 1 by omega)
    | cons b l => exact List.mem_cons_of_mem _ List.mem_cons_self
/-- the table of truths: every token by its operands' rows -/
def pm_HV (w : Nat) (e c : Nat → Nat) (n : Nat) (V : Nat → Nat → Bool) : Prop :=
  ∀ d k : Nat, k + d + 1 = n → pm_ar (c k) ≤ (pm_S c n d).length ∧ V k = pm_tr w e (c k) (V ((pm_S c n d).getD 0 0)) (V ((pm_S c n d).getD 1 0))
/-- the operands still wanting after k tokens -/
def pm_N (c : Nat → Nat) : Nat → Nat
  | 0 => 1
  | k + 1 => pm_N c k + pm_ar (c k) - 1
theorem pm_N_le (c : Nat → Nat) : ∀ k : Nat, pm_N c k ≤ k + 1
  | 0 => Nat.le_refl _
  | k + 1 => by
    have h1 := pm_N_le c k
    have h2 := pm_ar_le (c k)
    show pm_N c k + pm_ar (c k) - 1 ≤ k + 1 + 1
    omega
theorem pm_N_congr {c c' : Nat → Nat} : ∀ {k : Nat}, (∀ j, j < k → c j = c' j) → pm_N c k = pm_N c' k
  | 0, _ => rfl
  | k + 1, h => by
    show pm_N c k + pm_ar (c k) - 1 = pm_N c' k + pm_ar (c' k) - 1
    rw [pm_N_congr (fun j hj => h j (by omega)), h k (by omega)]
theorem pm_len {c : Nat → Nat} {n : Nat} (hN : ∀ k, k < n → 1 ≤ pm_N c k) (h0 : pm_N c n = 0) : ∀ d k : Nat, k + d = n → (pm_S c n d).length = pm_N c k
  | 0, k, h => by
    have hk : k = n := h
    rw [hk, h0]
    rfl
  | d + 1, k, h => by
    have ih := pm_len hN h0 d (k + 1) (by omega)
    have h1 := hN k (by omega)
    have e : n - 1 - d = k := by omega
    have e2 : pm_N c (k + 1) = pm_N c k + pm_ar (c k) - 1 := rfl
    show ((n - 1 - d) :: (pm_S c n d).drop (pm_ar (c (n - 1 - d)))).length = _
    rw [List.length_cons, List.length_drop, ih, e, e2]
    omega
theorem pm_ok {c : Nat → Nat} {n : Nat} (hN : ∀ k, k < n → 1 ≤ pm_N c k) (h0 : pm_N c n = 0) {d k : Nat} (h : k + d + 1 = n) : pm_ar (c k) ≤ (pm_S c n d).length := by
  have h1 := hN k (by omega)
  have e2 : pm_N c (k + 1) = pm_N c k + pm_ar (c k) - 1 := rfl
  rw [pm_len hN h0 d (k + 1) (by omega), e2]
  omega
theorem pm_ex {w : Nat} {e c : Nat → Nat} {n : Nat} (hN : ∀ k, k < n → 1 ≤ pm_N c k) (h0 : pm_N c n = 0) : pm_HV w e c n (pm_V w e c n n) := by
  intro d k h
  have ho := pm_ok hN h0 h
  refine ⟨ho, ?_⟩
  have e1 : pm_V w e c n n k = pm_V w e c n (d + 1) k := by
    have := pm_V_st (w := w) (e := e) (c := c) (n := n) (d := d + 1) (p := k) (by omega) k (by omega)
    rw [show d + 1 + k = n by omega] at this
    exact this
  have e2 : pm_V w e c n (d + 1) k = pm_tr w e (c k) (pm_V w e c n d ((pm_S c n d).getD 0 0)) (pm_V w e c n d ((pm_S c n d).getD 1 0)) := if_pos (by omega)
  have st : ∀ p, p ∈ pm_S c n d → pm_V w e c n d p = pm_V w e c n n p := by
    intro p hp
    have hb := pm_S_mem (by omega) hp
    have := pm_V_st (w := w) (e := e) (c := c) (n := n) (d := d) (p := p) hb.1 (n - d) (by omega)
    rw [show d + (n - d) = n by omega] at this
    exact this.symm
  rw [e1, e2]
  exact pm_tr_congr (fun h1 => st _ (pm_mem0 (by omega))) (fun h2 => st _ (pm_mem1 (by omega)))
theorem pm_S_len {c : Nat → Nat} {n : Nat} : ∀ d : Nat, (pm_S c n d).length ≤ d
  | 0 => Nat.le_refl _
  | d + 1 => by
    have ih := pm_S_len (c := c) (n := n) d
    show ((n - 1 - d) :: (pm_S c n d).drop (pm_ar (c (n - 1 - d)))).length ≤ d + 1
    rw [List.length_cons, List.length_drop]
    omega
/-- the values of the places of a stack as the bits of a number -/
def pm_bl (V : Nat → Bool) : List Nat → Nat
  | [] => 0
  | p :: l => pm_b (V p) + 2 * pm_bl V l
theorem pm_bl_lt (V : Nat → Bool) : ∀ l : List Nat, pm_bl V l < 2 ^ l.length
  | [] => Nat.one_pos
  | p :: l => by
    have h1 := pm_bl_lt V l
    have h2 := pm_b_le (V p)
    show pm_b (V p) + 2 * pm_bl V l < 2 ^ (l.length + 1)
    rw [Nat.pow_succ]
    omega
theorem pm_bl_drop (V : Nat → Bool) : ∀ (a : Nat) (l : List Nat), pm_bl V l / 2 ^ a = pm_bl V (l.drop a)
  | 0, l => by
    rw [Nat.pow_zero, Nat.div_one]
    rfl
  | a + 1, [] => by
    show 0 / _ = 0
    exact Nat.zero_div _
  | a + 1, p :: l => by
    have h2 := pm_b_le (V p)
    show (pm_b (V p) + 2 * pm_bl V l) / 2 ^ (a + 1) = pm_bl V (l.drop a)
    rw [Nat.pow_succ', ← Nat.div_div_eq_div_mul, show (pm_b (V p) + 2 * pm_bl V l) / 2 = pm_bl V l by omega]
    exact pm_bl_drop V a l
theorem pm_bl_g (V : Nat → Bool) {l : List Nat} (h : 1 ≤ l.length) : pm_bl V l % 2 = pm_b (V (l.getD 0 0)) := by
  cases l with
  | nil => exact absurd h (by decide)
  | cons p l =>
    have h2 := pm_b_le (V p)
    show (pm_b (V p) + 2 * pm_bl V l) % 2 = pm_b (V p)
    omega
theorem pm_bl_h (V : Nat → Bool) {l : List Nat} (h : 2 ≤ l.length) : pm_bl V l / 2 % 2 = pm_b (V (l.getD 1 0)) := by
  cases l with
  | nil => exact absurd h (by decide)
  | cons p l =>
    have h2 := pm_b_le (V p)
    have e : pm_bl V (p :: l) / 2 = pm_bl V l := by
      show (pm_b (V p) + 2 * pm_bl V l) / 2 = pm_bl V l
      omega
    rw [e]
    exact pm_bl_g V (l := l) (by
      have h3 : 2 ≤ l.length + 1 := h
      omega)
/-- how many of the first d hold -/
def pm_cnt (B : Nat → Bool) : Nat → Nat
  | 0 => 0
  | d + 1 => pm_cnt B d + pm_b (B d)
/-- the length of the last row of truths among the first t -/
def pm_stk (B : Nat → Bool) : Nat → Nat
  | 0 => 0
  | t + 1 => cond (B t) (pm_stk B t + 1) 0
/-- the first failure from s on among d -/
def pm_vio (B : Nat → Bool) (s : Nat) : Nat → Int32
  | 0 => -1
  | d + 1 => cond (B s) (pm_vio B (s + 1) d) (nI s)
theorem pm_cnt_le (B : Nat → Bool) : ∀ d : Nat, pm_cnt B d ≤ d
  | 0 => Nat.le_refl _
  | d + 1 => by
    have h1 := pm_cnt_le B d
    have h2 := pm_b_le (B d)
    show pm_cnt B d + pm_b (B d) ≤ d + 1
    omega
theorem pm_stk_le (B : Nat → Bool) : ∀ d : Nat, pm_stk B d ≤ d
  | 0 => Nat.le_refl _
  | d + 1 => by
    have h1 := pm_stk_le B d
    show cond (B d) (pm_stk B d + 1) 0 ≤ d + 1
    cases B d
    · exact Nat.zero_le _
    · exact Nat.succ_le_succ h1
theorem pm_any_s (G : Nat → Bool) (t : Nat) : pm_any G 0 (t + 1) = (pm_any G 0 t || G t) := by
  show (pm_any G 0 t || G (0 + t)) = _
  rw [Nat.zero_add]
/-- tokens within, events within, no proper prefix whole -/
def pm_B (w n m : Nat) (c e : Nat → Nat) : Prop :=
  w ≤ 12 ∧ n ≤ 14 ∧ m ≤ 200 ∧ (∀ j, j < n → c j ≤ 12) ∧ (∀ j, j < m → e j < 16) ∧ (∀ k, k < n → 1 ≤ pm_N c k)
/-- a function with another value at one place -/
def pm_up (f : Nat → Nat) (k x : Nat) : Nat → Nat := fun j => if j = k then x else f j
theorem pm_up_s {f : Nat → Nat} {k x : Nat} : pm_up f k x k = x := if_pos rfl
theorem pm_up_n {f : Nat → Nat} {k x j : Nat} (h : j ≠ k) : pm_up f k x j = f j := if_neg h
theorem pm_B_feed {w n m x : Nat} {c e : Nat → Nat} (h : pm_B w n m c e) (hn : n < 14) (hx : x ≤ 12) (h0 : pm_N c n ≠ 0) : pm_B w (n + 1) m (pm_up c n x) e := by
  obtain ⟨h1, h2, h3, h4, h5, h6⟩ := h
  refine ⟨h1, by omega, h3, ?_, h5, ?_⟩
  · intro j hj
    by_cases hjn : j = n
    · rw [hjn, pm_up_s]
      exact hx
    · rw [pm_up_n hjn]
      exact h4 j (by omega)
  · intro k hk
    have e1 : pm_N (pm_up c n x) k = pm_N c k := pm_N_congr (fun j hj => pm_up_n (by omega))
    rw [e1]
    by_cases hkn : k = n
    · rw [hkn]
      omega
    · exact h6 k (by omega)
theorem pm_B_back {w n m : Nat} {c e : Nat → Nat} (h : pm_B w (n + 1) m c e) : pm_B w n m c e := by
  obtain ⟨h1, h2, h3, h4, h5, h6⟩ := h
  exact ⟨h1, by omega, h3, fun j hj => h4 j (by omega), h5, fun k hk => h6 k (by omega)⟩
theorem pm_B_event {w n m x : Nat} {c e : Nat → Nat} (h : pm_B w n m c e) (hm : m < 200) (hx : x < 16) : pm_B w n (m + 1) c (pm_up e m x) := by
  obtain ⟨h1, h2, h3, h4, h5, h6⟩ := h
  refine ⟨h1, h2, by omega, h4, ?_, h6⟩
  intro j hj
  by_cases hjm : j = m
  · rw [hjm, pm_up_s]
    exact hx
  · rw [pm_up_n hjm]
    exact h5 j (by omega)
theorem pm_B_less {w n m m' : Nat} {c e : Nat → Nat} (h : pm_B w n m c e) (hm : m' ≤ m) : pm_B w n m' c e := by
  obtain ⟨h1, h2, h3, h4, h5, h6⟩ := h
  exact ⟨h1, h2, by omega, h4, fun j hj => h5 j (by omega), h6⟩
theorem pm_n1 {c : Nat → Nat} {n : Nat} (h0 : pm_N c n = 0) : 1 ≤ n := by
  cases n with
  | zero => exact absurd h0 (show ¬ 1 = 0 by omega)
  | succ n => omega
