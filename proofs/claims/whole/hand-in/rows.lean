section
/-! pure rows to paste: stores, nI and lN arithmetic, masks, shifts, narrowing, branches by naturals (pk_le, pk_lt, pk_eq), loops (lp1 .. lp16: the measure of the state; rp1 ..: recursion), negatives. Take what you need -/
theorem pk_us {f : Nat → Int32} {k : Nat} {x : Int32} : upd f k x k = x := if_pos rfl
theorem pk_un {f : Nat → Int32} {k j : Nat} {x : Int32} (h : j ≠ k) : upd f k x j = f j := if_neg h
theorem pk_uLs {f : Nat → Int64} {k : Nat} {x : Int64} : vp_updL f k x k = x := if_pos rfl
theorem pk_uLn {f : Nat → Int64} {k j : Nat} {x : Int64} (h : j ≠ k) : vp_updL f k x j = f j := if_neg h
theorem pk_sub {a b : Nat} (h : b ≤ a) : nI a - nI b = nI (a - b) := by
  obtain ⟨c, rfl⟩ : ∃ c, a = c + b := ⟨a - b, by omega⟩
  rw [← nI_add, Int32.add_sub_cancel, Nat.add_sub_cancel]
theorem pk_m1 (n : Nat) : nI (n + 1) + (-1) = nI n := by
  rw [← nI_1, Int32.add_assoc, show (1 : Int32) + (-1) = 0 from rfl, Int32.add_zero]
theorem pk_mul (a b : Nat) : nI a * nI b = nI (a * b) := (Int32.ofNat_mul a b).symm
theorem pk_div {a d : Nat} (ha : a < 2 ^ 31) (h0 : 0 < d) (hd : d < 2 ^ 31) : nI a / nI d = nI (a / d) := by
  apply Int32.toInt_inj.mp
  rw [lg_idiv_nonneg (by rw [nI_toInt ha]; omega) (by rw [nI_toInt hd]; omega), nI_toInt ha, nI_toInt hd, nI_toInt (Nat.lt_of_le_of_lt (Nat.div_le_self a d) ha)]
  first | rfl | exact (Int.natCast_ediv _ _).symm
theorem pk_rem {a d : Nat} (ha : a < 2 ^ 31) (h0 : 0 < d) (hd : d < 2 ^ 31) : nI a - nI a / nI d * nI d = nI (a % d) := by
  rw [pk_div ha h0 hd, pk_mul, pk_sub (Nat.div_mul_le_self a d)]
  exact congrArg nI (by have := Nat.div_add_mod' a d; omega)
theorem pk_sub_toInt {a b : Nat} (ha : a < 2 ^ 30) (hb : b < 2 ^ 30) : (nI a - nI b).toInt = (a : Int) - b := by
  rw [Int32.toInt_sub, nI_toInt (by omega), nI_toInt (by omega)]
  exact Int.bmod_eq_of_le (by omega) (by omega)
theorem pk_sneg {a b : Nat} (hb : b < 2 ^ 30) (h : a < b) : nI a - nI b < 0 := by
  rw [Int32.lt_iff_toInt_lt, pk_sub_toInt (by omega) hb, show (0 : Int32).toInt = 0 from by decide]
  omega
theorem pk_ix (x : Int32) {n : Nat} (hn : n < 2 ^ 31) : x < 0 ∨ nI n ≤ x ∨ ∃ j : Nat, j < n ∧ x = nI j := by
  by_cases h : x < 0
  · exact Or.inl h
  · obtain ⟨j, hj, rfl⟩ := nI_of h
    by_cases h2 : j < n
    · exact Or.inr (Or.inr ⟨j, h2, rfl⟩)
    · exact Or.inr (Or.inl (nI_le (by omega) hj))
theorem pk_le {x y : Int32} {A B : Prop} (a b : Nat) (f : a ≤ b → A) (g : b < a → B) (hx : x = nI a := by rfl) (hy : y = nI b := by rfl) (ha : a < 2 ^ 31 := by omega) (hb : b < 2 ^ 31 := by omega) : (x ≤ y → A) ∧ (¬ x ≤ y → B) := by
  subst hx hy
  rw [nI_leI ha hb]
  exact ⟨f, fun z => g (by omega)⟩
theorem pk_lt {x y : Int32} {A B : Prop} (a b : Nat) (f : a < b → A) (g : b ≤ a → B) (hx : x = nI a := by rfl) (hy : y = nI b := by rfl) (ha : a < 2 ^ 31 := by omega) (hb : b < 2 ^ 31 := by omega) : (x < y → A) ∧ (¬ x < y → B) := by
  subst hx hy
  rw [nI_ltI ha hb]
  exact ⟨f, fun z => g (by omega)⟩
theorem pk_eq {x y : Int32} {A B : Prop} (a b : Nat) (f : a = b → A) (g : a ≠ b → B) (hx : x = nI a := by rfl) (hy : y = nI b := by rfl) (ha : a < 2 ^ 31 := by omega) (hb : b < 2 ^ 31 := by omega) : (x = y → A) ∧ (¬ x = y → B) := by
  subst hx hy
  rw [nI_eq ha hb]
  exact ⟨f, g⟩
theorem pk_in {x : Int32} (n N : Nat) (h : n < N) (hx : x = nI n := by rfl) (hN : N < 2 ^ 31 := by omega) : vp_in x N := by
  subst hx
  exact vp_in_nI h hN
theorem pk_cl {x : Int32} (n : Nat) (hx : x = nI n := by rfl) (h : n < 2 ^ 31 := by omega) : x.toNatClampNeg = n := by
  subst hx
  exact nI_clamp h
theorem pk_tn {n : Nat} (h : n < 2 ^ 32) : (nI n).toBitVec.toNat = n := Nat.mod_eq_of_lt h
theorem pk_and (x : Int32) {m : Int32} (k : Nat) (hm : m.toBitVec.toNat = 2 ^ k - 1) : x &&& m = nI (x.toBitVec.toNat % 2 ^ k) := by
  apply Int32.toBitVec_inj.mp
  apply BitVec.eq_of_toNat_eq
  rw [Int32.toBitVec_and, BitVec.toNat_and, hm, Nat.and_two_pow_sub_one_eq_mod]
  show _ = (BitVec.ofNat 32 _).toNat
  rw [BitVec.toNat_ofNat]
  exact (Nat.mod_eq_of_lt (Nat.lt_of_le_of_lt (Nat.mod_le _ _) x.toBitVec.isLt)).symm
theorem pk_andN {n : Nat} (h : n < 2 ^ 32) {m : Int32} (k : Nat) (hm : m.toBitVec.toNat = 2 ^ k - 1) : nI n &&& m = nI (n % 2 ^ k) := by
  rw [pk_and _ k hm, pk_tn h]
theorem pk_andE (x : Int32) {m : Int32} (k : Nat) (hm : m.toBitVec.toNat = 2 ^ k - 1) : ∃ j : Nat, j < 2 ^ k ∧ x &&& m = nI j := ⟨_, Nat.mod_lt _ (Nat.two_pow_pos k), pk_and x k hm⟩
theorem pk_andIn (x : Int32) {m : Int32} (k : Nat) (hm : m.toBitVec.toNat = 2 ^ k - 1) (hk : k ≤ 30) : vp_in (x &&& m) (2 ^ k) := by
  obtain ⟨j, hj, e⟩ := pk_andE x k hm
  rw [e]
  exact vp_in_nI hj (Nat.lt_of_le_of_lt (Nat.pow_le_pow_right (by decide) hk) (by decide))
theorem pk_shl (a s : Int32) (k : Nat) (hs : (s.toBitVec.smod 32).toNat = k) : (a <<< s).toBitVec.toNat = a.toBitVec.toNat * 2 ^ k % 2 ^ 32 := by
  show (a.toBitVec <<< (s.toBitVec.smod 32).toNat).toNat = _
  rw [hs, BitVec.toNat_shiftLeft, Nat.shiftLeft_eq]
theorem pk_shlN {n : Nat} (s : Int32) (k : Nat) (hs : (s.toBitVec.smod 32).toNat = k) (h : n * 2 ^ k < 2 ^ 32) : nI n <<< s = nI (n * 2 ^ k) := by
  apply Int32.toBitVec_inj.mp
  apply BitVec.eq_of_toNat_eq
  have hn : n < 2 ^ 32 := Nat.lt_of_le_of_lt (Nat.le_mul_of_pos_right n (Nat.two_pow_pos k)) h
  rw [pk_shl _ _ k hs, pk_tn hn, pk_tn h, Nat.mod_eq_of_lt h]
theorem pk_shr (a s : Int32) (k : Nat) (hs : (s.toBitVec.smod 32).toNat = k) : (a >>> s).toInt = a.toInt >>> k := by
  show (a.toBitVec.sshiftRight (s.toBitVec.smod 32).toNat).toInt = _
  rw [hs, BitVec.toInt_sshiftRight]
  rfl
theorem pk_shrN {n : Nat} (h : n < 2 ^ 31) (s : Int32) (k : Nat) (hs : (s.toBitVec.smod 32).toNat = k) : nI n >>> s = nI (n / 2 ^ k) := by
  apply Int32.toInt_inj.mp
  have h2 : n / 2 ^ k ≤ n := Nat.div_le_self _ _
  rw [pk_shr _ _ k hs, nI_toInt h, nI_toInt (by omega), Int.shiftRight_eq_div_pow]
  rfl
theorem nx_and (a b : Nat) : nI a &&& nI b = nI (a &&& b) := by
  apply Int32.toBitVec_inj.1
  show BitVec.ofNat 32 a &&& BitVec.ofNat 32 b = BitVec.ofNat 32 (a &&& b)
  apply BitVec.eq_of_getLsbD_eq
  intro i hi
  simp [hi]
end
section
/-- how many operands a token takes -/
def pm_ar (c : Nat) : Nat := if c ≤ 3 then 0 else if c = 5 ∨ c = 6 ∨ c = 10 then 2 else 1
def pm_b (b : Bool) : Nat := cond b 1 0
def pm_any (G : Nat → Bool) (s : Nat) : Nat → Bool
  | 0 => false
  | d + 1 => pm_any G s d || G (s + d)
def pm_all (G : Nat → Bool) (s : Nat) : Nat → Bool
  | 0 => true
  | d + 1 => pm_all G s d && G (s + d)
def pm_sin (G H : Nat → Bool) (t : Nat) : Nat → Bool
  | 0 => false
  | d + 1 => pm_sin G H t d || (H d && pm_all G (d + 1) (t - d))
def pm_pr (G : Nat → Bool) : Nat → Bool
  | 0 => false
  | t + 1 => G t
def pm_sp (G H : Nat → Bool) : Nat → Bool
  | 0 => false
  | t + 1 => pm_sin G H t (t + 1)
def pm_last (G : Nat → Bool) : Nat → Nat → Bool
  | 0, _ => false
  | _ + 1, 0 => false
  | t + 1, j + 1 => G t || pm_last G t j
def pm_wm (G : Nat → Bool) (w : Nat) : Nat → Nat
  | 0 => 0
  | t + 1 => (2 * pm_wm G w t + pm_b (G t)) % 2 ^ (w + 1)
/-- the truth of a token at t, from its operands' rows -/
def pm_tr (w : Nat) (e : Nat → Nat) (c : Nat) (G H : Nat → Bool) (t : Nat) : Bool :=
  if c ≤ 3 then decide (e t / 2 ^ c % 2 = 1)
  else if c = 4 then !(G t)
  else if c = 5 then (G t && H t)
  else if c = 6 then (G t || H t)
  else if c = 7 then pm_pr G t
  else if c = 8 then pm_any G 0 (t + 1)
  else if c = 9 then pm_all G 0 (t + 1)
  else if c = 10 then pm_sin G H t (t + 1)
  else if c = 11 then pm_any G (t - w) (t + 1 - (t - w))
  else pm_all G (t - w) (t + 1 - (t - w))
/-- what the class remembers of a token ahead of event t -/
def pm_mm (w c : Nat) (G H : Nat → Bool) (t : Nat) : Nat :=
  if c = 7 then pm_b (pm_pr G t)
  else if c = 8 then pm_b (pm_any G 0 t)
  else if c = 9 then pm_b (pm_any (fun u => !(G u)) 0 t)
  else if c = 10 then pm_b (pm_sp G H t)
  else if c = 11 then pm_wm G w t
  else if c = 12 then pm_wm (fun u => !(G u)) w t
  else 0
theorem pm_b_le (b : Bool) : pm_b b ≤ 1 := by cases b <;> decide
theorem pm_ar_le (c : Nat) : pm_ar c ≤ 2 := by
  unfold pm_ar
  split
  · omega
  · split <;> omega
theorem pm_all_not (G : Nat → Bool) (s d : Nat) : pm_all G s d = !(pm_any (fun u => !(G u)) s d) := by
  induction d with
  | zero => rfl
  | succ d ih =>
    show (pm_all G s d && G (s + d)) = !(pm_any (fun u => !(G u)) s d || !(G (s + d)))
    rw [ih]
    cases pm_any (fun u => !(G u)) s d <;> cases G (s + d) <;> rfl
theorem pm_any_last (G : Nat → Bool) (s d : Nat) : pm_any G s d = pm_last G (s + d) d := by
  induction d with
  | zero => cases s <;> rfl
  | succ d ih =>
    show (pm_any G s d || G (s + d)) = (G (s + d) || pm_last G (s + d) d)
    rw [ih, Bool.or_comm]
theorem pm_last_cap (G : Nat → Bool) : ∀ t j : Nat, t ≤ j → pm_last G t j = pm_last G t t
  | 0, j, _ => by simp [pm_last]
  | t + 1, 0, h => by omega
  | t + 1, j + 1, h => by
    show (G t || pm_last G t j) = (G t || pm_last G t t)
    rw [pm_last_cap G t j (by omega)]
theorem pm_win (G : Nat → Bool) (w t : Nat) : pm_any G (t - w) (t + 1 - (t - w)) = pm_last G (t + 1) (w + 1) := by
  rw [pm_any_last, show t - w + (t + 1 - (t - w)) = t + 1 by omega]
  by_cases h : w ≤ t
  · rw [show t + 1 - (t - w) = w + 1 by omega]
  · rw [show t + 1 - (t - w) = t + 1 by omega, ← pm_last_cap G (t + 1) (w + 1) (by omega)]
theorem pm_wm_lt (G : Nat → Bool) (w t : Nat) : pm_wm G w t < 2 ^ (w + 1) := by
  cases t with
  | zero => exact Nat.two_pow_pos _
  | succ t => exact Nat.mod_lt _ (Nat.two_pow_pos _)
theorem pm_wm_last (G : Nat → Bool) (w : Nat) : ∀ t j : Nat, j ≤ w + 1 → (pm_wm G w t % 2 ^ j = 0 ↔ pm_last G t j = false)
  | 0, j, _ => by simp [pm_wm, pm_last]
  | t + 1, 0, _ => by simp [pm_last, Nat.mod_one]
  | t + 1, j + 1, h => by
    have ih := pm_wm_last G w t j (by omega)
    have e : pm_wm G w (t + 1) % 2 ^ (j + 1) = (2 * pm_wm G w t + pm_b (G t)) % 2 ^ (j + 1) := by
      show (2 * pm_wm G w t + pm_b (G t)) % 2 ^ (w + 1) % 2 ^ (j + 1) = _
      exact Nat.mod_mod_of_dvd _ (Nat.pow_dvd_pow 2 h)
    rw [e]
    show _ ↔ (G t || pm_last G t j) = false
    rw [Bool.or_eq_false_iff, ← ih, Nat.pow_succ]
    generalize pm_wm G w t = M
    generalize 2 ^ j = P
    cases G t with
    | false =>
      show (2 * M + 0) % (P * 2) = 0 ↔ _
      rw [Nat.add_zero, Nat.mul_comm P 2, Nat.mul_mod_mul_left]
      constructor
      · intro h0
        exact ⟨rfl, by omega⟩
      · intro h0
        rw [h0.2]
    | true =>
      have h2 : (2 * M + 1) % (P * 2) % 2 = (2 * M + 1) % 2 := Nat.mod_mod_of_dvd _ (Nat.dvd_mul_left 2 P)
      show (2 * M + 1) % (P * 2) = 0 ↔ _
      constructor
      · intro h0
        rw [h0] at h2
        omega
      · intro h0
        exact absurd h0.1 (by decide)
theorem pm_wm_ne (G : Nat → Bool) (w t : Nat) : pm_wm G w t = 0 ↔ pm_last G t (w + 1) = false := by
  rw [← pm_wm_last G w t (w + 1) (Nat.le_refl _), Nat.mod_eq_of_lt (pm_wm_lt G w t)]
theorem pm_wm_val (G : Nat → Bool) (w t : Nat) : pm_wm G w (t + 1) = 0 ↔ pm_any G (t - w) (t + 1 - (t - w)) = false := by
  rw [pm_win]
  exact pm_wm_ne G w (t + 1)
theorem pm_sin_ext (G H : Nat → Bool) (t : Nat) : ∀ d : Nat, d ≤ t + 1 → pm_sin G H (t + 1) d = (pm_sin G H t d && G (t + 1))
  | 0, _ => rfl
  | d + 1, h => by
    have e : pm_all G (d + 1) (t + 1 - d) = (pm_all G (d + 1) (t - d) && G (t + 1)) := by
      rw [show t + 1 - d = (t - d) + 1 by omega]
      show (pm_all G (d + 1) (t - d) && G (d + 1 + (t - d))) = _
      rw [show d + 1 + (t - d) = t + 1 by omega]
    show (pm_sin G H (t + 1) d || (H d && pm_all G (d + 1) (t + 1 - d))) = ((pm_sin G H t d || (H d && pm_all G (d + 1) (t - d))) && G (t + 1))
    rw [pm_sin_ext G H t d (by omega), e]
    cases pm_sin G H t d <;> cases H d <;> cases pm_all G (d + 1) (t - d) <;> cases G (t + 1) <;> rfl
theorem pm_sin_rec (G H : Nat → Bool) (t : Nat) : pm_sin G H t (t + 1) = (H t || (G t && pm_sp G H t)) := by
  cases t with
  | zero =>
    show (false || (H 0 && true)) = (H 0 || (G 0 && false))
    cases H 0 <;> cases G 0 <;> rfl
  | succ t =>
    show (pm_sin G H (t + 1) (t + 1) || (H (t + 1) && pm_all G (t + 1 + 1) (t + 1 - (t + 1)))) = (H (t + 1) || (G (t + 1) && pm_sin G H t (t + 1)))
    rw [pm_sin_ext G H t (t + 1) (Nat.le_refl _), Nat.sub_self]
    show ((pm_sin G H t (t + 1) && G (t + 1)) || (H (t + 1) && true)) = _
    cases pm_sin G H t (t + 1) <;> cases H (t + 1) <;> cases G (t + 1) <;> rfl
theorem pm_mm_0 (w c : Nat) (G H : Nat → Bool) : pm_mm w c G H 0 = 0 := by
  unfold pm_mm
  repeat' split
  all_goals rfl
theorem pm_tr_congr {w c : Nat} {e : Nat → Nat} {G H G' H' : Nat → Bool} (hg : 1 ≤ pm_ar c → G = G') (hh : 2 ≤ pm_ar c → H = H') : pm_tr w e c G H = pm_tr w e c G' H' := by
  funext t
  by_cases h3 : c ≤ 3
  · simp [pm_tr, h3]
  · have hg' : G = G' := hg (by
      unfold pm_ar
      rw [if_neg h3]
      split <;> omega)
    subst hg'
    by_cases h2 : c = 5 ∨ c = 6 ∨ c = 10
    · have hh' : H = H' := hh (by
        unfold pm_ar
        rw [if_neg h3, if_pos h2]
        omega)
      subst hh'
      rfl
    · have h5 : ¬ c = 5 := fun z => h2 (Or.inl z)
      have h6 : ¬ c = 6 := fun z => h2 (Or.inr (Or.inl z))
      have h10 : ¬ c = 10 := fun z => h2 (Or.inr (Or.inr z))
      unfold pm_tr
      rw [if_neg h3, if_neg h3]
      simp only [h5, h6, h10, if_false]
/-- the stack of places once d tokens are read from the end -/
def pm_S (c : Nat → Nat) (n : Nat) : Nat → List Nat
  | 0 => []
  | d + 1 => (n - 1 - d) :: (pm_S c n d).drop (pm_ar (c (n - 1 - d)))
def pm_V (w : Nat) (e c : Nat → Nat) (n : Nat) : Nat → Nat → Nat → Bool
  | 0 => fun _ _ => false
  | d + 1 => fun k => if k = n - 1 - d then pm_tr w e (c k) (pm_V w e c n d ((pm_S c n d).getD 0 0)) (pm_V w e c n d ((pm_S c n d).getD 1 0)) else pm_V w e c n d k
theorem pm_S_mem {c : Nat → Nat} {n : Nat} : ∀ {d p : Nat}, d ≤ n → p ∈ pm_S c n d → n - d ≤ p ∧ p < n
  | 0, p, _, h => by
    have h' : p ∈ ([] : List Nat) := h
    cases h'
  | d + 1, p, hd, h => by
    have h' : p ∈ (n - 1 - d) :: (pm_S c n d).drop (pm_ar (c (n - 1 - d))) := h
    rw [List.mem_cons] at h'
    cases h' with
    | inl h1 => omega
    | inr h1 =>
      have h2 := pm_S_mem (d := d) (by omega) (List.mem_of_mem_drop h1)
      omega
theorem pm_V_st {w : Nat} {e c : Nat → Nat} {n d p : Nat} (h1 : n - d ≤ p) : ∀ i : Nat, d + i ≤ n → pm_V w e c n (d + i) p = pm_V w e c n d p
  | 0, _ => rfl
  | i + 1, h => by
    have hp : ¬ p = n - 1 - (d + i) := by omega
    show (if p = n - 1 - (d + i) then _ else pm_V w e c n (d + i) p) = _
    rw [if_neg hp]
    exact pm_V_st h1 i (by omega)
theorem pm_mem0 {l : List Nat} (h : 1 ≤ l.length) : l.getD 0 0 ∈ l := by
  cases l with
  | nil => exact absurd h (by decide)
  | cons a l => exact List.mem_cons_self
theorem pm_mem1 {l : List Nat} (h : 2 ≤ l.length) : l.getD 1 0 ∈ l := by
  cases l with
  | nil => exact absurd h (by decide)
  | cons a l =>
    cases l with
    | nil => exact absurd h (show ¬ 2 ≤ 1 by omega)
    | cons b l => exact List.mem_cons_of_mem _ List.mem_cons_self
/-- the table of truths: every token by its operands' rows -/
def pm_HV (w : Nat) (e c : Nat → Nat) (n : Nat) (V : Nat → Nat → Bool) : Prop :=
  ∀ d k : Nat, k + d + 1 = n → pm_ar (c k) ≤ (pm_S c n d).length ∧ V k = pm_tr w e (c k) (V ((pm_S c n d).getD 0 0)) (V ((pm_S c n d).getD 1 0))
/-- the operands still wanting after k tokens -/
def pm_N (c : Nat → Nat) : Nat → Nat
  | 0 => 1
  | k + 1 => pm_N c k + pm_ar (c k) - 1
theorem pm_N_le (c : Nat → Nat) : ∀ k : Nat, pm_N c k ≤ k + 1
  | 0 => Nat.le_refl _
  | k + 1 => by
    have h1 := pm_N_le c k
    have h2 := pm_ar_le (c k)
    show pm_N c k + pm_ar (c k) - 1 ≤ k + 1 + 1
    omega
theorem pm_N_congr {c c' : Nat → Nat} : ∀ {k : Nat}, (∀ j, j < k → c j = c' j) → pm_N c k = pm_N c' k
  | 0, _ => rfl
  | k + 1, h => by
    show pm_N c k + pm_ar (c k) - 1 = pm_N c' k + pm_ar (c' k) - 1
    rw [pm_N_congr (fun j hj => h j (by omega)), h k (by omega)]
theorem pm_len {c : Nat → Nat} {n : Nat} (hN : ∀ k, k < n → 1 ≤ pm_N c k) (h0 : pm_N c n = 0) : ∀ d k : Nat, k + d = n → (pm_S c n d).length = pm_N c k
  | 0, k, h => by
    have hk : k = n := h
    rw [hk, h0]
    rfl
  | d + 1, k, h => by
    have ih := pm_len hN h0 d (k + 1) (by omega)
    have h1 := hN k (by omega)
    have e : n - 1 - d = k := by omega
    have e2 : pm_N c (k + 1) = pm_N c k + pm_ar (c k) - 1 := rfl
    show ((n - 1 - d) :: (pm_S c n d).drop (pm_ar (c (n - 1 - d)))).length = _
    rw [List.length_cons, List.length_drop, ih, e, e2]
    omega
theorem pm_ok {c : Nat → Nat} {n : Nat} (hN : ∀ k, k < n → 1 ≤ pm_N c k) (h0 : pm_N c n = 0) {d k : Nat} (h : k + d + 1 = n) : pm_ar (c k) ≤ (pm_S c n d).length := by
  have h1 := hN k (by omega)
  have e2 : pm_N c (k + 1) = pm_N c k + pm_ar (c k) - 1 := rfl
  rw [pm_len hN h0 d (k + 1) (by omega), e2]
  omega
theorem pm_ex {w : Nat} {e c : Nat → Nat} {n : Nat} (hN : ∀ k, k < n → 1 ≤ pm_N c k) (h0 : pm_N c n = 0) : pm_HV w e c n (pm_V w e c n n) := by
  intro d k h
  have ho := pm_ok hN h0 h
  refine ⟨ho, ?_⟩
  have e1 : pm_V w e c n n k = pm_V w e c n (d + 1) k := by
    have := pm_V_st (w := w) (e := e) (c := c) (n := n) (d := d + 1) (p := k) (by omega) k (by omega)
    rw [show d + 1 + k = n by omega] at this
    exact this
  have e2 : pm_V w e c n (d + 1) k = pm_tr w e (c k) (pm_V w e c n d ((pm_S c n d).getD 0 0)) (pm_V w e c n d ((pm_S c n d).getD 1 0)) := if_pos (by omega)
  have st : ∀ p, p ∈ pm_S c n d → pm_V w e c n d p = pm_V w e c n n p := by
    intro p hp
    have hb := pm_S_mem (by omega) hp
    have := pm_V_st (w := w) (e := e) (c := c) (n := n) (d := d) (p := p) hb.1 (n - d) (by omega)
    rw [show d + (n - d) = n by omega] at this
    exact this.symm
  rw [e1, e2]
  exact pm_tr_congr (fun h1 => st _ (pm_mem0 (by omega))) (fun h2 => st _ (pm_mem1 (by omega)))
theorem pm_S_len {c : Nat → Nat} {n : Nat} : ∀ d : Nat, (pm_S c n d).length ≤ d
  | 0 => Nat.le_refl _
  | d + 1 => by
    have ih := pm_S_len (c := c) (n := n) d
    show ((n - 1 - d) :: (pm_S c n d).drop (pm_ar (c (n - 1 - d)))).length ≤ d + 1
    rw [List.length_cons, List.length_drop]
    omega
/-- the values of the places of a stack as the bits of a number -/
def pm_bl (V : Nat → Bool) : List Nat → Nat
  | [] => 0
  | p :: l => pm_b (V p) + 2 * pm_bl V l
theorem pm_bl_lt (V : Nat → Bool) : ∀ l : List Nat, pm_bl V l < 2 ^ l.length
  | [] => Nat.one_pos
  | p :: l => by
    have h1 := pm_bl_lt V l
    have h2 := pm_b_le (V p)
    show pm_b (V p) + 2 * pm_bl V l < 2 ^ (l.length + 1)
    rw [Nat.pow_succ]
    omega
theorem pm_bl_drop (V : Nat → Bool) : ∀ (a : Nat) (l : List Nat), pm_bl V l / 2 ^ a = pm_bl V (l.drop a)
  | 0, l => by
    rw [Nat.pow_zero, Nat.div_one]
    rfl
  | a + 1, [] => by
    show 0 / _ = 0
    exact Nat.zero_div _
  | a + 1, p :: l => by
    have h2 := pm_b_le (V p)
    show (pm_b (V p) + 2 * pm_bl V l) / 2 ^ (a + 1) = pm_bl V (l.drop a)
    rw [Nat.pow_succ', ← Nat.div_div_eq_div_mul, show (pm_b (V p) + 2 * pm_bl V l) / 2 = pm_bl V l by omega]
    exact pm_bl_drop V a l
theorem pm_bl_g (V : Nat → Bool) {l : List Nat} (h : 1 ≤ l.length) : pm_bl V l % 2 = pm_b (V (l.getD 0 0)) := by
  cases l with
  | nil => exact absurd h (by decide)
  | cons p l =>
    have h2 := pm_b_le (V p)
    show (pm_b (V p) + 2 * pm_bl V l) % 2 = pm_b (V p)
    omega
theorem pm_bl_h (V : Nat → Bool) {l : List Nat} (h : 2 ≤ l.length) : pm_bl V l / 2 % 2 = pm_b (V (l.getD 1 0)) := by
  cases l with
  | nil => exact absurd h (by decide)
  | cons p l =>
    have h2 := pm_b_le (V p)
    have e : pm_bl V (p :: l) / 2 = pm_bl V l := by
      show (pm_b (V p) + 2 * pm_bl V l) / 2 = pm_bl V l
      omega
    rw [e]
    exact pm_bl_g V (l := l) (by
      have h3 : 2 ≤ l.length + 1 := h
      omega)
/-- how many of the first d hold -/
def pm_cnt (B : Nat → Bool) : Nat → Nat
  | 0 => 0
  | d + 1 => pm_cnt B d + pm_b (B d)
/-- the length of the last row of truths among the first t -/
def pm_stk (B : Nat → Bool) : Nat → Nat
  | 0 => 0
  | t + 1 => cond (B t) (pm_stk B t + 1) 0
/-- the first failure from s on among d -/
def pm_vio (B : Nat → Bool) (s : Nat) : Nat → Int32
  | 0 => -1
  | d + 1 => cond (B s) (pm_vio B (s + 1) d) (nI s)
theorem pm_cnt_le (B : Nat → Bool) : ∀ d : Nat, pm_cnt B d ≤ d
  | 0 => Nat.le_refl _
  | d + 1 => by
    have h1 := pm_cnt_le B d
    have h2 := pm_b_le (B d)
    show pm_cnt B d + pm_b (B d) ≤ d + 1
    omega
theorem pm_stk_le (B : Nat → Bool) : ∀ d : Nat, pm_stk B d ≤ d
  | 0 => Nat.le_refl _
  | d + 1 => by
    have h1 := pm_stk_le B d
    show cond (B d) (pm_stk B d + 1) 0 ≤ d + 1
    cases B d
    · exact Nat.zero_le _
    · exact Nat.succ_le_succ h1
theorem pm_any_s (G : Nat → Bool) (t : Nat) : pm_any G 0 (t + 1) = (pm_any G 0 t || G t) := by
  show (pm_any G 0 t || G (0 + t)) = _
  rw [Nat.zero_add]
/-- tokens within, events within, no proper prefix whole -/
def pm_B (w n m : Nat) (c e : Nat → Nat) : Prop :=
  w ≤ 12 ∧ n ≤ 14 ∧ m ≤ 200 ∧ (∀ j, j < n → c j ≤ 12) ∧ (∀ j, j < m → e j < 16) ∧ (∀ k, k < n → 1 ≤ pm_N c k)
/-- a function with another value at one place -/
def pm_up (f : Nat → Nat) (k x : Nat) : Nat → Nat := fun j => if j = k then x else f j
theorem pm_up_s {f : Nat → Nat} {k x : Nat} : pm_up f k x k = x := if_pos rfl
theorem pm_up_n {f : Nat → Nat} {k x j : Nat} (h : j ≠ k) : pm_up f k x j = f j := if_neg h
theorem pm_B_feed {w n m x : Nat} {c e : Nat → Nat} (h : pm_B w n m c e) (hn : n < 14) (hx : x ≤ 12) (h0 : pm_N c n ≠ 0) : pm_B w (n + 1) m (pm_up c n x) e := by
  obtain ⟨h1, h2, h3, h4, h5, h6⟩ := h
  refine ⟨h1, by omega, h3, ?_, h5, ?_⟩
  · intro j hj
    by_cases hjn : j = n
    · rw [hjn, pm_up_s]
      exact hx
    · rw [pm_up_n hjn]
      exact h4 j (by omega)
  · intro k hk
    have e1 : pm_N (pm_up c n x) k = pm_N c k := pm_N_congr (fun j hj => pm_up_n (by omega))
    rw [e1]
    by_cases hkn : k = n
    · rw [hkn]
      omega
    · exact h6 k (by omega)
theorem pm_B_back {w n m : Nat} {c e : Nat → Nat} (h : pm_B w (n + 1) m c e) : pm_B w n m c e := by
  obtain ⟨h1, h2, h3, h4, h5, h6⟩ := h
  exact ⟨h1, by omega, h3, fun j hj => h4 j (by omega), h5, fun k hk => h6 k (by omega)⟩
theorem pm_B_event {w n m x : Nat} {c e : Nat → Nat} (h : pm_B w n m c e) (hm : m < 200) (hx : x < 16) : pm_B w n (m + 1) c (pm_up e m x) := by
  obtain ⟨h1, h2, h3, h4, h5, h6⟩ := h
  refine ⟨h1, h2, by omega, h4, ?_, h6⟩
  intro j hj
  by_cases hjm : j = m
  · rw [hjm, pm_up_s]
    exact hx
  · rw [pm_up_n hjm]
    exact h5 j (by omega)
theorem pm_B_less {w n m m' : Nat} {c e : Nat → Nat} (h : pm_B w n m c e) (hm : m' ≤ m) : pm_B w n m' c e := by
  obtain ⟨h1, h2, h3, h4, h5, h6⟩ := h
  exact ⟨h1, h2, by omega, h4, fun j hj => h5 j (by omega), h6⟩
theorem pm_n1 {c : Nat → Nat} {n : Nat} (h0 : pm_N c n = 0) : 1 ≤ n := by
  cases n with
  | zero => exact absurd h0 (show ¬ 1 = 0 by omega)
  | succ n => omega
end
section
theorem pm_nor (a b : Nat) : nI a ||| nI b = nI (a ||| b) := by
  apply Int32.toBitVec_inj.1
  show BitVec.ofNat 32 a ||| BitVec.ofNat 32 b = BitVec.ofNat 32 (a ||| b)
  apply BitVec.eq_of_getLsbD_eq
  intro i hi
  simp [hi]
theorem pm_ior (a b : Bool) : nI (pm_b a) ||| nI (pm_b b) = nI (pm_b (a || b)) := by cases a <;> cases b <;> decide +kernel
theorem pm_iand (a b : Bool) : nI (pm_b a) &&& nI (pm_b b) = nI (pm_b (a && b)) := by cases a <;> cases b <;> decide +kernel
theorem pm_inot (a : Bool) : 1 - nI (pm_b a) = nI (pm_b (!a)) := by cases a <;> decide +kernel
theorem pm_i0 (a : Bool) : nI (pm_b a) = 0 ↔ a = false := by cases a <;> decide +kernel
theorem pm_i1 (a : Bool) : nI (pm_b a) = 1 ↔ a = true := by cases a <;> decide +kernel
theorem pm_nar (a : Bool) : vp_nar .boolean (nI (pm_b a)) = nI (pm_b a) := by cases a <;> rfl
theorem pm_narrow (a : Bool) : narrow .boolean (.int (nI (pm_b a))) = .int (nI (pm_b a)) := by cases a <;> rfl
theorem pm_bs (a : Bool) : pm_b a < 2 ^ 31 := by cases a <;> decide
theorem pm_mask : ∀ w, w < 13 → (((2 : Int32) <<< (nI w &&& 31)) - 1).toBitVec.toNat = 2 ^ (w + 1) - 1 := by decide +kernel
theorem pm_fact : ∀ f, f < 16 → ∀ c, c < 4 → (nI f >>> (nI c &&& 31)) &&& 1 = nI (pm_b (decide (f / 2 ^ c % 2 = 1))) := by decide +kernel
theorem pm_sm : ∀ a, a < 3 → ((nI a &&& 31).toBitVec.smod 32).toNat = a := by decide +kernel
theorem pm_or1 (M : Nat) {b : Nat} (hb : b ≤ 1) : M * 2 ^ 1 ||| b = 2 * M + b := by
  have h := Nat.two_pow_add_eq_or_of_lt (i := 1) (b := b) (by omega) M
  rw [Nat.mul_comm M (2 ^ 1), ← h]
theorem pm_wstep {M w : Nat} (b : Bool) (hw : w ≤ 12) (h : M < 2 ^ (w + 1)) : ((nI M <<< ((1 : Int32) &&& 31)) ||| nI (pm_b b)) &&& (((2 : Int32) <<< (nI w &&& 31)) - 1) = nI ((2 * M + pm_b b) % 2 ^ (w + 1)) := by
  have h13 : 2 ^ (w + 1) ≤ 2 ^ 13 := Nat.pow_le_pow_right (by decide) (by omega)
  have hM : M < 8192 := Nat.lt_of_lt_of_le h h13
  have hb := pm_b_le b
  rw [pk_shlN _ 1 (by decide +kernel) (by omega), pm_nor, pm_or1 M hb, pk_andN (by omega) (w + 1) (pm_mask w (by omega))]
theorem pm_w1 {W : Nat} (h : W < 2 ^ 31) : nI W &&& 1 = nI (W % 2) := pk_andN (by omega) 1 (by decide +kernel)
theorem pm_w2 {W : Nat} (h : W < 2 ^ 31) : (nI W >>> ((1 : Int32) &&& 31)) &&& 1 = nI (W / 2 % 2) := by
  have h2 : W / 2 ≤ W := Nat.div_le_self _ _
  rw [pk_shrN h _ 1 (by decide +kernel), pm_w1 (by omega)]
theorem pm_w3 {W a : Nat} (h : W < 2 ^ 31) (ha : a ≤ 2) : nI W >>> (nI a &&& 31) = nI (W / 2 ^ a) := pk_shrN h _ a (pm_sm a (by omega))
theorem pm_w4 {O : Nat} (b : Bool) (h : O < 2 ^ 20) : (nI O <<< ((1 : Int32) &&& 31)) ||| nI (pm_b b) = nI (pm_b b + 2 * O) := by
  rw [pk_shlN _ 1 (by decide +kernel) (by omega), pm_nor, pm_or1 O (pm_b_le b), Nat.add_comm]
theorem pm_mis {N a : Nat} (h : 1 ≤ N) : nI N + (nI a - 1) = nI (N + a - 1) := by
  obtain ⟨M, rfl⟩ : ∃ M, N = M + 1 := ⟨N - 1, by omega⟩
  rw [show M + 1 + a - 1 = M + a by omega, ← nI_add M a, ← nI_1 M]
  generalize nI M = p
  generalize nI a = q
  clear h
  grind
theorem pm_bn {z : Nat} (h : z < 2) : z = pm_b (decide (z = 1)) := by
  have h2 : z = 0 ∨ z = 1 := by omega
  cases h2 with
  | inl h => rw [h]; rfl
  | inr h => rw [h]; rfl
end
section
theorem pm_t3 {w c t : Nat} {e : Nat → Nat} {G H : Nat → Bool} (h : c ≤ 3) : pm_tr w e c G H t = decide (e t / 2 ^ c % 2 = 1) := if_pos h
theorem pm_t4 {w t : Nat} {e : Nat → Nat} {G H : Nat → Bool} : pm_tr w e 4 G H t = !(G t) := rfl
theorem pm_t5 {w t : Nat} {e : Nat → Nat} {G H : Nat → Bool} : pm_tr w e 5 G H t = (G t && H t) := rfl
theorem pm_t6 {w t : Nat} {e : Nat → Nat} {G H : Nat → Bool} : pm_tr w e 6 G H t = (G t || H t) := rfl
theorem pm_t7 {w t : Nat} {e : Nat → Nat} {G H : Nat → Bool} : pm_tr w e 7 G H t = pm_pr G t := rfl
theorem pm_t8 {w t : Nat} {e : Nat → Nat} {G H : Nat → Bool} : pm_tr w e 8 G H t = pm_any G 0 (t + 1) := rfl
theorem pm_t9 {w t : Nat} {e : Nat → Nat} {G H : Nat → Bool} : pm_tr w e 9 G H t = pm_all G 0 (t + 1) := rfl
theorem pm_t10 {w t : Nat} {e : Nat → Nat} {G H : Nat → Bool} : pm_tr w e 10 G H t = pm_sin G H t (t + 1) := rfl
theorem pm_t11 {w t : Nat} {e : Nat → Nat} {G H : Nat → Bool} : pm_tr w e 11 G H t = pm_any G (t - w) (t + 1 - (t - w)) := rfl
theorem pm_t12 {w t : Nat} {e : Nat → Nat} {G H : Nat → Bool} : pm_tr w e 12 G H t = pm_all G (t - w) (t + 1 - (t - w)) := rfl
theorem pm_m7 {w t : Nat} {G H : Nat → Bool} : pm_mm w 7 G H t = pm_b (pm_pr G t) := rfl
theorem pm_m8 {w t : Nat} {G H : Nat → Bool} : pm_mm w 8 G H t = pm_b (pm_any G 0 t) := rfl
theorem pm_m9 {w t : Nat} {G H : Nat → Bool} : pm_mm w 9 G H t = pm_b (pm_any (fun u => !(G u)) 0 t) := rfl
theorem pm_m10 {w t : Nat} {G H : Nat → Bool} : pm_mm w 10 G H t = pm_b (pm_sp G H t) := rfl
theorem pm_m11 {w t : Nat} {G H : Nat → Bool} : pm_mm w 11 G H t = pm_wm G w t := rfl
theorem pm_m12 {w t : Nat} {G H : Nat → Bool} : pm_mm w 12 G H t = pm_wm (fun u => !(G u)) w t := rfl
theorem pm_m6 {w c t : Nat} {G H : Nat → Bool} (h : c ≤ 6) : pm_mm w c G H t = 0 := by
  unfold pm_mm
  rw [if_neg (by omega), if_neg (by omega), if_neg (by omega), if_neg (by omega), if_neg (by omega), if_neg (by omega)]
/-- the new memory of ONCE, and its answer -/
theorem pm_s8 (G : Nat → Bool) (t : Nat) : nI (pm_b (pm_any G 0 t)) ||| nI (pm_b (G t)) = nI (pm_b (pm_any G 0 (t + 1))) := by
  rw [pm_ior, pm_any_s]
theorem pm_s9 (G : Nat → Bool) (t : Nat) : nI (pm_b (pm_any (fun u => !(G u)) 0 t)) ||| (1 - nI (pm_b (G t))) = nI (pm_b (pm_any (fun u => !(G u)) 0 (t + 1))) := by
  rw [pm_inot, pm_ior, pm_any_s]
theorem pm_s9v (G : Nat → Bool) (t : Nat) : 1 - nI (pm_b (pm_any (fun u => !(G u)) 0 (t + 1))) = nI (pm_b (pm_all G 0 (t + 1))) := by
  rw [pm_inot, ← pm_all_not]
theorem pm_s10 (G H : Nat → Bool) (t : Nat) : nI (pm_b (H t)) ||| (nI (pm_b (G t)) &&& nI (pm_b (pm_sp G H t))) = nI (pm_b (pm_sin G H t (t + 1))) := by
  rw [pm_iand, pm_ior, pm_sin_rec]
theorem pm_s12v (G : Nat → Bool) (w t : Nat) : 1 - nI (pm_b (pm_any (fun u => !(G u)) (t - w) (t + 1 - (t - w)))) = nI (pm_b (pm_all G (t - w) (t + 1 - (t - w)))) := by
  rw [pm_inot, ← pm_all_not]
theorem pm_s11 (G : Nat → Bool) {w : Nat} (t : Nat) (hw : w ≤ 12) : ((nI (pm_wm G w t) <<< ((1 : Int32) &&& 31)) ||| nI (pm_b (G t))) &&& (((2 : Int32) <<< (nI w &&& 31)) - 1) = nI (pm_wm G w (t + 1)) :=
  pm_wstep (G t) hw (pm_wm_lt G w t)
theorem pm_wm_small (G : Nat → Bool) {w : Nat} (t : Nat) (hw : w ≤ 12) : pm_wm G w t < 8192 :=
  Nat.lt_of_lt_of_le (pm_wm_lt G w t) (Nat.pow_le_pow_right (show 0 < 2 by decide) (show w + 1 ≤ 13 by omega))
theorem pm_s11v (G : Nat → Bool) {w : Nat} (t : Nat) (hw : w ≤ 12) : nI (pm_wm G w (t + 1)) = 0 ↔ pm_any G (t - w) (t + 1 - (t - w)) = false := by
  have h := pm_wm_small G (t + 1) hw
  rw [← nI_0, nI_eq (by omega) (by omega)]
  exact pm_wm_val G w t
theorem pm_12 {P : Nat → Prop} (h0 : P 0) (h1 : P 1) (h2 : P 2) (h3 : P 3) (h4 : P 4) (h5 : P 5) (h6 : P 6) (h7 : P 7) (h8 : P 8) (h9 : P 9) (h10 : P 10) (h11 : P 11) (h12 : P 12) {c : Nat} (h : c ≤ 12) : P c :=
  match c, h with
  | 0, _ => h0
  | 1, _ => h1
  | 2, _ => h2
  | 3, _ => h3
  | 4, _ => h4
  | 5, _ => h5
  | 6, _ => h6
  | 7, _ => h7
  | 8, _ => h8
  | 9, _ => h9
  | 10, _ => h10
  | 11, _ => h11
  | 12, _ => h12
  | _ + 13, h => absurd h (by omega)
/-- a counter that runs down to -1 -/
def pm_k : Nat → Int32
  | 0 => -1
  | r + 1 => nI r
theorem pm_k_dec (r : Nat) : nI r + (-1) = pm_k r := by
  cases r with
  | zero => decide +kernel
  | succ r => exact pk_m1 r
theorem pm_k_sub (r : Nat) : nI r - 1 = pm_k r := by
  cases r with
  | zero => decide +kernel
  | succ r => exact nI_pred r
theorem pm_k_neg : pm_k 0 < 0 := by decide +kernel
/-- the array st holds the list l, its head on top -/
def pm_St (st : Nat → Int32) (l : List Nat) : Prop := ∀ i, i < l.length → st (l.length - 1 - i) = nI (l.getD i 0)
theorem pm_getD_drop (l : List Nat) (a i : Nat) : (l.drop a).getD i 0 = l.getD (a + i) 0 := by
  rw [List.getD_eq_getElem?_getD, List.getD_eq_getElem?_getD, List.getElem?_drop]
theorem pm_St_push {st : Nat → Int32} {l : List Nat} {a k : Nat} (h : pm_St st l) (ha : a ≤ l.length) : pm_St (upd st (l.length - a) (nI k)) (k :: l.drop a) := by
  intro i hi
  have hi' : i < l.length - a + 1 := by
    have := hi
    rw [List.length_cons, List.length_drop] at this
    exact this
  cases i with
  | zero =>
    show upd st (l.length - a) (nI k) ((k :: l.drop a).length - 1 - 0) = nI k
    rw [List.length_cons, List.length_drop, show l.length - a + 1 - 1 - 0 = l.length - a by omega]
    exact pk_us
  | succ i =>
    show upd st (l.length - a) (nI k) ((k :: l.drop a).length - 1 - (i + 1)) = nI ((l.drop a).getD i 0)
    rw [List.length_cons, List.length_drop, pk_un (by omega), pm_getD_drop, ← h (a + i) (by omega)]
    congr 1
    omega
theorem pm_St_0 {st : Nat → Int32} : pm_St st [] := fun i hi => absurd hi (by
  show ¬ i < 0
  omega)
theorem pm_gD {l : List Nat} {n : Nat} (hl : ∀ p, p ∈ l → p < n) (hn : 1 ≤ n) (i : Nat) : l.getD i 0 < n := by
  rw [List.getD_eq_getElem?_getD]
  cases h : l[i]? with
  | none => exact hn
  | some p => exact hl p (List.mem_of_getElem? h)
end
section
/-- the class's state: window w, n tokens c, m events e -/
def pm_X (w n m : Nat) (c e : Nat → Nat) (u : SX) : Prop := ∃ tok tk hd mem : Nat → Int32, u = (nI w, nI n, nI m, tok, tk, hd, mem) ∧ (∀ j, j < n → tok j = nI (c j)) ∧ (∀ j, j < m → tk j = nI (e j))
theorem pm_t0 : nI (pm_b false) = 0 := by decide +kernel
theorem pm_f1 : ¬ nI (pm_b true) = 0 := by decide +kernel
theorem pm_tokup {a : Nat → Int32} {c : Nat → Nat} {n x : Nat} (h : ∀ j, j < n → a j = nI (c j)) : ∀ j, j < n + 1 → upd a n (nI x) j = nI (pm_up c n x j) := by
  intro j hj
  by_cases hjn : j = n
  · rw [hjn, pk_us, pm_up_s]
  · rw [pk_un hjn, pm_up_n hjn]
    exact h j (by omega)
theorem px_op {post : Int32 → Prop} {c : Nat} (hc : c ≤ 12) (h : post (nI (pm_ar c))) : wpX_operands post (nI c) := by
  refine pk_le 4 c (fun h4 => ?_) (fun h4 => ?_)
  · refine pk_eq c 5 (fun h5 => ?_) (fun h5 => pk_eq c 6 (fun h6 => ?_) (fun h6 => pk_eq c 10 (fun h10 => ?_) (fun h10 => ?_)))
    · rw [show pm_ar c = 2 from by rw [h5]; rfl] at h
      exact h
    · rw [show pm_ar c = 2 from by rw [h6]; rfl] at h
      exact h
    · rw [show pm_ar c = 2 from by rw [h10]; rfl] at h
      exact h
    · rw [show pm_ar c = 1 from by unfold pm_ar; rw [if_neg (by omega), if_neg (by omega)]] at h
      exact h
  · rw [show pm_ar c = 0 from by unfold pm_ar; rw [if_pos (by omega)]] at h
    exact h
theorem px_comp {post : Int32 → Prop} {w ec : Int32} {tok tk hd mem : Nat → Int32} {n : Nat} {c : Nat → Nat} (hn : n ≤ 14) (hc : ∀ j, j < n → c j ≤ 12) (ht : ∀ j, j < n → tok j = nI (c j)) (hN : ∀ k, k < n → 1 ≤ pm_N c k) (hp : post (nI (pm_b (decide (pm_N c n = 0))))) : ∀ r i : Nat, i + r = n → wX_complete_4 post w (nI n) ec tok tk hd mem (r + 1) (nI (pm_N c i)) (nI i) := by
  intro r
  induction r with
  | zero =>
    intro i hi
    have hi' : i = n := hi
    have hb := pm_N_le c n
    rw [hi']
    refine pk_le n n (fun _ => ?_) (fun h => absurd h (by omega))
    refine pk_eq (pm_N c n) 0 (fun h0 => ?_) (fun h0 => ?_)
    · rw [decide_eq_true h0] at hp
      exact hp
    · rw [decide_eq_false h0] at hp
      exact hp
  | succ r ih =>
    intro i hi
    have hin : i < n := by omega
    refine pk_le n i (fun h => absurd h (by omega)) (fun _ => And.intro (pk_in i 14 (by omega)) ?_)
    rw [nI_clamp (show i < 2 ^ 31 by omega), ht i hin]
    refine px_op (hc i hin) ?_
    refine nm_r (pm_mis (hN i hin)) (nm_r (nI_1 i) ?_)
    exact ih (i + 1) (by omega)
theorem px_complete {post : Int32 → Prop} {w n m : Nat} {c e : Nat → Nat} {u : SX} (B : pm_B w n m c e) (X : pm_X w n m c e u) (hp : post (nI (pm_b (decide (pm_N c n = 0))))) : wpX_complete post u := by
  obtain ⟨b1, b2, b3, b4, b5, b6⟩ := B
  obtain ⟨tok, tk, hd, mem, rfl, h1, h2⟩ := X
  exact Exists.intro (n + 1) (px_comp b2 b4 h1 b6 hp n 0 (by omega))
theorem px_complete_t {post : Int32 → Prop} {w n m : Nat} {c e : Nat → Nat} {u : SX} (B : pm_B w n m c e) (X : pm_X w n m c e u) (h0 : pm_N c n = 0) (hp : post (nI (pm_b true))) : wpX_complete post u :=
  px_complete B X (by rw [decide_eq_true h0]; exact hp)
theorem px_complete_f {post : Int32 → Prop} {w n m : Nat} {c e : Nat → Nat} {u : SX} (B : pm_B w n m c e) (X : pm_X w n m c e u) (h0 : ¬ pm_N c n = 0) (hp : post (nI (pm_b false))) : wpX_complete post u :=
  px_complete B X (by rw [decide_eq_false h0]; exact hp)
theorem px_feed_neg {post : Int32 → SX → Prop} {w n m : Nat} {c e : Nat → Nat} {u : SX} {v1 : Int32} (X : pm_X w n m c e u) (hv : v1 < 0) (hp : post (-1) u) : wpX_feed post u v1 := by
  obtain ⟨tok, tk, hd, mem, rfl, h1, h2⟩ := X
  exact br_t hv hp
theorem px_feed_no {post : Int32 → SX → Prop} {w n m j : Nat} {c e : Nat → Nat} {u : SX} (B : pm_B w n m c e) (X : pm_X w n m c e u) (hj : j < 2 ^ 31) (h : 12 < j ∨ 14 ≤ n ∨ pm_N c n = 0) (hp : post (-1) u) : wpX_feed post u (nI j) := by
  have X0 := X
  have hn : n ≤ 14 := B.2.1
  obtain ⟨tok, tk, hd, mem, rfl, h1, h2⟩ := X
  refine br_f (nI_pos hj) (pk_lt 12 j (fun _ => hp) (fun h3 => pk_le 14 n (fun _ => hp) (fun h4 => ?_)))
  refine px_complete_t B X0 (by omega) ?_
  exact br_f pm_f1 hp
theorem px_feed_ok {post : Int32 → SX → Prop} {w n m x : Nat} {c e : Nat → Nat} {u : SX} (B : pm_B w n m c e) (X : pm_X w n m c e u) (hx : x ≤ 12) (hn : n < 14) (h0 : ¬ pm_N c n = 0) (hp : ∀ u', pm_X w (n + 1) m (pm_up c n x) e u' → post (nI (n + 1)) u') : wpX_feed post u (nI x) := by
  have X0 := X
  obtain ⟨tok, tk, hd, mem, rfl, h1, h2⟩ := X
  refine br_f (nI_pos (by omega)) (pk_lt 12 x (fun h => absurd h (by omega)) (fun _ => pk_le 14 n (fun h => absurd h (by omega)) (fun _ => ?_)))
  refine px_complete_f B X0 h0 ?_
  refine br_t pm_t0 (And.intro (pk_in n 14 hn) ?_)
  refine nm_r (e' := upd tok n (nI x)) (by rw [nI_clamp (show n < 2 ^ 31 by omega)]) (nm_r (nI_1 n) ?_)
  exact hp _ ⟨_, _, _, _, rfl, pm_tokup h1, h2⟩
theorem px_back0 {post : Int32 → SX → Prop} {w m : Nat} {c e : Nat → Nat} {u : SX} (X : pm_X w 0 m c e u) (hp : post (-1) u) : wpX_back post u := by
  obtain ⟨tok, tk, hd, mem, rfl, h1, h2⟩ := X
  exact br_t nI_0 hp
theorem px_back1 {post : Int32 → SX → Prop} {w n m : Nat} {c e : Nat → Nat} {u : SX} (hn : n < 14) (X : pm_X w (n + 1) m c e u) (hp : ∀ u', pm_X w n m c e u' → post (nI (c n)) u') : wpX_back post u := by
  obtain ⟨tok, tk, hd, mem, rfl, h1, h2⟩ := X
  refine br_f (nI_ne0 (by omega) (by omega)) (nm_r (nI_pred n) (And.intro (pk_in n 14 hn) ?_))
  rw [nI_clamp (show n < 2 ^ 31 by omega), h1 n (by omega)]
  exact hp _ ⟨_, _, _, _, rfl, fun j hj => h1 j (by omega), h2⟩
theorem px_fs_neg {post : Int32 → Prop} {v1 : Int32} (hv : v1 < 0) (hp : post 0) : wpX_isFactSet post v1 := br_t hv hp
theorem px_fs_no {post : Int32 → Prop} {j : Nat} (hj : j < 2 ^ 31) (h : 16 ≤ j) (hp : post 0) : wpX_isFactSet post (nI j) :=
  br_f (nI_pos hj) (pk_le 16 j (fun _ => hp) (fun h2 => absurd h2 (by omega)))
theorem px_fs_ok {post : Int32 → Prop} {j : Nat} (h : j < 16) (hp : post 1) : wpX_isFactSet post (nI j) :=
  br_f (nI_pos (by omega)) (pk_le 16 j (fun h2 => absurd h2 (by omega)) (fun _ => hp))
theorem px_event_neg {post : Int32 → SX → Prop} {w n m : Nat} {c e : Nat → Nat} {u : SX} {v1 : Int32} (X : pm_X w n m c e u) (hv : v1 < 0) (hp : post (-1) u) : wpX_event post u v1 := by
  obtain ⟨tok, tk, hd, mem, rfl, h1, h2⟩ := X
  unfold wpX_event
  dsimp only
  refine px_fs_neg hv ?_
  exact br_t rfl hp
theorem px_event_no {post : Int32 → SX → Prop} {w n m j : Nat} {c e : Nat → Nat} {u : SX} (X : pm_X w n m c e u) (hj : j < 2 ^ 31) (h : 16 ≤ j) (hp : post (-1) u) : wpX_event post u (nI j) := by
  obtain ⟨tok, tk, hd, mem, rfl, h1, h2⟩ := X
  unfold wpX_event
  dsimp only
  refine px_fs_no hj h ?_
  exact br_t rfl hp
theorem px_event_full {post : Int32 → SX → Prop} {w n j : Nat} {c e : Nat → Nat} {u : SX} (X : pm_X w n 200 c e u) (h : j < 16) (hp : post (-2) u) : wpX_event post u (nI j) := by
  obtain ⟨tok, tk, hd, mem, rfl, h1, h2⟩ := X
  unfold wpX_event
  dsimp only
  refine px_fs_ok h ?_
  exact br_f (by decide) (pk_lt 200 200 (fun h => absurd h (by omega)) (fun _ => hp))
theorem px_event_ok {post : Int32 → SX → Prop} {w n m j : Nat} {c e : Nat → Nat} {u : SX} (X : pm_X w n m c e u) (hm : m < 200) (h : j < 16) (hp : ∀ u', pm_X w n (m + 1) c (pm_up e m j) u' → post (nI m) u') : wpX_event post u (nI j) := by
  obtain ⟨tok, tk, hd, mem, rfl, h1, h2⟩ := X
  unfold wpX_event
  dsimp only
  refine px_fs_ok h ?_
  refine br_f (by decide) (pk_lt m 200 (fun _ => And.intro (pk_in m 200 hm) ?_) (fun h => absurd h (by omega)))
  refine nm_r (e' := upd tk m (nI j)) (by rw [nI_clamp (show m < 2 ^ 31 by omega)]) (nm_r (nI_1 m) ?_)
  rw [nI_pred]
  exact hp _ ⟨_, _, _, _, rfl, h1, pm_tokup h2⟩
theorem px_undo0 {post : Int32 → SX → Prop} {w n : Nat} {c e : Nat → Nat} {u : SX} (X : pm_X w n 0 c e u) (hp : post (-1) u) : wpX_undo post u := by
  obtain ⟨tok, tk, hd, mem, rfl, h1, h2⟩ := X
  exact br_t nI_0 hp
theorem px_undo1 {post : Int32 → SX → Prop} {w n m : Nat} {c e : Nat → Nat} {u : SX} (hm : m < 200) (X : pm_X w n (m + 1) c e u) (hp : ∀ u', pm_X w n m c e u' → post (nI m) u') : wpX_undo post u := by
  obtain ⟨tok, tk, hd, mem, rfl, h1, h2⟩ := X
  refine br_f (nI_ne0 (by omega) (by omega)) (nm_r (nI_pred m) ?_)
  exact hp _ ⟨_, _, _, _, rfl, h1, fun j hj => h2 j (by omega)⟩
end
section
theorem px_seen {post : Int32 → SX → Prop} {tc ec : Int32} {tok tk hd mem : Nat → Int32} {w k t : Nat} (B : Nat → Bool) (hw : w ≤ 12) (hk : k < 14) (hm : mem k = nI (pm_wm B w t)) (K : post (nI (pm_b (pm_any B (t - w) (t + 1 - (t - w))))) (nI w, tc, ec, tok, tk, hd, upd mem k (nI (pm_wm B w (t + 1))))) : wpX_seenInWindow post (nI w, tc, ec, tok, tk, hd, mem) (nI k) (nI (pm_b (B t))) := by
  have kc : (nI k).toNatClampNeg = k := nI_clamp (by omega)
  refine nm_e (And.intro (pk_in k 14 hk) (And.intro (pk_in k 14 hk) (nm_r (e' := upd mem k (nI (pm_wm B w (t + 1)))) ?_ (And.intro (pk_in k 14 hk) ?_))))
  · rw [kc, hm, pm_s11 B t hw]
  · rw [kc, pk_us]
    cases hv : pm_any B (t - w) (t + 1 - (t - w)) with
    | false =>
      rw [hv] at K
      exact br_t ((pm_s11v B t hw).mpr hv) K
    | true =>
      rw [hv] at K
      refine br_f (fun z => ?_) K
      rw [(pm_s11v B t hw).mp z] at hv
      cases hv
theorem px_value {post : Int32 → SX → Prop} {tc ec : Int32} {w k x f t gg hh : Nat} {e : Nat → Nat} {G H : Nat → Bool} {tok tk hd mem : Nat → Int32} (hw : w ≤ 12) (hk : k < 14) (hx : x ≤ 12) (hf : f < 16) (he : e t = f) (ht : tok k = nI x) (hg : 1 ≤ pm_ar x → gg = pm_b (G t)) (hh' : 2 ≤ pm_ar x → hh = pm_b (H t)) (hm : mem k = nI (pm_mm w x G H t)) (K : ∀ mem', mem' k = nI (pm_mm w x G H (t + 1)) → (∀ j, j ≠ k → mem' j = mem j) → post (nI (pm_b (pm_tr w e x G H t))) (nI w, tc, ec, tok, tk, hd, mem')) : wpX_valueAt post (nI w, tc, ec, tok, tk, hd, mem) (nI k) (nI f) (nI gg) (nI hh) := by
  have kc : (nI k).toNatClampNeg = k := nI_clamp (by omega)
  refine And.intro (pk_in k 14 hk) (nm_r (e' := nI x) (by rw [kc, ht]) ?_)
  by_cases h3 : x ≤ 3
  · refine pk_lt x 4 (fun _ => And.intro (pk_in k 14 hk) ?_) (fun h => absurd h (by omega))
    rw [kc, ht, pm_fact f hf x (by omega)]
    have K' := K mem (by rw [hm, pm_m6 (by omega), pm_m6 (by omega)]) (fun _ _ => rfl)
    rw [pm_t3 h3, he] at K'
    exact K'
  · refine pk_lt x 4 (fun h => absurd h (by omega)) (fun _ => pk_lt 12 x (fun h => absurd h (by omega)) (fun _ => ?_))
    refine pk_eq x 4 (fun h4 => ?_) (fun h4 => pk_eq x 5 (fun h5 => ?_) (fun h5 => pk_eq x 6 (fun h6 => ?_) (fun h6 => pk_eq x 7 (fun h7 => ?_) (fun h7 => pk_eq x 8 (fun h8 => ?_) (fun h8 => pk_eq x 9 (fun h9 => ?_) (fun h9 => pk_eq x 10 (fun h10 => ?_) (fun h10 => pk_eq x 11 (fun h11 => ?_) (fun h11 => pk_eq x 12 (fun h12 => ?_) (fun h12 => trivial)))))))))
    · subst h4
      have eg := hg (by decide)
      subst eg
      have K' := K mem (by rw [hm, pm_m6 (by omega), pm_m6 (by omega)]) (fun _ _ => rfl)
      rw [pm_inot]
      exact K'
    · subst h5
      have eg := hg (by decide)
      have eh := hh' (by decide)
      subst eg eh
      have K' := K mem (by rw [hm, pm_m6 (by omega), pm_m6 (by omega)]) (fun _ _ => rfl)
      rw [pm_iand]
      exact K'
    · subst h6
      have eg := hg (by decide)
      have eh := hh' (by decide)
      subst eg eh
      have K' := K mem (by rw [hm, pm_m6 (by omega), pm_m6 (by omega)]) (fun _ _ => rfl)
      rw [pm_ior]
      exact K'
    · subst h7
      have eg := hg (by decide)
      subst eg
      refine And.intro (pk_in k 14 hk) (nm_e (And.intro (pk_in k 14 hk) (nm_e ?_)))
      show post (mem (nI k).toNatClampNeg) (nI w, tc, ec, tok, tk, hd, upd mem (nI k).toNatClampNeg (nI (pm_b (G t))))
      rw [kc, hm]
      exact K _ pk_us (fun j hj => pk_un hj)
    · subst h8
      have eg := hg (by decide)
      subst eg
      refine And.intro (pk_in k 14 hk) (And.intro (pk_in k 14 hk) (nm_e ?_))
      show post (mem (nI k).toNatClampNeg ||| nI (pm_b (G t))) (nI w, tc, ec, tok, tk, hd, upd mem (nI k).toNatClampNeg (mem (nI k).toNatClampNeg ||| nI (pm_b (G t))))
      rw [kc, hm, pm_m8, pm_s8]
      exact K _ pk_us (fun j hj => pk_un hj)
    · subst h9
      have eg := hg (by decide)
      subst eg
      refine And.intro (pk_in k 14 hk) (And.intro (pk_in k 14 hk) (nm_e ?_))
      show post (1 - (mem (nI k).toNatClampNeg ||| (1 - nI (pm_b (G t))))) (nI w, tc, ec, tok, tk, hd, upd mem (nI k).toNatClampNeg (mem (nI k).toNatClampNeg ||| (1 - nI (pm_b (G t)))))
      rw [kc, hm, pm_m9, pm_s9, pm_s9v]
      exact K _ pk_us (fun j hj => pk_un hj)
    · subst h10
      have eg := hg (by decide)
      have eh := hh' (by decide)
      subst eg eh
      refine And.intro (pk_in k 14 hk) (And.intro (pk_in k 14 hk) (nm_e ?_))
      show post (nI (pm_b (H t)) ||| (nI (pm_b (G t)) &&& mem (nI k).toNatClampNeg)) (nI w, tc, ec, tok, tk, hd, upd mem (nI k).toNatClampNeg (nI (pm_b (H t)) ||| (nI (pm_b (G t)) &&& mem (nI k).toNatClampNeg)))
      rw [kc, hm, pm_m10, pm_s10]
      exact K _ pk_us (fun j hj => pk_un hj)
    · subst h11
      have eg := hg (by decide)
      subst eg
      refine px_seen G hw hk hm ?_
      exact K _ pk_us (fun j hj => pk_un hj)
    · subst h12
      have eg := hg (by decide)
      subst eg
      rw [pm_inot]
      refine px_seen (fun u => !(G u)) hw hk hm ?_
      show post (1 - nI (pm_b (pm_any (fun u => !(G u)) (t - w) (t + 1 - (t - w))))) (nI w, tc, ec, tok, tk, hd, upd mem k (nI (pm_wm (fun u => !(G u)) w (t + 1))))
      rw [pm_s12v]
      exact K _ pk_us (fun j hj => pk_un hj)
/-- what the class remembers at place j ahead of event t -/
def pm_MJ (w : Nat) (c : Nat → Nat) (n : Nat) (V : Nat → Nat → Bool) (j t : Nat) : Nat := pm_mm w (c j) (V ((pm_S c n (n - 1 - j)).getD 0 0)) (V ((pm_S c n (n - 1 - j)).getD 1 0)) t
theorem pm_bl14 {V : Nat → Bool} {c : Nat → Nat} {n d : Nat} (h : d ≤ 14) : pm_bl V (pm_S c n d) < 16384 :=
  Nat.lt_of_lt_of_le (pm_bl_lt V _) (Nat.pow_le_pow_right (show 0 < 2 by decide) (show (pm_S c n d).length ≤ 14 from Nat.le_trans (pm_S_len d) h))
theorem px_loop {post : Int32 → SX → Prop} {w n f t : Nat} {c e : Nat → Nat} {V : Nat → Nat → Bool} {ec : Int32} {tok tk hd : Nat → Int32} (hw : w ≤ 12) (hn : n ≤ 14) (hc : ∀ j, j < n → c j ≤ 12) (HV : pm_HV w e c n V) (ht : ∀ j, j < n → tok j = nI (c j)) (hf : f < 16) (he : e t = f) (K : ∀ mem', (∀ j, j < n → mem' j = nI (pm_MJ w c n V j (t + 1))) → post (nI (pm_b (decide (pm_bl (fun p => V p t) (pm_S c n n) % 2 = 1)))) (nI w, nI n, ec, tok, tk, hd, mem')) : ∀ r d : Nat, d + r = n → ∀ mem : Nat → Int32, (∀ j, j < r → mem j = nI (pm_MJ w c n V j t)) → (∀ j, r ≤ j → j < n → mem j = nI (pm_MJ w c n V j (t + 1))) → wX_judgeNext_9 post (nI f) (r + 1) (nI (pm_bl (fun p => V p t) (pm_S c n d))) (pm_k r) (nI w) (nI n) ec tok tk hd mem := by
  intro r
  induction r with
  | zero =>
    intro d hd' mem h1 h2
    have hdn : d = n := hd'
    subst hdn
    have K' := K mem (fun j hj => h2 j (Nat.zero_le _) hj)
    have hb := pm_bl14 (V := fun p => V p t) (c := c) (n := d) hn
    refine br_t pm_k_neg ?_
    rw [pm_w1 (by omega)]
    refine pk_eq (pm_bl (fun p => V p t) (pm_S c d d) % 2) 1 (fun h => ?_) (fun h => ?_)
    · rw [decide_eq_true h] at K'
      exact K'
    · rw [decide_eq_false h] at K'
      exact K'
  | succ r ih =>
    intro d hd' mem h1 h2
    have hb := pm_bl14 (V := fun p => V p t) (c := c) (n := n) (d := d) (by omega)
    obtain ⟨ho, hv⟩ := HV d r (by omega)
    have hr : r < n := by omega
    have hrc : (nI r).toNatClampNeg = r := nI_clamp (by omega)
    have eMJ : ∀ s, pm_MJ w c n V r s = pm_mm w (c r) (V ((pm_S c n d).getD 0 0)) (V ((pm_S c n d).getD 1 0)) s := by
      intro s
      unfold pm_MJ
      rw [show n - 1 - r = d by omega]
    rw [show pm_k (r + 1) = nI r from rfl]
    refine br_f (nI_pos (n := r) (by omega)) ?_
    refine nm_r (pm_w1 (by omega)) (nm_r (pm_w2 (by omega)) ?_)
    refine px_value (x := c r) (e := e) (t := t) (G := V ((pm_S c n d).getD 0 0)) (H := V ((pm_S c n d).getD 1 0)) hw (by omega) (hc r hr) hf he (ht r hr) (fun z => pm_bl_g _ (by omega)) (fun z => pm_bl_h _ (by omega)) ?_ (fun mem' hm1 hm2 => ?_)
    · rw [h1 r (by omega), eMJ]
    · refine And.intro (pk_in r 14 (by omega)) ?_
      rw [hrc, ht r hr]
      refine px_op (hc r hr) ?_
      have hdv : pm_bl (fun p => V p t) (pm_S c n d) / 2 ^ pm_ar (c r) ≤ pm_bl (fun p => V p t) (pm_S c n d) := Nat.div_le_self _ _
      refine nm_r (pm_w3 (by omega) (pm_ar_le _)) (nm_r (pm_w4 _ (by omega)) (nm_r (pm_k_dec r) ?_))
      have eq : pm_b (pm_tr w e (c r) (V ((pm_S c n d).getD 0 0)) (V ((pm_S c n d).getD 1 0)) t) + 2 * (pm_bl (fun p => V p t) (pm_S c n d) / 2 ^ pm_ar (c r)) = pm_bl (fun p => V p t) (pm_S c n (d + 1)) := by
        rw [pm_bl_drop, ← hv]
        show _ = pm_b (V (n - 1 - d) t) + 2 * pm_bl (fun p => V p t) ((pm_S c n d).drop (pm_ar (c (n - 1 - d))))
        rw [show n - 1 - d = r by omega]
      rw [eq]
      refine ih (d + 1) (by omega) mem' ?_ ?_
      · intro j hj
        rw [hm2 j (by omega)]
        exact h1 j (by omega)
      · intro j hj1 hj2
        by_cases hjr : j = r
        · rw [hjr, hm1, eMJ]
        · rw [hm2 j hjr]
          exact h2 j (by omega) hj2
theorem px_judgeNext {post : Int32 → SX → Prop} {w n f t : Nat} {c e : Nat → Nat} {V : Nat → Nat → Bool} {ec : Int32} {tok tk hd mem : Nat → Int32} (hw : w ≤ 12) (hn : n ≤ 14) (h1n : 1 ≤ n) (hc : ∀ j, j < n → c j ≤ 12) (HV : pm_HV w e c n V) (ht : ∀ j, j < n → tok j = nI (c j)) (hf : f < 16) (he : e t = f) (hm : ∀ j, j < n → mem j = nI (pm_MJ w c n V j t)) (K : ∀ mem', (∀ j, j < n → mem' j = nI (pm_MJ w c n V j (t + 1))) → post (nI (pm_b (V 0 t))) (nI w, nI n, ec, tok, tk, hd, mem')) : wpX_judgeNext post (nI w, nI n, ec, tok, tk, hd, mem) (nI f) := by
  refine nm_r (pm_k_sub n) (Exists.intro (n + 1) ?_)
  refine px_loop hw hn hc HV ht hf he (fun mem' h => ?_) n 0 (by omega) mem hm (fun j h1 h2 => absurd h2 (by omega))
  have e0 : decide (pm_bl (fun p => V p t) (pm_S c n n) % 2 = 1) = V 0 t := by
    obtain ⟨n', rfl⟩ : ∃ n', n = n' + 1 := ⟨n - 1, by omega⟩
    have hl : 1 ≤ (pm_S c (n' + 1) (n' + 1)).length := Nat.succ_le_succ (Nat.zero_le _)
    rw [pm_bl_g _ hl]
    show decide (pm_b (V (n' + 1 - 1 - n') t) = 1) = V 0 t
    rw [show n' + 1 - 1 - n' = 0 by omega]
    cases V 0 t <;> rfl
  rw [e0]
  exact K mem' h
theorem px_ja23 {post : SX → Prop} {w n m : Nat} {c e : Nat → Nat} {V : Nat → Nat → Bool} {tok tk : Nat → Int32} (hw : w ≤ 12) (hn : n ≤ 14) (h1n : 1 ≤ n) (hm : m ≤ 200) (hc : ∀ j, j < n → c j ≤ 12) (hE : ∀ j, j < m → e j < 16) (HV : pm_HV w e c n V) (ht : ∀ j, j < n → tok j = nI (c j)) (hk : ∀ j, j < m → tk j = nI (e j)) (K : ∀ hd' mem', (∀ s, s < m → hd' s = nI (pm_b (V 0 s))) → (∀ j, j < n → mem' j = nI (pm_MJ w c n V j m)) → post (nI w, nI n, nI m, tok, tk, hd', mem')) : ∀ r t : Nat, t + r = m → ∀ hd mem : Nat → Int32, (∀ s, s < t → hd s = nI (pm_b (V 0 s))) → (∀ j, j < n → mem j = nI (pm_MJ w c n V j t)) → wX_judgeAll_23 post (r + 1) (nI t) (nI w) (nI n) (nI m) tok tk hd mem := by
  intro r
  induction r with
  | zero =>
    intro t ht' hd mem h1 h2
    have htm : t = m := ht'
    subst htm
    exact pk_le t t (fun _ => K hd mem h1 h2) (fun h => absurd h (by omega))
  | succ r ih =>
    intro t ht' hd mem h1 h2
    have htc : (nI t).toNatClampNeg = t := nI_clamp (by omega)
    refine pk_le m t (fun h => absurd h (by omega)) (fun _ => And.intro (pk_in t 200 (by omega)) ?_)
    rw [htc, hk t (by omega)]
    refine px_judgeNext (t := t) hw hn h1n hc HV ht (hE t (by omega)) rfl h2 (fun mem' hm' => ?_)
    refine And.intro (pk_in t 200 (by omega)) (nm_r (e' := upd hd t (nI (pm_b (V 0 t)))) (by rw [pm_nar]) (nm_r (nI_1 t) ?_))
    refine ih (t + 1) (by omega) _ mem' ?_ hm'
    intro s hs
    by_cases hst : s = t
    · rw [hst, pk_us]
    · rw [pk_un hst]
      exact h1 s (by omega)
theorem px_ja2 {post : SX → Prop} {w n m : Nat} {c e : Nat → Nat} {V : Nat → Nat → Bool} {tok tk hd : Nat → Int32} (hw : w ≤ 12) (hn : n ≤ 14) (h1n : 1 ≤ n) (hm : m ≤ 200) (hc : ∀ j, j < n → c j ≤ 12) (hE : ∀ j, j < m → e j < 16) (HV : pm_HV w e c n V) (ht : ∀ j, j < n → tok j = nI (c j)) (hk : ∀ j, j < m → tk j = nI (e j)) (K : ∀ hd' mem', (∀ s, s < m → hd' s = nI (pm_b (V 0 s))) → (∀ j, j < n → mem' j = nI (pm_MJ w c n V j m)) → post (nI w, nI n, nI m, tok, tk, hd', mem')) : ∀ r i : Nat, i + r = 14 → ∀ mem : Nat → Int32, (∀ j, j < i → mem j = 0) → wX_judgeAll_2 post (nI w) (nI n) (nI m) (r + 1) (nI i) tok tk hd mem := by
  intro r
  induction r with
  | zero =>
    intro i hi mem h1
    have hi' : i = 14 := hi
    subst hi'
    refine pk_le 14 14 (fun _ => Exists.intro (m + 1) ?_) (fun h => absurd h (by omega))
    refine px_ja23 hw hn h1n hm hc hE HV ht hk K m 0 (by omega) hd mem (fun s hs => absurd hs (by omega)) ?_
    intro j hj
    rw [h1 j (by omega)]
    unfold pm_MJ
    rw [pm_mm_0]
    exact nI_0.symm
  | succ r ih =>
    intro i hi mem h1
    have hic : (nI i).toNatClampNeg = i := nI_clamp (by omega)
    refine pk_le 14 i (fun h => absurd h (by omega)) (fun _ => And.intro (pk_in i 14 (by omega)) (nm_r (e' := upd mem i 0) (by rw [hic]) (nm_r (nI_1 i) ?_)))
    refine ih (i + 1) (by omega) _ ?_
    intro j hj
    by_cases hji : j = i
    · rw [hji, pk_us]
    · rw [pk_un hji]
      exact h1 j (by omega)
theorem px_judgeAll {post : SX → Prop} {w n m : Nat} {c e : Nat → Nat} {V : Nat → Nat → Bool} {tok tk hd mem : Nat → Int32} (hw : w ≤ 12) (hn : n ≤ 14) (h1n : 1 ≤ n) (hm : m ≤ 200) (hc : ∀ j, j < n → c j ≤ 12) (hE : ∀ j, j < m → e j < 16) (HV : pm_HV w e c n V) (ht : ∀ j, j < n → tok j = nI (c j)) (hk : ∀ j, j < m → tk j = nI (e j)) (K : ∀ hd' mem', (∀ s, s < m → hd' s = nI (pm_b (V 0 s))) → (∀ j, j < n → mem' j = nI (pm_MJ w c n V j m)) → post (nI w, nI n, nI m, tok, tk, hd', mem')) : wpX_judgeAll post (nI w, nI n, nI m, tok, tk, hd, mem) :=
  Exists.intro 15 (px_ja2 hw hn h1n hm hc hE HV ht hk K 14 0 (by omega) mem (fun j hj => absurd hj (by omega)))
end
section
/-- the truth of the formula at event t -/
def pm_R (w : Nat) (e c : Nat → Nat) (n t : Nat) : Bool := pm_V w e c n n 0 t
/-- would the formula hold at one more event x -/
def pm_W (w : Nat) (e c : Nat → Nat) (n m x : Nat) : Bool := decide (pm_N c n = 0) && pm_R w (pm_up e m x) c n m
theorem px_all {post : SX → Prop} {w n m : Nat} {c e : Nat → Nat} {u : SX} (B : pm_B w n m c e) (X : pm_X w n m c e u) (h0 : pm_N c n = 0) (K : ∀ tok tk hd mem : Nat → Int32, (∀ j, j < n → tok j = nI (c j)) → (∀ j, j < m → tk j = nI (e j)) → (∀ s, s < m → hd s = nI (pm_b (pm_R w e c n s))) → post (nI w, nI n, nI m, tok, tk, hd, mem)) : wpX_judgeAll post u := by
  obtain ⟨b1, b2, b3, b4, b5, b6⟩ := B
  obtain ⟨tok, tk, hd, mem, rfl, h1, h2⟩ := X
  exact px_judgeAll b1 b2 (pm_n1 h0) b3 b4 b5 (pm_ex (w := w) (e := e) b6 h0) h1 h2 (fun hd' mem' a _ => K tok tk hd' mem' h1 h2 a)
theorem px_at {post : Int32 → SX → Prop} {w n m t : Nat} {c e : Nat → Nat} {u : SX} (B : pm_B w n m c e) (X : pm_X w n m c e u) (ht : t < m) (h0 : pm_N c n = 0) (hp : ∀ u', pm_X w n m c e u' → post (nI (pm_b (pm_R w e c n t))) u') : wpX_at post u (nI t) := by
  have X0 := X
  have hm : m ≤ 200 := B.2.2.1
  obtain ⟨tok, tk, hd, mem, rfl, h1, h2⟩ := X
  refine br_f (nI_pos (by omega)) (pk_le m t (fun h => absurd h (by omega)) (fun _ => ?_))
  refine px_complete_t B X0 h0 (br_f pm_f1 ?_)
  refine px_all B X0 h0 (fun tok tk hd mem a b d => And.intro (pk_in t 200 (by omega)) ?_)
  rw [nI_clamp (show t < 2 ^ 31 by omega), d t ht]
  exact And.intro (pm_narrow _) (hp _ ⟨_, _, _, _, rfl, a, b⟩)
theorem px_at_neg {post : Int32 → SX → Prop} {w n m : Nat} {c e : Nat → Nat} {u : SX} {v1 : Int32} (X : pm_X w n m c e u) (hv : v1 < 0) (hp : post 0 u) : wpX_at post u v1 := by
  obtain ⟨tok, tk, hd, mem, rfl, h1, h2⟩ := X
  exact br_t hv hp
theorem px_at_no {post : Int32 → SX → Prop} {w n m t : Nat} {c e : Nat → Nat} {u : SX} (B : pm_B w n m c e) (X : pm_X w n m c e u) (ht : t < 2 ^ 31) (h : m ≤ t ∨ ¬ pm_N c n = 0) (hp : post 0 u) : wpX_at post u (nI t) := by
  have X0 := X
  have hm : m ≤ 200 := B.2.2.1
  obtain ⟨tok, tk, hd, mem, rfl, h1, h2⟩ := X
  refine br_f (nI_pos ht) (pk_le m t (fun _ => hp) (fun h3 => ?_))
  exact px_complete_f B X0 (by omega) (br_t pm_t0 hp)
theorem px_now1 {post : Int32 → SX → Prop} {w n m : Nat} {c e : Nat → Nat} {u : SX} (B : pm_B w n (m + 1) c e) (X : pm_X w n (m + 1) c e u) (h0 : pm_N c n = 0) (hp : ∀ u', pm_X w n (m + 1) c e u' → post (nI (pm_b (pm_R w e c n m))) u') : wpX_now post u := by
  have X0 := X
  obtain ⟨tok, tk, hd, mem, rfl, h1, h2⟩ := X
  unfold wpX_now
  dsimp only
  rw [nI_pred]
  refine px_at B X0 (by omega) h0 (fun u' X' => ?_)
  obtain ⟨tok', tk', hd', mem', rfl, h1', h2'⟩ := X'
  exact And.intro (pm_narrow _) (hp _ ⟨_, _, _, _, rfl, h1', h2'⟩)
theorem px_now0 {post : Int32 → SX → Prop} {w n m : Nat} {c e : Nat → Nat} {u : SX} (B : pm_B w n m c e) (X : pm_X w n m c e u) (h : m = 0 ∨ ¬ pm_N c n = 0) (hp : post 0 u) : wpX_now post u := by
  have X0 := X
  have hm : m ≤ 200 := B.2.2.1
  obtain ⟨tok, tk, hd, mem, rfl, h1, h2⟩ := X
  unfold wpX_now
  dsimp only
  rw [pm_k_sub]
  cases m with
  | zero => exact px_at_neg X0 pm_k_neg (And.intro (pm_narrow false) hp)
  | succ m => exact px_at_no (t := m) B X0 (by omega) (by omega) (And.intro (pm_narrow false) hp)
theorem px_cnt {post : Int32 → SX → Prop} {w tc : Int32} {tok tk hd mem : Nat → Int32} {m : Nat} {B : Nat → Bool} (hm : m ≤ 200) (hd' : ∀ s, s < m → hd s = nI (pm_b (B s))) (hp : post (nI (pm_cnt B m)) (w, tc, nI m, tok, tk, hd, mem)) : ∀ r t : Nat, t + r = m → wX_count_17 post w tc (nI m) tok tk hd mem (r + 1) (nI (pm_cnt B t)) (nI t) := by
  intro r
  induction r with
  | zero =>
    intro t ht
    have ht' : t = m := ht
    subst ht'
    exact pk_le t t (fun _ => hp) (fun h => absurd h (by omega))
  | succ r ih =>
    intro t ht
    refine pk_le m t (fun h => absurd h (by omega)) (fun _ => And.intro (pk_in t 200 (by omega)) ?_)
    rw [nI_clamp (show t < 2 ^ 31 by omega), hd' t (by omega)]
    have ih' := ih (t + 1) (by omega)
    have e1 : pm_cnt B (t + 1) = pm_cnt B t + pm_b (B t) := rfl
    rw [e1] at ih'
    cases hb : B t with
    | false =>
      rw [hb] at ih'
      exact br_t pm_t0 (nm_r (nI_1 t) ih')
    | true =>
      rw [hb] at ih'
      exact br_f pm_f1 (nm_r (nI_1 _) (nm_r (nI_1 t) ih'))
theorem px_count0 {post : Int32 → SX → Prop} {w n m : Nat} {c e : Nat → Nat} {u : SX} (B : pm_B w n m c e) (X : pm_X w n m c e u) (h0 : ¬ pm_N c n = 0) (hp : post (-1) u) : wpX_count post u := by
  have X0 := X
  obtain ⟨tok, tk, hd, mem, rfl, h1, h2⟩ := X
  unfold wpX_count
  dsimp only
  exact px_complete_f B X0 h0 (br_t pm_t0 hp)
theorem px_count {post : Int32 → SX → Prop} {w n m : Nat} {c e : Nat → Nat} {u : SX} (B : pm_B w n m c e) (X : pm_X w n m c e u) (h0 : pm_N c n = 0) (hp : ∀ u', pm_X w n m c e u' → post (nI (pm_cnt (pm_R w e c n) m)) u') : wpX_count post u := by
  have X0 := X
  have hm : m ≤ 200 := B.2.2.1
  obtain ⟨tok, tk, hd, mem, rfl, h1, h2⟩ := X
  unfold wpX_count
  dsimp only
  refine px_complete_t B X0 h0 (br_f pm_f1 ?_)
  refine px_all B X0 h0 (fun tok tk hd mem a b d => Exists.intro (m + 1) ?_)
  exact px_cnt hm d (hp _ ⟨_, _, _, _, rfl, a, b⟩) m 0 (by omega)
theorem px_vio {post : Int32 → SX → Prop} {w tc : Int32} {tok tk hd mem : Nat → Int32} {m : Nat} {B : Nat → Bool} (hm : m ≤ 200) (hd' : ∀ s, s < m → hd s = nI (pm_b (B s))) : ∀ r s : Nat, m - s = r → s < 2 ^ 31 → post (pm_vio B s r) (w, tc, nI m, tok, tk, hd, mem) → wX_violation_19 post w tc (nI m) tok tk hd mem (r + 1) (nI s) := by
  intro r
  induction r with
  | zero =>
    intro s hs hs2 hp
    exact pk_le m s (fun _ => hp) (fun h => absurd h (by omega))
  | succ r ih =>
    intro s hs hs2 hp
    refine pk_le m s (fun h => absurd h (by omega)) (fun _ => And.intro (pk_in s 200 (by omega)) ?_)
    rw [nI_clamp hs2, hd' s (by omega)]
    have hp' : post (cond (B s) (pm_vio B (s + 1) r) (nI s)) (w, tc, nI m, tok, tk, hd, mem) := hp
    cases hb : B s with
    | false =>
      rw [hb] at hp'
      exact br_t pm_t0 hp'
    | true =>
      rw [hb] at hp'
      exact br_f pm_f1 (nm_r (nI_1 s) (ih (s + 1) (by omega) (by omega) hp'))
theorem px_viol_neg {post : Int32 → SX → Prop} {w n m : Nat} {c e : Nat → Nat} {u : SX} {v1 : Int32} (X : pm_X w n m c e u) (hv : v1 < 0) (hp : post (-1) u) : wpX_violation post u v1 := by
  obtain ⟨tok, tk, hd, mem, rfl, h1, h2⟩ := X
  exact br_t hv hp
theorem px_viol0 {post : Int32 → SX → Prop} {w n m t : Nat} {c e : Nat → Nat} {u : SX} (B : pm_B w n m c e) (X : pm_X w n m c e u) (ht : t < 2 ^ 31) (h0 : ¬ pm_N c n = 0) (hp : post (-1) u) : wpX_violation post u (nI t) := by
  have X0 := X
  obtain ⟨tok, tk, hd, mem, rfl, h1, h2⟩ := X
  exact br_f (nI_pos ht) (px_complete_f B X0 h0 (br_t pm_t0 hp))
theorem px_viol {post : Int32 → SX → Prop} {w n m t : Nat} {c e : Nat → Nat} {u : SX} (B : pm_B w n m c e) (X : pm_X w n m c e u) (ht : t < 2 ^ 31) (h0 : pm_N c n = 0) (hp : ∀ u', pm_X w n m c e u' → post (pm_vio (pm_R w e c n) t (m - t)) u') : wpX_violation post u (nI t) := by
  have X0 := X
  have hm : m ≤ 200 := B.2.2.1
  obtain ⟨tok, tk, hd, mem, rfl, h1, h2⟩ := X
  refine br_f (nI_pos ht) (px_complete_t B X0 h0 (br_f pm_f1 ?_))
  refine px_all B X0 h0 (fun tok tk hd mem a b d => Exists.intro (m - t + 1) ?_)
  exact px_vio hm d (m - t) t rfl ht (hp _ ⟨_, _, _, _, rfl, a, b⟩)
theorem px_stk {post : Int32 → SX → Prop} {w tc : Int32} {tok tk hd mem : Nat → Int32} {m : Nat} {B : Nat → Bool} (hm : m ≤ 200) (hd' : ∀ s, s < m → hd s = nI (pm_b (B s))) : ∀ r l : Nat, r ≤ m → post (nI (l + pm_stk B r)) (w, tc, nI m, tok, tk, hd, mem) → wX_streak_22 post w tc (nI m) tok tk hd mem (r + 1) (nI l) (pm_k r) := by
  intro r
  induction r with
  | zero =>
    intro l hr hp
    exact br_t pm_k_neg hp
  | succ r ih =>
    intro l hr hp
    rw [show pm_k (r + 1) = nI r from rfl]
    refine br_f (nI_pos (by omega)) (And.intro (pk_in r 200 (by omega)) ?_)
    rw [nI_clamp (show r < 2 ^ 31 by omega), hd' r (by omega)]
    have e1 : pm_stk B (r + 1) = cond (B r) (pm_stk B r + 1) 0 := rfl
    rw [e1] at hp
    cases hb : B r with
    | false =>
      rw [hb] at hp
      exact br_t pm_t0 hp
    | true =>
      rw [hb] at hp
      refine br_f pm_f1 (nm_r (nI_1 l) (nm_r (pm_k_dec r) (ih (l + 1) (by omega) ?_)))
      rw [show l + 1 + pm_stk B r = l + (pm_stk B r + 1) by omega]
      exact hp
theorem px_streak0 {post : Int32 → SX → Prop} {w n m : Nat} {c e : Nat → Nat} {u : SX} (B : pm_B w n m c e) (X : pm_X w n m c e u) (h0 : ¬ pm_N c n = 0) (hp : post (-1) u) : wpX_streak post u := by
  have X0 := X
  obtain ⟨tok, tk, hd, mem, rfl, h1, h2⟩ := X
  unfold wpX_streak
  dsimp only
  exact px_complete_f B X0 h0 (br_t pm_t0 hp)
theorem px_streak {post : Int32 → SX → Prop} {w n m : Nat} {c e : Nat → Nat} {u : SX} (B : pm_B w n m c e) (X : pm_X w n m c e u) (h0 : pm_N c n = 0) (hp : ∀ u', pm_X w n m c e u' → post (nI (pm_stk (pm_R w e c n) m)) u') : wpX_streak post u := by
  have X0 := X
  have hm : m ≤ 200 := B.2.2.1
  obtain ⟨tok, tk, hd, mem, rfl, h1, h2⟩ := X
  unfold wpX_streak
  dsimp only
  refine px_complete_t B X0 h0 (br_f pm_f1 ?_)
  refine px_all B X0 h0 (fun tok tk hd mem a b d => nm_r (pm_k_sub m) (Exists.intro (m + 1) ?_))
  refine px_stk hm d m 0 (Nat.le_refl _) ?_
  rw [Nat.zero_add]
  exact hp _ ⟨_, _, _, _, rfl, a, b⟩
theorem px_would_neg {post : Int32 → SX → Prop} {w n m : Nat} {c e : Nat → Nat} {u : SX} {v1 : Int32} (X : pm_X w n m c e u) (hv : v1 < 0) (hp : post 0 u) : wpX_wouldHold post u v1 := by
  obtain ⟨tok, tk, hd, mem, rfl, h1, h2⟩ := X
  unfold wpX_wouldHold
  dsimp only
  exact px_fs_neg hv (br_t rfl hp)
theorem px_would_no {post : Int32 → SX → Prop} {w n m j : Nat} {c e : Nat → Nat} {u : SX} (X : pm_X w n m c e u) (hj : j < 2 ^ 31) (h : 16 ≤ j) (hp : post 0 u) : wpX_wouldHold post u (nI j) := by
  obtain ⟨tok, tk, hd, mem, rfl, h1, h2⟩ := X
  unfold wpX_wouldHold
  dsimp only
  exact px_fs_no hj h (br_t rfl hp)
theorem px_would {post : Int32 → SX → Prop} {w n m x : Nat} {c e : Nat → Nat} {u : SX} (B : pm_B w n m c e) (X : pm_X w n m c e u) (hx : x < 16) (hp : ∀ u', pm_X w n m c e u' → post (nI (pm_b (pm_W w e c n m x))) u') : wpX_wouldHold post u (nI x) := by
  have X0 := X
  have B0 := B
  obtain ⟨b1, b2, b3, b4, b5, b6⟩ := B
  obtain ⟨tok, tk, hd, mem, rfl, h1, h2⟩ := X
  unfold wpX_wouldHold
  dsimp only
  refine px_fs_ok hx (br_f (by decide) ?_)
  by_cases h0 : pm_N c n = 0
  · have eW : pm_W w e c n m x = pm_V w (pm_up e m x) c n n 0 m := by
      unfold pm_W pm_R
      rw [decide_eq_true h0, Bool.true_and]
    refine px_complete_t B0 X0 h0 (br_f pm_f1 ?_)
    refine px_judgeAll (e := pm_up e m x) b1 b2 (pm_n1 h0) b3 b4 ?_ (pm_ex (w := w) (e := pm_up e m x) b6 h0) h1 ?_ (fun hd' mem' a hm' => ?_)
    · intro j hj
      rw [pm_up_n (by omega)]
      exact b5 j hj
    · intro j hj
      rw [pm_up_n (by omega)]
      exact h2 j hj
    · refine px_judgeNext (t := m) b1 b2 (pm_n1 h0) b4 (pm_ex (w := w) (e := pm_up e m x) b6 h0) h1 hx pm_up_s hm' (fun mem'' _ => ?_)
      rw [← eW]
      exact And.intro (pm_narrow _) (hp _ ⟨_, _, _, _, rfl, h1, h2⟩)
  · have eW : pm_W w e c n m x = false := by
      unfold pm_W
      rw [decide_eq_false h0, Bool.false_and]
    have hp' := hp _ X0
    rw [eW] at hp'
    exact px_complete_f B0 X0 h0 (br_t pm_t0 hp')
theorem px_alw {post : Int32 → SX → Prop} {w n m : Nat} {c e : Nat → Nat} (B : pm_B w n m c e) (hp : ∀ u', pm_X w n m c e u' → post (nI (pm_cnt (pm_W w e c n m) 16)) u') : ∀ r x : Nat, x + r = 16 → ∀ tok tk hd mem : Nat → Int32, (∀ j, j < n → tok j = nI (c j)) → (∀ j, j < m → tk j = nI (e j)) → wX_allowed_4 post (r + 1) (nI (pm_cnt (pm_W w e c n m) x)) (nI x) (nI w) (nI n) (nI m) tok tk hd mem := by
  intro r
  induction r with
  | zero =>
    intro x hx tok tk hd mem h1 h2
    have hx' : x = 16 := hx
    subst hx'
    exact pk_le 16 16 (fun _ => hp _ ⟨_, _, _, _, rfl, h1, h2⟩) (fun h => absurd h (by omega))
  | succ r ih =>
    intro x hx tok tk hd mem h1 h2
    refine pk_le 16 x (fun h => absurd h (by omega)) (fun _ => ?_)
    refine px_would B ⟨_, _, _, _, rfl, h1, h2⟩ (by omega) (fun u' X' => ?_)
    obtain ⟨tok', tk', hd', mem', rfl, h1', h2'⟩ := X'
    have ih' := ih (x + 1) (by omega) tok' tk' hd' mem' h1' h2'
    have e1 : pm_cnt (pm_W w e c n m) (x + 1) = pm_cnt (pm_W w e c n m) x + pm_b (pm_W w e c n m x) := rfl
    rw [e1] at ih'
    cases hb : pm_W w e c n m x with
    | false =>
      rw [hb] at ih'
      exact br_t pm_t0 (nm_r (nI_1 x) ih')
    | true =>
      rw [hb] at ih'
      exact br_f pm_f1 (nm_r (nI_1 _) (nm_r (nI_1 x) ih'))
theorem px_allowed {post : Int32 → SX → Prop} {w n m : Nat} {c e : Nat → Nat} {u : SX} (B : pm_B w n m c e) (X : pm_X w n m c e u) (hp : ∀ u', pm_X w n m c e u' → post (nI (pm_cnt (pm_W w e c n m) 16)) u') : wpX_allowed post u := by
  obtain ⟨tok, tk, hd, mem, rfl, h1, h2⟩ := X
  exact Exists.intro 17 (px_alw B hp 16 0 (by omega) tok tk hd mem h1 h2)
end
section
/-- the reference's state: window w, n tokens c, m events e -/
def pm_Y (w n m : Nat) (c e : Nat → Nat) (v : SY) : Prop := ∃ tok fc hd st : Nat → Int32, v = (nI w, nI n, nI m, tok, fc, hd, st) ∧ (∀ j, j < n → tok j = nI (c j)) ∧ (∀ j, j < m → fc j = nI (e j))
theorem pm_ix (g u : Nat) : (201 * nI g) + nI u = nI (201 * g + u) := by
  rw [show (201 : Int32) = nI 201 from rfl, pk_mul, nI_add]
theorem pm_in2 {g t : Nat} (hg : g < 14) (ht : t < 201) : vp_in ((201 * nI g) + nI t) 2814 := by
  rw [pm_ix]
  exact pk_in (201 * g + t) 2814 (by omega)
theorem pm_at2 {g t : Nat} (hg : g < 14) (ht : t < 201) : ((201 * nI g) + nI t).toNatClampNeg = 201 * g + t := by
  rw [pm_ix, nI_clamp (by omega)]
theorem py_dur0 {post : Int32 → Prop} {w sz ct : Int32} {tok fc hd st : Nat → Int32} {g s t : Nat} {G : Nat → Bool} (hg : g < 14) (ht : t < 201) (hs : s ≤ t + 1) (hr : ∀ u, u ≤ t → hd (201 * g + u) = nI (pm_b (G u))) (hp : post (nI (pm_b (pm_any G s (t + 1 - s))))) : ∀ r d : Nat, s + d + r = t + 1 → wY_during_15 post (nI g) (nI t) 0 w sz ct tok fc hd st (r + 1) (nI (pm_b (pm_any G s d))) (nI (s + d)) := by
  intro r
  induction r with
  | zero =>
    intro d hd'
    rw [show t + 1 - s = d by omega] at hp
    exact pk_lt t (s + d) (fun _ => And.intro (pm_narrow _) hp) (fun h => absurd h (by omega))
  | succ r ih =>
    intro d hd'
    have ih' := ih (d + 1) (by omega)
    have e1 : pm_any G s (d + 1) = (pm_any G s d || G (s + d)) := rfl
    rw [e1, show s + (d + 1) = s + d + 1 by omega] at ih'
    refine pk_lt t (s + d) (fun h => absurd h (by omega)) (fun _ => br_t rfl ?_)
    cases hb : pm_any G s d with
    | true =>
      rw [hb] at ih'
      exact br_f pm_f1 (nm_r (nI_1 _) ih')
    | false =>
      refine br_t pm_t0 (And.intro (pm_in2 hg (by omega)) ?_)
      rw [pm_at2 hg (show s + d < 201 by omega), hr (s + d) (by omega)]
      rw [hb] at ih'
      cases hG : G (s + d) with
      | false =>
        rw [hG] at ih'
        exact br_t pm_t0 (nm_r (nI_1 _) ih')
      | true =>
        rw [hG] at ih'
        exact br_f pm_f1 (nm_r (nI_1 _) ih')
theorem py_dur1 {post : Int32 → Prop} {w sz ct : Int32} {tok fc hd st : Nat → Int32} {g s t : Nat} {G : Nat → Bool} (hg : g < 14) (ht : t < 201) (hs : s ≤ t + 1) (hr : ∀ u, u ≤ t → hd (201 * g + u) = nI (pm_b (G u))) (hp : post (nI (pm_b (pm_all G s (t + 1 - s))))) : ∀ r d : Nat, s + d + r = t + 1 → wY_during_15 post (nI g) (nI t) 1 w sz ct tok fc hd st (r + 1) (nI (pm_b (pm_all G s d))) (nI (s + d)) := by
  intro r
  induction r with
  | zero =>
    intro d hd'
    rw [show t + 1 - s = d by omega] at hp
    exact pk_lt t (s + d) (fun _ => And.intro (pm_narrow _) hp) (fun h => absurd h (by omega))
  | succ r ih =>
    intro d hd'
    have ih' := ih (d + 1) (by omega)
    have e1 : pm_all G s (d + 1) = (pm_all G s d && G (s + d)) := rfl
    rw [e1, show s + (d + 1) = s + d + 1 by omega] at ih'
    refine pk_lt t (s + d) (fun h => absurd h (by omega)) (fun _ => br_f (by decide) ?_)
    cases hb : pm_all G s d with
    | false =>
      rw [hb] at ih'
      exact br_t pm_t0 (nm_r (nI_1 _) ih')
    | true =>
      refine br_f pm_f1 (And.intro (pm_in2 hg (by omega)) ?_)
      rw [pm_at2 hg (show s + d < 201 by omega), hr (s + d) (by omega)]
      rw [hb] at ih'
      cases hG : G (s + d) with
      | false =>
        rw [hG] at ih'
        exact br_t pm_t0 (nm_r (nI_1 _) ih')
      | true =>
        rw [hG] at ih'
        exact br_f pm_f1 (nm_r (nI_1 _) ih')
/-- a start of during: s itself, or below 0 -/
def pm_start (p : Int32) (s : Nat) : Prop := p = nI s ∨ (¬ 0 ≤ p ∧ s = 0)
theorem py_during0 {post : Int32 → Prop} {w sz ct p : Int32} {tok fc hd st : Nat → Int32} {g s t : Nat} {G : Nat → Bool} (hg : g < 14) (ht : t < 201) (hs : s ≤ t + 1) (hq : pm_start p s) (hr : ∀ u, u ≤ t → hd (201 * g + u) = nI (pm_b (G u))) (hp : post (nI (pm_b (pm_any G s (t + 1 - s))))) : wpY_during post (w, sz, ct, tok, fc, hd, st) (nI g) p (nI t) 0 := by
  have L := py_dur0 (w := w) (sz := sz) (ct := ct) (tok := tok) (fc := fc) (st := st) hg ht hs hr hp (t + 1 - s) 0 (by omega)
  cases hq with
  | inl h =>
    subst h
    exact br_t (nI_pos' (by omega)) (Exists.intro _ L)
  | inr h =>
    obtain ⟨h1, h2⟩ := h
    subst h2
    exact br_f h1 (Exists.intro _ L)
theorem py_during1 {post : Int32 → Prop} {w sz ct p : Int32} {tok fc hd st : Nat → Int32} {g s t : Nat} {G : Nat → Bool} (hg : g < 14) (ht : t < 201) (hs : s ≤ t + 1) (hq : pm_start p s) (hr : ∀ u, u ≤ t → hd (201 * g + u) = nI (pm_b (G u))) (hp : post (nI (pm_b (pm_all G s (t + 1 - s))))) : wpY_during post (w, sz, ct, tok, fc, hd, st) (nI g) p (nI t) 1 := by
  have L := py_dur1 (w := w) (sz := sz) (ct := ct) (tok := tok) (fc := fc) (st := st) hg ht hs hr hp (t + 1 - s) 0 (by omega)
  cases hq with
  | inl h =>
    subst h
    exact br_t (nI_pos' (by omega)) (Exists.intro _ L)
  | inr h =>
    obtain ⟨h1, h2⟩ := h
    subst h2
    exact br_f h1 (Exists.intro _ L)
theorem py_sin {post : Int32 → Prop} {w sz ct : Int32} {tok fc hd st : Nat → Int32} {g h t : Nat} {G H : Nat → Bool} (hg : g < 14) (hh : h < 14) (ht : t < 201) (hrG : ∀ u, u ≤ t → hd (201 * g + u) = nI (pm_b (G u))) (hrH : ∀ u, u ≤ t → hd (201 * h + u) = nI (pm_b (H u))) (hp : post (nI (pm_b (pm_sin G H t (t + 1))))) : ∀ r d : Nat, d + r = t + 1 → wY_since_6 post (nI g) (nI h) (nI t) w sz ct tok fc hd st (r + 1) (nI (pm_b (pm_sin G H t d))) (nI d) := by
  intro r
  induction r with
  | zero =>
    intro d hd'
    have hd2 : d = t + 1 := hd'
    subst hd2
    exact pk_lt t (t + 1) (fun _ => And.intro (pm_narrow _) hp) (fun h => absurd h (by omega))
  | succ r ih =>
    intro d hd'
    have ih' := ih (d + 1) (by omega)
    have e1 : pm_sin G H t (d + 1) = (pm_sin G H t d || (H d && pm_all G (d + 1) (t - d))) := rfl
    rw [e1] at ih'
    refine pk_lt t d (fun h => absurd h (by omega)) (fun _ => ?_)
    cases hb : pm_sin G H t d with
    | true =>
      rw [hb] at ih'
      exact br_f pm_f1 (nm_r (nI_1 _) ih')
    | false =>
      refine br_t pm_t0 (And.intro (pm_in2 hh (by omega)) ?_)
      rw [pm_at2 hh (show d < 201 by omega), hrH d (by omega)]
      rw [hb] at ih'
      cases hH : H d with
      | false =>
        rw [hH] at ih'
        exact br_t pm_t0 (nm_r (nI_1 _) ih')
      | true =>
        rw [hH] at ih'
        refine br_f pm_f1 ?_
        refine py_during1 (s := d + 1) (G := G) hg ht (by omega) (Or.inl (nI_1 d)) hrG ?_
        rw [show t + 1 - (d + 1) = t - d by omega]
        cases hA : pm_all G (d + 1) (t - d) with
        | false =>
          rw [hA] at ih'
          exact br_t pm_t0 (nm_r (nI_1 _) ih')
        | true =>
          rw [hA] at ih'
          exact br_f pm_f1 (nm_r (nI_1 _) ih')
theorem py_since {post : Int32 → Prop} {w sz ct : Int32} {tok fc hd st : Nat → Int32} {g h t : Nat} {G H : Nat → Bool} (hg : g < 14) (hh : h < 14) (ht : t < 201) (hrG : ∀ u, u ≤ t → hd (201 * g + u) = nI (pm_b (G u))) (hrH : ∀ u, u ≤ t → hd (201 * h + u) = nI (pm_b (H u))) (hp : post (nI (pm_b (pm_sin G H t (t + 1))))) : wpY_since post (w, sz, ct, tok, fc, hd, st) (nI g) (nI h) (nI t) :=
  Exists.intro (t + 2) (py_sin hg hh ht hrG hrH hp (t + 1) 0 (by omega))
theorem pm_startW {w t : Nat} (hw : w ≤ 12) (ht : t < 201) : pm_start (nI t - nI w) (t - w) := by
  by_cases h : w ≤ t
  · exact Or.inl (pk_sub h)
  · refine Or.inr ⟨fun z => ?_, by omega⟩
    have hneg := pk_sneg (a := t) (b := w) (by omega) (by omega)
    exact absurd hneg (Int32.not_lt.mpr z)
theorem py_188a {post : Int32 → Prop} {w sz ct p : Int32} {tok fc hd st : Nat → Int32} {x g s t : Nat} {G : Nat → Bool} (hx : x = 9 ∨ x = 12) (hg : g < 14) (ht : t < 201) (hs : s ≤ t + 1) (hq : pm_start p s) (hr : ∀ u, u ≤ t → hd (201 * g + u) = nI (pm_b (G u))) (hp : post (nI (pm_b (pm_all G s (t + 1 - s))))) : wY_truth_188 post (nI x) (nI t) p (nI g) w sz ct tok fc hd st := by
  unfold wY_truth_188 wY_truth_202 wY_truth_207
  have L : wpY_during (fun r_11 => narrow .boolean (.int r_11) = .int r_11 ∧ post r_11) (w, sz, ct, tok, fc, hd, st) (nI g) p (nI t) 1 := py_during1 hg ht hs hq hr (And.intro (pm_narrow _) hp)
  exact pk_eq x 9 (fun _ => L) (fun h9 => pk_eq x 12 (fun _ => L) (fun h12 => absurd hx (by omega)))
theorem py_188o {post : Int32 → Prop} {w sz ct p : Int32} {tok fc hd st : Nat → Int32} {x g s t : Nat} {G : Nat → Bool} (hx : x = 8 ∨ x = 11) (hg : g < 14) (ht : t < 201) (hs : s ≤ t + 1) (hq : pm_start p s) (hr : ∀ u, u ≤ t → hd (201 * g + u) = nI (pm_b (G u))) (hp : post (nI (pm_b (pm_any G s (t + 1 - s))))) : wY_truth_188 post (nI x) (nI t) p (nI g) w sz ct tok fc hd st := by
  unfold wY_truth_188 wY_truth_202 wY_truth_207
  have L : wpY_during (fun r_11 => narrow .boolean (.int r_11) = .int r_11 ∧ post r_11) (w, sz, ct, tok, fc, hd, st) (nI g) p (nI t) 0 := py_during0 hg ht hs hq hr (And.intro (pm_narrow _) hp)
  exact pk_eq x 9 (fun h9 => absurd hx (by omega)) (fun h9 => pk_eq x 12 (fun h12 => absurd hx (by omega)) (fun _ => L))
theorem py_truth {post : Int32 → Prop} {sz ct : Int32} {tok fc hd st : Nat → Int32} {w x g h t : Nat} {e : Nat → Nat} {G H : Nat → Bool} (hw : w ≤ 12) (hx : x ≤ 12) (hg : g < 14) (hh : h < 14) (ht : t < 201) (hf : fc t = nI (e t)) (he : e t < 16) (hrG : 1 ≤ pm_ar x → ∀ u, u ≤ t → hd (201 * g + u) = nI (pm_b (G u))) (hrH : 2 ≤ pm_ar x → ∀ u, u ≤ t → hd (201 * h + u) = nI (pm_b (H u))) (hp : post (nI (pm_b (pm_tr w e x G H t)))) : wpY_truth post (nI w, sz, ct, tok, fc, hd, st) (nI x) (nI g) (nI h) (nI t) := by
  by_cases h3 : x ≤ 3
  · refine pk_lt 3 x (fun z => absurd z (by omega)) (fun _ => And.intro (pk_in t 201 ht) ?_)
    rw [nI_clamp (show t < 2 ^ 31 by omega), hf, pm_fact (e t) he x (by omega)]
    rw [pm_t3 h3] at hp
    cases hb : decide (e t / 2 ^ x % 2 = 1) with
    | false =>
      rw [hb] at hp
      exact br_f (by decide +kernel) hp
    | true =>
      rw [hb] at hp
      exact br_t (by decide +kernel) hp
  · have ha : 1 ≤ pm_ar x := by
      unfold pm_ar
      rw [if_neg h3]
      split <;> omega
    have rG := hrG ha
    refine pk_lt 3 x (fun _ => And.intro (pm_in2 hg ht) (nm_r (e' := nI (pm_b (G t))) (by rw [pm_at2 hg ht]; exact rG t (Nat.le_refl _)) (And.intro (pm_in2 hh ht) (nm_r (e' := hd (201 * h + t)) (by rw [pm_at2 hh ht]) ?_)))) (fun z => absurd z (by omega))
    refine pk_lt 6 x (fun h6 => ?_) (fun h6 => ?_)
    · refine pk_eq x 7 (fun h7 => ?_) (fun h7 => pk_eq x 10 (fun h10 => ?_) (fun h10 => pk_lt 9 x (fun h9 => ?_) (fun h9 => ?_)))
      · subst h7
        cases t with
        | zero => exact pk_le 0 0 (fun _ => hp) (fun z => absurd z (by omega))
        | succ t =>
          refine pk_le (t + 1) 0 (fun z => absurd z (by omega)) (fun _ => ?_)
          rw [pm_ix, show 201 * g + (t + 1) = 201 * g + t + 1 by omega, nI_pred]
          refine And.intro (pk_in (201 * g + t) 2814 (by omega)) ?_
          rw [nI_clamp (show 201 * g + t < 2 ^ 31 by omega), rG t (by omega)]
          have hp' : post (nI (pm_b (G t))) := hp
          cases hb : G t with
          | false =>
            rw [hb] at hp'
            exact br_t pm_t0 hp'
          | true =>
            rw [hb] at hp'
            exact br_f pm_f1 hp'
      · subst h10
        exact py_since hg hh ht rG (hrH (by decide)) (And.intro (pm_narrow _) hp)
      · by_cases h11 : x = 11
        · subst h11
          exact py_188o (s := t - w) (Or.inr rfl) hg ht (by omega) (pm_startW hw ht) rG hp
        · have h12 : x = 12 := by omega
          subst h12
          exact py_188a (s := t - w) (Or.inr rfl) hg ht (by omega) (pm_startW hw ht) rG hp
      · by_cases h8 : x = 8
        · subst h8
          exact py_188o (s := 0) (Or.inl rfl) hg ht (by omega) (Or.inl nI_0.symm) rG hp
        · have h9' : x = 9 := by omega
          subst h9'
          exact py_188a (s := 0) (Or.inl rfl) hg ht (by omega) (Or.inl nI_0.symm) rG hp
    · refine pk_eq x 4 (fun h4 => ?_) (fun h4 => pk_eq x 5 (fun h5 => ?_) (fun h5 => ?_))
      · subst h4
        have hp' : post (nI (pm_b (!(G t)))) := hp
        cases hb : G t with
        | false =>
          rw [hb] at hp'
          exact br_t pm_t0 hp'
        | true =>
          rw [hb] at hp'
          exact br_f pm_f1 hp'
      · subst h5
        rw [hrH (by decide) t (Nat.le_refl _)]
        have hp' : post (nI (pm_b (G t && H t))) := hp
        cases hb : G t with
        | false =>
          rw [hb] at hp'
          exact br_t pm_t0 hp'
        | true =>
          rw [hb] at hp'
          refine br_f pm_f1 ?_
          cases hc : H t with
          | false =>
            rw [hc] at hp'
            exact br_t pm_t0 hp'
          | true =>
            rw [hc] at hp'
            exact br_f pm_f1 hp'
      · have h6' : x = 6 := by omega
        subst h6'
        rw [hrH (by decide) t (Nat.le_refl _)]
        have hp' : post (nI (pm_b (G t || H t))) := hp
        cases hb : G t with
        | true =>
          rw [hb] at hp'
          exact br_f pm_f1 hp'
        | false =>
          rw [hb] at hp'
          refine br_t pm_t0 ?_
          cases hc : H t with
          | false =>
            rw [hc] at hp'
            exact br_t pm_t0 hp'
          | true =>
            rw [hc] at hp'
            exact br_f pm_f1 hp'
end
section
theorem pm_getD_out {l : List Nat} {i : Nat} (h : l.length ≤ i) : l.getD i 0 = 0 := by
  rw [List.getD_eq_getElem?_getD, List.getElem?_eq_none h]
  rfl
theorem pm_sub1 {L : Nat} (h : 1 ≤ L) : nI L - 1 = nI (L - 1) := pk_sub (a := L) (b := 1) h
theorem pm_sub2 {L : Nat} (h : 2 ≤ L) : nI L - 2 = nI (L - 2) := pk_sub (a := L) (b := 2) h
theorem py_inner {post : SY → Prop} {J9 : Int32 → Int32 → (Nat → Int32) → (Nat → Int32) → (Nat → Int32) → (Nat → Int32) → Prop} {ct : Int32} {tok fc st : Nat → Int32} {w n N k d : Nat} {c e : Nat → Nat} {V : Nat → Nat → Bool} (hw : w ≤ 12) (hn : n ≤ 14) (hN : N ≤ 201) (hkd : k + d + 1 = n) (hck : c k ≤ 12) (HV : pm_HV w e c n V) (hf : ∀ u, u < N → fc u = nI (e u)) (hE : ∀ u, u < N → e u < 16) (K : ∀ hd', (∀ j, k ≤ j → j < n → ∀ u, u < N → hd' (201 * j + u) = nI (pm_b (V j u))) → J9 (nI ((pm_S c n d).length - pm_ar (c k) + 1)) (pm_k k) tok fc hd' (upd st ((pm_S c n d).length - pm_ar (c k)) (nI k))) : ∀ r t : Nat, t + r = N → ∀ hd : Nat → Int32, (∀ j, k < j → j < n → ∀ u, u < N → hd (201 * j + u) = nI (pm_b (V j u))) → (∀ u, u < t → hd (201 * k + u) = nI (pm_b (V k u))) → wY_work_99 post J9 (nI N) (nI (pm_S c n d).length) (nI k) (nI (c k)) (nI (pm_ar (c k))) (nI ((pm_S c n d).getD 0 0)) (nI ((pm_S c n d).getD 1 0)) (nI w) (nI n) ct (r + 1) (nI t) tok fc hd st := by
  obtain ⟨ho, hv⟩ := HV d k hkd
  have hL : (pm_S c n d).length ≤ d := pm_S_len d
  have hmem : ∀ p, p ∈ pm_S c n d → n - d ≤ p ∧ p < n := fun p hp => pm_S_mem (by omega) hp
  intro r
  induction r with
  | zero =>
    intro t ht hd h1 h2
    have htN : t = N := ht
    subst htN
    refine pk_le t t (fun _ => pk_lt (pm_S c n d).length (pm_ar (c k)) (fun z => absurd z (by omega)) (fun _ => ?_)) (fun z => absurd z (by omega))
    rw [pk_sub ho]
    refine And.intro (pk_in ((pm_S c n d).length - pm_ar (c k)) 15 (by omega)) (nm_r (e' := upd st ((pm_S c n d).length - pm_ar (c k)) (nI k)) (by rw [nI_clamp (show (pm_S c n d).length - pm_ar (c k) < 2 ^ 31 by omega)]) (nm_r (nI_1 _) (nm_r (pm_k_dec k) (K hd ?_))))
    intro j hj1 hj2
    by_cases hjk : j = k
    · subst hjk
      exact h2
    · exact h1 j (by omega) hj2
  | succ r ih =>
    intro t ht hd h1 h2
    have hg := pm_gD (fun p hp => (hmem p hp).2) (by omega) 0
    have hh := pm_gD (fun p hp => (hmem p hp).2) (by omega) 1
    refine pk_le N t (fun z => absurd z (by omega)) (fun _ => ?_)
    refine py_truth (e := e) (G := V ((pm_S c n d).getD 0 0)) (H := V ((pm_S c n d).getD 1 0)) hw hck (by omega) (by omega) (by omega) (hf t (by omega)) (hE t (by omega)) (fun z u hu => ?_) (fun z u hu => ?_) ?_
    · have hb := hmem _ (pm_mem0 (l := pm_S c n d) (by omega))
      exact h1 _ (by omega) (by omega) u (by omega)
    · have hb := hmem _ (pm_mem1 (l := pm_S c n d) (by omega))
      exact h1 _ (by omega) (by omega) u (by omega)
    · rw [← hv]
      refine And.intro (pm_in2 (by omega) (by omega)) (nm_r (e' := upd hd (201 * k + t) (nI (pm_b (V k t)))) (by rw [pm_at2 (show k < 14 by omega) (show t < 201 by omega), pm_nar]) (nm_r (nI_1 t) ?_))
      refine ih (t + 1) (by omega) _ ?_ ?_
      · intro j hj1 hj2 u hu
        rw [pk_un (by omega)]
        exact h1 j hj1 hj2 u hu
      · intro u hu
        by_cases hut : u = t
        · rw [hut, pk_us]
        · rw [pk_un (by omega)]
          exact h2 u (by omega)
theorem py_75 {post : SY → Prop} {J9 : Int32 → Int32 → (Nat → Int32) → (Nat → Int32) → (Nat → Int32) → (Nat → Int32) → Prop} {N k x a z w sz ct : Int32} {tok fc hd st : Nat → Int32} {l : List Nat} (hl : l.length ≤ 14) (hst : pm_St st l) (L99 : ∃ nn : Nat, wY_work_99 post J9 N (nI l.length) k x a z (nI (l.getD 1 0)) w sz ct nn 0 tok fc hd st) : wY_work_75 post J9 N (nI l.length) k x a z w sz ct tok fc hd st := by
  refine pk_lt l.length 2 (fun h => ?_) (fun h => And.intro ?_ (nm_r (e' := nI (l.getD 1 0)) ?_ L99))
  · rw [pm_getD_out (l := l) (i := 1) (by omega)] at L99
    exact L99
  · rw [pm_sub2 h]
    exact pk_in (l.length - 2) 15 (by omega)
  · rw [pm_sub2 h, nI_clamp (show l.length - 2 < 2 ^ 31 by omega)]
    exact hst 1 (by omega)
theorem py_56 {post : SY → Prop} {J9 : Int32 → Int32 → (Nat → Int32) → (Nat → Int32) → (Nat → Int32) → (Nat → Int32) → Prop} {N k x a w sz ct : Int32} {tok fc hd st : Nat → Int32} {l : List Nat} (hl : l.length ≤ 14) (hst : pm_St st l) (L99 : ∃ nn : Nat, wY_work_99 post J9 N (nI l.length) k x a (nI (l.getD 0 0)) (nI (l.getD 1 0)) w sz ct nn 0 tok fc hd st) : wY_work_56 post J9 N (nI l.length) k x a w sz ct tok fc hd st := by
  have L75 := py_75 hl hst L99
  refine pk_lt l.length 1 (fun h => ?_) (fun h => And.intro ?_ ?_)
  · rw [pm_getD_out (l := l) (i := 0) (by omega)] at L75
    exact L75
  · rw [pm_sub1 h]
    exact pk_in (l.length - 1) 15 (by omega)
  · have e0 : st (l.length - 1) = nI (l.getD 0 0) := hst 0 (by omega)
    rw [pm_sub1 h, nI_clamp (show l.length - 1 < 2 ^ 31 by omega), e0]
    exact L75
theorem py_outer {post : SY → Prop} {ct : Int32} {tok fc : Nat → Int32} {w n N : Nat} {c e : Nat → Nat} {V : Nat → Nat → Bool} (hw : w ≤ 12) (hn : n ≤ 14) (hN : N ≤ 201) (hc : ∀ j, j < n → c j ≤ 12) (HV : pm_HV w e c n V) (ht : ∀ j, j < n → tok j = nI (c j)) (hf : ∀ u, u < N → fc u = nI (e u)) (hE : ∀ u, u < N → e u < 16) (K : ∀ hd' st', (∀ j, j < n → ∀ u, u < N → hd' (201 * j + u) = nI (pm_b (V j u))) → post (nI w, nI n, ct, tok, fc, hd', st')) : ∀ r d : Nat, d + r = n → ∀ hd st : Nat → Int32, (∀ j, r ≤ j → j < n → ∀ u, u < N → hd (201 * j + u) = nI (pm_b (V j u))) → pm_St st (pm_S c n d) → wY_work_9 post (nI N) (nI w) (nI n) ct (r + 1) (nI (pm_S c n d).length) (pm_k r) tok fc hd st := by
  intro r
  induction r with
  | zero =>
    intro d hd' hd st h1 h2
    exact br_t pm_k_neg (K hd st (fun j hj => h1 j (Nat.zero_le _) hj))
  | succ r ih =>
    intro d hd' hd st h1 h2
    have hL : (pm_S c n d).length ≤ d := pm_S_len d
    have hr : r < n := by omega
    have ho := (HV d r (by omega)).1
    have eS : pm_S c n (d + 1) = r :: (pm_S c n d).drop (pm_ar (c r)) := by
      show (n - 1 - d) :: (pm_S c n d).drop (pm_ar (c (n - 1 - d))) = _
      rw [show n - 1 - d = r by omega]
    have L56 : wY_work_56 post (wY_work_9 post (nI N) (nI w) (nI n) ct (r + 1)) (nI N) (nI (pm_S c n d).length) (nI r) (nI (c r)) (nI (pm_ar (c r))) (nI w) (nI n) ct tok fc hd st := by
      refine py_56 (by omega) h2 (Exists.intro (N + 1) ?_)
      refine py_inner (e := e) (V := V) hw hn hN (by omega) (hc r hr) HV hf hE (fun hd2 hrow => ?_) N 0 (by omega) hd (fun j hj1 hj2 => h1 j (by omega) hj2) (fun u hu => absurd hu (by omega))
      have ih' := ih (d + 1) (by omega) hd2 (upd st ((pm_S c n d).length - pm_ar (c r)) (nI r)) hrow (by rw [eS]; exact pm_St_push h2 ho)
      rw [eS, List.length_cons, List.length_drop] at ih'
      exact ih'
    rw [show pm_k (r + 1) = nI r from rfl]
    refine br_f (nI_pos (by omega)) (And.intro (pk_in r 14 (by omega)) (nm_r (e' := nI (c r)) (by rw [nI_clamp (show r < 2 ^ 31 by omega), ht r hr]) ?_))
    have hcr := hc r hr
    refine pk_lt 3 (c r) (fun h3 => pk_eq (c r) 5 (fun h5 => ?_) (fun h5 => pk_eq (c r) 6 (fun h6 => ?_) (fun h6 => pk_eq (c r) 10 (fun h10 => ?_) (fun h10 => ?_)))) (fun h3 => ?_)
    · rw [show pm_ar (c r) = 2 from by rw [h5]; rfl] at L56
      exact L56
    · rw [show pm_ar (c r) = 2 from by rw [h6]; rfl] at L56
      exact L56
    · rw [show pm_ar (c r) = 2 from by rw [h10]; rfl] at L56
      exact L56
    · rw [show pm_ar (c r) = 1 from by unfold pm_ar; rw [if_neg (by omega), if_neg (by omega)]] at L56
      exact L56
    · rw [show pm_ar (c r) = 0 from by unfold pm_ar; rw [if_pos (by omega)]] at L56
      exact L56
theorem py_work {post : SY → Prop} {ct : Int32} {tok fc hd st : Nat → Int32} {w n N : Nat} {c e : Nat → Nat} {V : Nat → Nat → Bool} (hw : w ≤ 12) (hn : n ≤ 14) (h1n : 1 ≤ n) (hN : N ≤ 201) (hc : ∀ j, j < n → c j ≤ 12) (HV : pm_HV w e c n V) (ht : ∀ j, j < n → tok j = nI (c j)) (hf : ∀ u, u < N → fc u = nI (e u)) (hE : ∀ u, u < N → e u < 16) (K : ∀ hd' st', (∀ u, u < N → hd' u = nI (pm_b (V 0 u))) → post (nI w, nI n, ct, tok, fc, hd', st')) : wpY_work post (nI w, nI n, ct, tok, fc, hd, st) (nI N) := by
  refine nm_r (pm_k_sub n) (Exists.intro (n + 1) ?_)
  refine py_outer (e := e) (V := V) hw hn hN hc HV ht hf hE (fun hd' st' h => K hd' st' (fun u hu => ?_)) n 0 (by omega) hd st (fun j h1 h2 => absurd h2 (by omega)) pm_St_0
  have h' := h 0 (by omega) u hu
  rw [show 201 * 0 + u = u by omega] at h'
  exact h'
end
section
theorem py_comp {post : Int32 → Prop} {w ct : Int32} {tok fc hd st : Nat → Int32} {n : Nat} {c : Nat → Nat} (hn : n ≤ 14) (hc : ∀ j, j < n → c j ≤ 12) (ht : ∀ j, j < n → tok j = nI (c j)) (hN : ∀ k, k < n → 1 ≤ pm_N c k) (hp : post (nI (pm_b (decide (pm_N c n = 0))))) : ∀ r i : Nat, i + r = n → wY_complete_4 post w (nI n) ct tok fc hd st (r + 1) (nI (pm_N c i)) (nI i) := by
  intro r
  induction r with
  | zero =>
    intro i hi
    have hi' : i = n := hi
    have hb := pm_N_le c n
    rw [hi']
    refine pk_le n n (fun _ => ?_) (fun h => absurd h (by omega))
    refine pk_eq (pm_N c n) 0 (fun h0 => ?_) (fun h0 => ?_)
    · rw [decide_eq_true h0] at hp
      exact hp
    · rw [decide_eq_false h0] at hp
      exact hp
  | succ r ih =>
    intro i hi
    have hin : i < n := by omega
    have h1 := hN i hin
    have hci := hc i hin
    have ih' := ih (i + 1) (by omega)
    have e1 : pm_N c (i + 1) = pm_N c i + pm_ar (c i) - 1 := rfl
    rw [e1] at ih'
    refine pk_le n i (fun h => absurd h (by omega)) (fun _ => And.intro (pk_in i 14 (by omega)) (nm_r (e' := nI (c i)) (by rw [nI_clamp (show i < 2 ^ 31 by omega), ht i hin]) ?_))
    refine pk_lt 3 (c i) (fun h3 => pk_eq (c i) 5 (fun h5 => ?_) (fun h5 => pk_eq (c i) 6 (fun h6 => ?_) (fun h6 => pk_eq (c i) 10 (fun h10 => ?_) (fun h10 => ?_)))) (fun h3 => ?_)
    · rw [show pm_ar (c i) = 2 from by rw [h5]; rfl, show pm_N c i + 2 - 1 = pm_N c i + 1 by omega] at ih'
      exact nm_r (nI_1 _) (nm_r (nI_1 i) ih')
    · rw [show pm_ar (c i) = 2 from by rw [h6]; rfl, show pm_N c i + 2 - 1 = pm_N c i + 1 by omega] at ih'
      exact nm_r (nI_1 _) (nm_r (nI_1 i) ih')
    · rw [show pm_ar (c i) = 2 from by rw [h10]; rfl, show pm_N c i + 2 - 1 = pm_N c i + 1 by omega] at ih'
      exact nm_r (nI_1 _) (nm_r (nI_1 i) ih')
    · rw [show pm_ar (c i) = 1 from by unfold pm_ar; rw [if_neg (by omega), if_neg (by omega)], show pm_N c i + 1 - 1 = pm_N c i by omega] at ih'
      exact nm_r (nI_1 i) ih'
    · rw [show pm_ar (c i) = 0 from by unfold pm_ar; rw [if_pos (by omega)], show pm_N c i + 0 - 1 = pm_N c i - 1 by omega] at ih'
      exact nm_r (pm_sub1 h1) (nm_r (nI_1 i) ih')
theorem py_complete {post : Int32 → Prop} {w n m : Nat} {c e : Nat → Nat} {v : SY} (B : pm_B w n m c e) (Y : pm_Y w n m c e v) (hp : post (nI (pm_b (decide (pm_N c n = 0))))) : wpY_complete post v := by
  obtain ⟨b1, b2, b3, b4, b5, b6⟩ := B
  obtain ⟨tok, fc, hd, st, rfl, h1, h2⟩ := Y
  exact Exists.intro (n + 1) (py_comp b2 b4 h1 b6 hp n 0 (by omega))
theorem py_complete_t {post : Int32 → Prop} {w n m : Nat} {c e : Nat → Nat} {v : SY} (B : pm_B w n m c e) (Y : pm_Y w n m c e v) (h0 : pm_N c n = 0) (hp : post (nI (pm_b true))) : wpY_complete post v :=
  py_complete B Y (by rw [decide_eq_true h0]; exact hp)
theorem py_complete_f {post : Int32 → Prop} {w n m : Nat} {c e : Nat → Nat} {v : SY} (B : pm_B w n m c e) (Y : pm_Y w n m c e v) (h0 : ¬ pm_N c n = 0) (hp : post (nI (pm_b false))) : wpY_complete post v :=
  py_complete B Y (by rw [decide_eq_false h0]; exact hp)
theorem py_feed_neg {post : Int32 → SY → Prop} {w n m : Nat} {c e : Nat → Nat} {v : SY} {v1 : Int32} (Y : pm_Y w n m c e v) (hv : v1 < 0) (hp : post (-1) v) : wpY_feed post v v1 := by
  obtain ⟨tok, fc, hd, st, rfl, h1, h2⟩ := Y
  exact br_t hv hp
theorem py_feed_no {post : Int32 → SY → Prop} {w n m j : Nat} {c e : Nat → Nat} {v : SY} (B : pm_B w n m c e) (Y : pm_Y w n m c e v) (hj : j < 2 ^ 31) (h : 12 < j ∨ 14 ≤ n ∨ pm_N c n = 0) (hp : post (-1) v) : wpY_feed post v (nI j) := by
  have Y0 := Y
  have hn : n ≤ 14 := B.2.1
  obtain ⟨tok, fc, hd, st, rfl, h1, h2⟩ := Y
  refine br_f (nI_pos hj) (pk_lt 12 j (fun _ => hp) (fun h3 => ?_))
  by_cases h0 : pm_N c n = 0
  · exact py_complete_t B Y0 h0 (br_f pm_f1 hp)
  · exact py_complete_f B Y0 h0 (br_t pm_t0 (pk_lt n 14 (fun z => absurd z (by omega)) (fun _ => hp)))
theorem py_feed_ok {post : Int32 → SY → Prop} {w n m x : Nat} {c e : Nat → Nat} {v : SY} (B : pm_B w n m c e) (Y : pm_Y w n m c e v) (hx : x ≤ 12) (hn : n < 14) (h0 : ¬ pm_N c n = 0) (hp : ∀ v', pm_Y w (n + 1) m (pm_up c n x) e v' → post (nI (n + 1)) v') : wpY_feed post v (nI x) := by
  have Y0 := Y
  obtain ⟨tok, fc, hd, st, rfl, h1, h2⟩ := Y
  refine br_f (nI_pos (by omega)) (pk_lt 12 x (fun h => absurd h (by omega)) (fun _ => ?_))
  refine py_complete_f B Y0 h0 (br_t pm_t0 (pk_lt n 14 (fun _ => And.intro (pk_in n 14 hn) ?_) (fun z => absurd z (by omega))))
  refine nm_r (e' := upd tok n (nI x)) (by rw [nI_clamp (show n < 2 ^ 31 by omega)]) (nm_r (nI_1 n) ?_)
  exact hp _ ⟨_, _, _, _, rfl, pm_tokup h1, h2⟩
theorem py_back0 {post : Int32 → SY → Prop} {w m : Nat} {c e : Nat → Nat} {v : SY} (Y : pm_Y w 0 m c e v) (hp : post (-1) v) : wpY_back post v := by
  obtain ⟨tok, fc, hd, st, rfl, h1, h2⟩ := Y
  exact br_t nI_0 hp
theorem py_back1 {post : Int32 → SY → Prop} {w n m : Nat} {c e : Nat → Nat} {v : SY} (hn : n < 14) (Y : pm_Y w (n + 1) m c e v) (hp : ∀ v', pm_Y w n m c e v' → post (nI (c n)) v') : wpY_back post v := by
  obtain ⟨tok, fc, hd, st, rfl, h1, h2⟩ := Y
  refine br_f (nI_ne0 (by omega) (by omega)) (nm_r (nI_pred n) (And.intro (pk_in n 14 hn) ?_))
  rw [nI_clamp (show n < 2 ^ 31 by omega), h1 n (by omega)]
  exact hp _ ⟨_, _, _, _, rfl, fun j hj => h1 j (by omega), h2⟩
theorem py_event_neg {post : Int32 → SY → Prop} {w n m : Nat} {c e : Nat → Nat} {v : SY} {v1 : Int32} (Y : pm_Y w n m c e v) (hv : v1 < 0) (hp : post (-1) v) : wpY_event post v v1 := by
  obtain ⟨tok, fc, hd, st, rfl, h1, h2⟩ := Y
  exact br_t hv hp
theorem py_event_no {post : Int32 → SY → Prop} {w n m j : Nat} {c e : Nat → Nat} {v : SY} (Y : pm_Y w n m c e v) (hj : j < 2 ^ 31) (h : 16 ≤ j) (hp : post (-1) v) : wpY_event post v (nI j) := by
  obtain ⟨tok, fc, hd, st, rfl, h1, h2⟩ := Y
  exact br_f (nI_pos hj) (pk_le j 15 (fun z => absurd z (by omega)) (fun _ => hp))
theorem py_event_full {post : Int32 → SY → Prop} {w n j : Nat} {c e : Nat → Nat} {v : SY} (Y : pm_Y w n 200 c e v) (h : j < 16) (hp : post (-2) v) : wpY_event post v (nI j) := by
  obtain ⟨tok, fc, hd, st, rfl, h1, h2⟩ := Y
  exact br_f (nI_pos (by omega)) (pk_le j 15 (fun _ => pk_lt 200 200 (fun z => absurd z (by omega)) (fun _ => hp)) (fun z => absurd z (by omega)))
theorem py_event_ok {post : Int32 → SY → Prop} {w n m j : Nat} {c e : Nat → Nat} {v : SY} (Y : pm_Y w n m c e v) (hm : m < 200) (h : j < 16) (hp : ∀ v', pm_Y w n (m + 1) c (pm_up e m j) v' → post (nI m) v') : wpY_event post v (nI j) := by
  obtain ⟨tok, fc, hd, st, rfl, h1, h2⟩ := Y
  refine br_f (nI_pos (by omega)) (pk_le j 15 (fun _ => pk_lt m 200 (fun _ => And.intro (pk_in m 201 (by omega)) ?_) (fun z => absurd z (by omega))) (fun z => absurd z (by omega)))
  refine nm_r (e' := upd fc m (nI j)) (by rw [nI_clamp (show m < 2 ^ 31 by omega)]) (nm_r (nI_1 m) ?_)
  rw [nI_pred]
  exact hp _ ⟨_, _, _, _, rfl, h1, pm_tokup h2⟩
theorem py_undo0 {post : Int32 → SY → Prop} {w n : Nat} {c e : Nat → Nat} {v : SY} (Y : pm_Y w n 0 c e v) (hp : post (-1) v) : wpY_undo post v := by
  obtain ⟨tok, fc, hd, st, rfl, h1, h2⟩ := Y
  exact br_t nI_0 hp
theorem py_undo1 {post : Int32 → SY → Prop} {w n m : Nat} {c e : Nat → Nat} {v : SY} (hm : m < 200) (Y : pm_Y w n (m + 1) c e v) (hp : ∀ v', pm_Y w n m c e v' → post (nI m) v') : wpY_undo post v := by
  obtain ⟨tok, fc, hd, st, rfl, h1, h2⟩ := Y
  refine br_f (nI_ne0 (by omega) (by omega)) (nm_r (nI_pred m) ?_)
  exact hp _ ⟨_, _, _, _, rfl, h1, fun j hj => h2 j (by omega)⟩
theorem py_all {post : SY → Prop} {w n m : Nat} {c e : Nat → Nat} {v : SY} (B : pm_B w n m c e) (Y : pm_Y w n m c e v) (h0 : pm_N c n = 0) (K : ∀ tok fc hd st : Nat → Int32, (∀ j, j < n → tok j = nI (c j)) → (∀ j, j < m → fc j = nI (e j)) → (∀ s, s < m → hd s = nI (pm_b (pm_R w e c n s))) → post (nI w, nI n, nI m, tok, fc, hd, st)) : wpY_work post v (nI m) := by
  obtain ⟨b1, b2, b3, b4, b5, b6⟩ := B
  obtain ⟨tok, fc, hd, st, rfl, h1, h2⟩ := Y
  exact py_work b1 b2 (pm_n1 h0) (by omega) b4 (pm_ex (w := w) (e := e) b6 h0) h1 h2 b5 (fun hd' st' a => K tok fc hd' st' h1 h2 a)
theorem py_at {post : Int32 → SY → Prop} {w n m t : Nat} {c e : Nat → Nat} {v : SY} (B : pm_B w n m c e) (Y : pm_Y w n m c e v) (ht : t < m) (h0 : pm_N c n = 0) (hp : ∀ v', pm_Y w n m c e v' → post (nI (pm_b (pm_R w e c n t))) v') : wpY_at post v (nI t) := by
  have Y0 := Y
  have hm : m ≤ 200 := B.2.2.1
  obtain ⟨tok, fc, hd, st, rfl, h1, h2⟩ := Y
  refine br_f (nI_pos (by omega)) (pk_le m t (fun h => absurd h (by omega)) (fun _ => ?_))
  refine py_complete_t B Y0 h0 (br_f pm_f1 ?_)
  refine py_all B Y0 h0 (fun tok fc hd st a b d => And.intro (pk_in t 2814 (by omega)) ?_)
  rw [nI_clamp (show t < 2 ^ 31 by omega), d t ht]
  exact And.intro (pm_narrow _) (hp _ ⟨_, _, _, _, rfl, a, b⟩)
theorem py_at_neg {post : Int32 → SY → Prop} {w n m : Nat} {c e : Nat → Nat} {v : SY} {v1 : Int32} (Y : pm_Y w n m c e v) (hv : v1 < 0) (hp : post 0 v) : wpY_at post v v1 := by
  obtain ⟨tok, fc, hd, st, rfl, h1, h2⟩ := Y
  exact br_t hv hp
theorem py_at_no {post : Int32 → SY → Prop} {w n m t : Nat} {c e : Nat → Nat} {v : SY} (B : pm_B w n m c e) (Y : pm_Y w n m c e v) (ht : t < 2 ^ 31) (h : m ≤ t ∨ ¬ pm_N c n = 0) (hp : post 0 v) : wpY_at post v (nI t) := by
  have Y0 := Y
  have hm : m ≤ 200 := B.2.2.1
  obtain ⟨tok, fc, hd, st, rfl, h1, h2⟩ := Y
  refine br_f (nI_pos ht) (pk_le m t (fun _ => hp) (fun h3 => ?_))
  exact py_complete_f B Y0 (by omega) (br_t pm_t0 hp)
theorem py_now1 {post : Int32 → SY → Prop} {w n m : Nat} {c e : Nat → Nat} {v : SY} (B : pm_B w n (m + 1) c e) (Y : pm_Y w n (m + 1) c e v) (h0 : pm_N c n = 0) (hp : ∀ v', pm_Y w n (m + 1) c e v' → post (nI (pm_b (pm_R w e c n m))) v') : wpY_now post v := by
  have Y0 := Y
  obtain ⟨tok, fc, hd, st, rfl, h1, h2⟩ := Y
  unfold wpY_now
  dsimp only
  rw [nI_pred]
  refine py_at B Y0 (by omega) h0 (fun v' Y' => ?_)
  obtain ⟨tok', fc', hd', st', rfl, h1', h2'⟩ := Y'
  exact And.intro (pm_narrow _) (hp _ ⟨_, _, _, _, rfl, h1', h2'⟩)
theorem py_now0 {post : Int32 → SY → Prop} {w n m : Nat} {c e : Nat → Nat} {v : SY} (B : pm_B w n m c e) (Y : pm_Y w n m c e v) (h : m = 0 ∨ ¬ pm_N c n = 0) (hp : post 0 v) : wpY_now post v := by
  have Y0 := Y
  have hm : m ≤ 200 := B.2.2.1
  obtain ⟨tok, fc, hd, st, rfl, h1, h2⟩ := Y
  unfold wpY_now
  dsimp only
  rw [pm_k_sub]
  cases m with
  | zero => exact py_at_neg Y0 pm_k_neg (And.intro (pm_narrow false) hp)
  | succ m => exact py_at_no (t := m) B Y0 (by omega) (by omega) (And.intro (pm_narrow false) hp)
theorem py_cnt {post : Int32 → SY → Prop} {w tc : Int32} {tok fc hd st : Nat → Int32} {m : Nat} {B : Nat → Bool} (hm : m ≤ 200) (hd' : ∀ s, s < m → hd s = nI (pm_b (B s))) (hp : post (nI (pm_cnt B m)) (w, tc, nI m, tok, fc, hd, st)) : ∀ r t : Nat, t + r = m → wY_count_21 post w tc (nI m) tok fc hd st (r + 1) (nI (pm_cnt B t)) (nI t) := by
  intro r
  induction r with
  | zero =>
    intro t ht
    have ht' : t = m := ht
    subst ht'
    exact pk_le t t (fun _ => hp) (fun h => absurd h (by omega))
  | succ r ih =>
    intro t ht
    refine pk_le m t (fun h => absurd h (by omega)) (fun _ => And.intro (pk_in t 2814 (by omega)) ?_)
    rw [nI_clamp (show t < 2 ^ 31 by omega), hd' t (by omega)]
    have ih' := ih (t + 1) (by omega)
    have e1 : pm_cnt B (t + 1) = pm_cnt B t + pm_b (B t) := rfl
    rw [e1] at ih'
    cases hb : B t with
    | false =>
      rw [hb] at ih'
      exact br_t pm_t0 (nm_r (Int32.add_zero _) (nm_r (nI_1 t) ih'))
    | true =>
      rw [hb] at ih'
      exact br_f pm_f1 (nm_r (nI_1 _) (nm_r (nI_1 t) ih'))
theorem py_count0 {post : Int32 → SY → Prop} {w n m : Nat} {c e : Nat → Nat} {v : SY} (B : pm_B w n m c e) (Y : pm_Y w n m c e v) (h0 : ¬ pm_N c n = 0) (hp : post (-1) v) : wpY_count post v := by
  have Y0 := Y
  obtain ⟨tok, fc, hd, st, rfl, h1, h2⟩ := Y
  unfold wpY_count
  dsimp only
  exact py_complete_f B Y0 h0 (br_t pm_t0 hp)
theorem py_count {post : Int32 → SY → Prop} {w n m : Nat} {c e : Nat → Nat} {v : SY} (B : pm_B w n m c e) (Y : pm_Y w n m c e v) (h0 : pm_N c n = 0) (hp : ∀ v', pm_Y w n m c e v' → post (nI (pm_cnt (pm_R w e c n) m)) v') : wpY_count post v := by
  have Y0 := Y
  have hm : m ≤ 200 := B.2.2.1
  obtain ⟨tok, fc, hd, st, rfl, h1, h2⟩ := Y
  unfold wpY_count
  dsimp only
  refine py_complete_t B Y0 h0 (br_f pm_f1 ?_)
  refine py_all B Y0 h0 (fun tok fc hd st a b d => Exists.intro (m + 1) ?_)
  exact py_cnt hm d (hp _ ⟨_, _, _, _, rfl, a, b⟩) m 0 (by omega)
theorem py_vio {post : Int32 → SY → Prop} {w tc : Int32} {tok fc hd st : Nat → Int32} {m : Nat} {B : Nat → Bool} (hm : m ≤ 200) (hd' : ∀ s, s < m → hd s = nI (pm_b (B s))) : ∀ r s : Nat, m - s = r → s < 2 ^ 31 → post (pm_vio B s r) (w, tc, nI m, tok, fc, hd, st) → wY_violation_23 post w tc (nI m) tok fc hd st (r + 1) (nI s) := by
  intro r
  induction r with
  | zero =>
    intro s hs hs2 hp
    exact pk_le m s (fun _ => hp) (fun h => absurd h (by omega))
  | succ r ih =>
    intro s hs hs2 hp
    refine pk_le m s (fun h => absurd h (by omega)) (fun _ => And.intro (pk_in s 2814 (by omega)) ?_)
    rw [nI_clamp hs2, hd' s (by omega)]
    have hp' : post (cond (B s) (pm_vio B (s + 1) r) (nI s)) (w, tc, nI m, tok, fc, hd, st) := hp
    cases hb : B s with
    | false =>
      rw [hb] at hp'
      exact br_t pm_t0 hp'
    | true =>
      rw [hb] at hp'
      exact br_f pm_f1 (nm_r (nI_1 s) (ih (s + 1) (by omega) (by omega) hp'))
theorem py_viol_neg {post : Int32 → SY → Prop} {w n m : Nat} {c e : Nat → Nat} {v : SY} {v1 : Int32} (Y : pm_Y w n m c e v) (hv : v1 < 0) (hp : post (-1) v) : wpY_violation post v v1 := by
  obtain ⟨tok, fc, hd, st, rfl, h1, h2⟩ := Y
  exact br_t hv hp
theorem py_viol0 {post : Int32 → SY → Prop} {w n m t : Nat} {c e : Nat → Nat} {v : SY} (B : pm_B w n m c e) (Y : pm_Y w n m c e v) (ht : t < 2 ^ 31) (h0 : ¬ pm_N c n = 0) (hp : post (-1) v) : wpY_violation post v (nI t) := by
  have Y0 := Y
  obtain ⟨tok, fc, hd, st, rfl, h1, h2⟩ := Y
  exact br_f (nI_pos ht) (py_complete_f B Y0 h0 (br_t pm_t0 hp))
theorem py_viol {post : Int32 → SY → Prop} {w n m t : Nat} {c e : Nat → Nat} {v : SY} (B : pm_B w n m c e) (Y : pm_Y w n m c e v) (ht : t < 2 ^ 31) (h0 : pm_N c n = 0) (hp : ∀ v', pm_Y w n m c e v' → post (pm_vio (pm_R w e c n) t (m - t)) v') : wpY_violation post v (nI t) := by
  have Y0 := Y
  have hm : m ≤ 200 := B.2.2.1
  obtain ⟨tok, fc, hd, st, rfl, h1, h2⟩ := Y
  refine br_f (nI_pos ht) (py_complete_t B Y0 h0 (br_f pm_f1 ?_))
  refine py_all B Y0 h0 (fun tok fc hd st a b d => Exists.intro (m - t + 1) ?_)
  exact py_vio hm d (m - t) t rfl ht (hp _ ⟨_, _, _, _, rfl, a, b⟩)
theorem py_stk {post : Int32 → SY → Prop} {w tc : Int32} {tok fc hd st : Nat → Int32} {m : Nat} {B : Nat → Bool} (hm : m ≤ 200) (hd' : ∀ s, s < m → hd s = nI (pm_b (B s))) : ∀ r l : Nat, l + r = m → post (nI (l + pm_stk B r)) (w, tc, nI m, tok, fc, hd, st) → wY_streak_19 post w tc (nI m) tok fc hd st (r + 1) (nI l) := by
  intro r
  induction r with
  | zero =>
    intro l hl hp
    exact pk_le m l (fun _ => hp) (fun h => absurd h (by omega))
  | succ r ih =>
    intro l hl hp
    refine pk_le m l (fun h => absurd h (by omega)) (fun _ => ?_)
    rw [pm_sub1 (show 1 ≤ m by omega), pk_sub (show l ≤ m - 1 by omega), show m - 1 - l = r by omega]
    refine And.intro (pk_in r 2814 (by omega)) ?_
    rw [nI_clamp (show r < 2 ^ 31 by omega), hd' r (by omega)]
    have e1 : pm_stk B (r + 1) = cond (B r) (pm_stk B r + 1) 0 := rfl
    rw [e1] at hp
    cases hb : B r with
    | false =>
      rw [hb] at hp
      exact br_t pm_t0 hp
    | true =>
      rw [hb] at hp
      refine br_f pm_f1 (nm_r (nI_1 l) (ih (l + 1) (by omega) ?_))
      rw [show l + 1 + pm_stk B r = l + (pm_stk B r + 1) by omega]
      exact hp
theorem py_streak0 {post : Int32 → SY → Prop} {w n m : Nat} {c e : Nat → Nat} {v : SY} (B : pm_B w n m c e) (Y : pm_Y w n m c e v) (h0 : ¬ pm_N c n = 0) (hp : post (-1) v) : wpY_streak post v := by
  have Y0 := Y
  obtain ⟨tok, fc, hd, st, rfl, h1, h2⟩ := Y
  unfold wpY_streak
  dsimp only
  exact py_complete_f B Y0 h0 (br_t pm_t0 hp)
theorem py_streak {post : Int32 → SY → Prop} {w n m : Nat} {c e : Nat → Nat} {v : SY} (B : pm_B w n m c e) (Y : pm_Y w n m c e v) (h0 : pm_N c n = 0) (hp : ∀ v', pm_Y w n m c e v' → post (nI (pm_stk (pm_R w e c n) m)) v') : wpY_streak post v := by
  have Y0 := Y
  have hm : m ≤ 200 := B.2.2.1
  obtain ⟨tok, fc, hd, st, rfl, h1, h2⟩ := Y
  unfold wpY_streak
  dsimp only
  refine py_complete_t B Y0 h0 (br_f pm_f1 ?_)
  refine py_all B Y0 h0 (fun tok fc hd st a b d => Exists.intro (m + 1) ?_)
  refine py_stk hm d m 0 (by omega) ?_
  rw [Nat.zero_add]
  exact hp _ ⟨_, _, _, _, rfl, a, b⟩
theorem py_would_neg {post : Int32 → SY → Prop} {w n m : Nat} {c e : Nat → Nat} {v : SY} {v1 : Int32} (Y : pm_Y w n m c e v) (hv : v1 < 0) (hp : post 0 v) : wpY_wouldHold post v v1 := by
  obtain ⟨tok, fc, hd, st, rfl, h1, h2⟩ := Y
  exact br_t hv hp
theorem py_would_no {post : Int32 → SY → Prop} {w n m j : Nat} {c e : Nat → Nat} {v : SY} (Y : pm_Y w n m c e v) (hj : j < 2 ^ 31) (h : 16 ≤ j) (hp : post 0 v) : wpY_wouldHold post v (nI j) := by
  obtain ⟨tok, fc, hd, st, rfl, h1, h2⟩ := Y
  exact br_f (nI_pos hj) (pk_lt 15 j (fun _ => hp) (fun z => absurd z (by omega)))
theorem py_would {post : Int32 → SY → Prop} {w n m x : Nat} {c e : Nat → Nat} {v : SY} (B : pm_B w n m c e) (Y : pm_Y w n m c e v) (hx : x < 16) (hp : ∀ v', pm_Y w n m c e v' → post (nI (pm_b (pm_W w e c n m x))) v') : wpY_wouldHold post v (nI x) := by
  have Y0 := Y
  have B0 := B
  obtain ⟨b1, b2, b3, b4, b5, b6⟩ := B
  obtain ⟨tok, fc, hd, st, rfl, h1, h2⟩ := Y
  refine br_f (nI_pos (by omega)) (pk_lt 15 x (fun z => absurd z (by omega)) (fun _ => ?_))
  by_cases h0 : pm_N c n = 0
  · have eW : pm_W w e c n m x = pm_V w (pm_up e m x) c n n 0 m := by
      unfold pm_W pm_R
      rw [decide_eq_true h0, Bool.true_and]
    refine py_complete_t B0 Y0 h0 (br_f pm_f1 (And.intro (pk_in m 201 (by omega)) (nm_r (e' := upd fc m (nI x)) (by rw [nI_clamp (show m < 2 ^ 31 by omega)]) ?_)))
    rw [nI_1 m]
    refine py_work (e := pm_up e m x) b1 b2 (pm_n1 h0) (by omega) b4 (pm_ex (w := w) (e := pm_up e m x) b6 h0) h1 (pm_tokup h2) ?_ (fun hd' st' a => ?_)
    · intro u hu
      by_cases hum : u = m
      · rw [hum, pm_up_s]
        exact hx
      · rw [pm_up_n hum]
        exact b5 u (by omega)
    · refine And.intro (pk_in m 2814 (by omega)) ?_
      rw [nI_clamp (show m < 2 ^ 31 by omega), a m (by omega), ← eW]
      refine And.intro (pm_narrow _) (hp _ ⟨_, _, _, _, rfl, h1, fun j hj => ?_⟩)
      rw [pk_un (by omega)]
      exact h2 j hj
  · have eW : pm_W w e c n m x = false := by
      unfold pm_W
      rw [decide_eq_false h0, Bool.false_and]
    have hp' := hp _ Y0
    rw [eW] at hp'
    exact py_complete_f B0 Y0 h0 (br_t pm_t0 hp')
theorem py_alw {post : Int32 → SY → Prop} {w n m : Nat} {c e : Nat → Nat} (B : pm_B w n m c e) (hp : ∀ v', pm_Y w n m c e v' → post (nI (pm_cnt (pm_W w e c n m) 16)) v') : ∀ r x : Nat, x + r = 16 → ∀ tok fc hd st : Nat → Int32, (∀ j, j < n → tok j = nI (c j)) → (∀ j, j < m → fc j = nI (e j)) → wY_allowed_4 post (r + 1) (nI (pm_cnt (pm_W w e c n m) x)) (nI x) (nI w) (nI n) (nI m) tok fc hd st := by
  intro r
  induction r with
  | zero =>
    intro x hx tok fc hd st h1 h2
    have hx' : x = 16 := hx
    subst hx'
    exact pk_le 16 16 (fun _ => hp _ ⟨_, _, _, _, rfl, h1, h2⟩) (fun h => absurd h (by omega))
  | succ r ih =>
    intro x hx tok fc hd st h1 h2
    refine pk_le 16 x (fun h => absurd h (by omega)) (fun _ => ?_)
    refine py_would B ⟨_, _, _, _, rfl, h1, h2⟩ (by omega) (fun v' Y' => ?_)
    obtain ⟨tok', fc', hd', st', rfl, h1', h2'⟩ := Y'
    have ih' := ih (x + 1) (by omega) tok' fc' hd' st' h1' h2'
    have e1 : pm_cnt (pm_W w e c n m) (x + 1) = pm_cnt (pm_W w e c n m) x + pm_b (pm_W w e c n m x) := rfl
    rw [e1] at ih'
    cases hb : pm_W w e c n m x with
    | false =>
      rw [hb] at ih'
      exact br_t pm_t0 (nm_r (Int32.add_zero _) (nm_r (nI_1 x) ih'))
    | true =>
      rw [hb] at ih'
      exact br_f pm_f1 (nm_r (nI_1 _) (nm_r (nI_1 x) ih'))
theorem py_allowed {post : Int32 → SY → Prop} {w n m : Nat} {c e : Nat → Nat} {v : SY} (B : pm_B w n m c e) (Y : pm_Y w n m c e v) (hp : ∀ v', pm_Y w n m c e v' → post (nI (pm_cnt (pm_W w e c n m) 16)) v') : wpY_allowed post v := by
  obtain ⟨tok, fc, hd, st, rfl, h1, h2⟩ := Y
  exact Exists.intro 17 (py_alw B hp 16 0 (by omega) tok fc hd st h1 h2)
end
section
/-- both sides by the same naturals: window w, n tokens c, m events e -/
def i_Rel (k : Nat) (u : SX) (v : SY) : Prop := ∃ (w n m : Nat) (c e : Nat → Nat), pm_B w n m c e ∧ pm_X w n m c e u ∧ pm_Y w n m c e v
theorem i_up {k : Nat} {u : SX} {v : SY} (h : i_Rel k u v) : i_Rel (k + 2) u v := h
theorem pm_rel0 {w : Nat} (hw : w ≤ 12) : i_Rel 1 (nI w, 0, 0, (fun _ => 0), (fun _ => 0), (fun _ => 0), (fun _ => 0)) (nI w, 0, 0, (fun _ => 0), (fun _ => 0), (fun _ => 0), (fun _ => 0)) :=
  ⟨w, 0, 0, fun _ => 0, fun _ => 0, ⟨hw, by omega, by omega, fun j hj => absurd hj (by omega), fun j hj => absurd hj (by omega), fun j hj => absurd hj (by omega)⟩, ⟨_, _, _, _, rfl, fun j hj => absurd hj (by omega), fun j hj => absurd hj (by omega)⟩, ⟨_, _, _, _, rfl, fun j hj => absurd hj (by omega), fun j hj => absurd hj (by omega)⟩⟩
theorem i_vc0 (k0 : Int32) : wpX_init (fun u => wpY_init (fun v => i_Rel 1 u v) k0) k0 := by
  by_cases h0 : 0 ≤ k0
  · obtain ⟨j, hj, rfl⟩ := nI_of (x := k0) (Int32.not_lt.mpr h0)
    refine br_t h0 (pk_le j 12 (fun h => br_t h0 (pk_le j 12 (fun _ => pm_rel0 h) (fun z => absurd z (by omega)))) (fun h => br_t h0 (pk_le j 12 (fun z => absurd z (by omega)) (fun _ => pm_rel0 (w := 12) (by omega)))))
  · exact br_f h0 (br_f h0 (pm_rel0 (w := 0) (by omega)))
theorem i_vc_feed {k : Nat} {u : SX} {v : SY} (I : i_Rel k u v) (hk : k + 2 ≤ 1025) (v1 : Int32) : wpX_feed (fun r u' => wpY_feed (fun r' v' => r' = r ∧ i_Rel (k + 2) u' v') v v1) u v1 := by
  obtain ⟨w, n, m, c, e, B, X, Y⟩ := I
  have R : i_Rel (k + 2) u v := ⟨w, n, m, c, e, B, X, Y⟩
  by_cases hv : v1 < 0
  · exact px_feed_neg X hv (py_feed_neg Y hv ⟨rfl, R⟩)
  · obtain ⟨j, hj, rfl⟩ := nI_of hv
    by_cases h : 12 < j ∨ 14 ≤ n ∨ pm_N c n = 0
    · exact px_feed_no B X hj h (py_feed_no B Y hj h ⟨rfl, R⟩)
    · have h1 : j ≤ 12 := by omega
      have h2 : n < 14 := by omega
      have h3 : ¬ pm_N c n = 0 := by omega
      exact px_feed_ok B X h1 h2 h3 (fun u' X' => py_feed_ok B Y h1 h2 h3 (fun v' Y' => ⟨rfl, w, n + 1, m, _, e, pm_B_feed B h2 h1 h3, X', Y'⟩))
theorem i_vc_back {k : Nat} {u : SX} {v : SY} (I : i_Rel k u v) (hk : k + 2 ≤ 1025) : wpX_back (fun r u' => wpY_back (fun r' v' => r' = r ∧ i_Rel (k + 2) u' v') v) u := by
  obtain ⟨w, n, m, c, e, B, X, Y⟩ := I
  have R : i_Rel (k + 2) u v := ⟨w, n, m, c, e, B, X, Y⟩
  cases n with
  | zero => exact px_back0 X (py_back0 Y ⟨rfl, R⟩)
  | succ n =>
    have hn : n < 14 := by
      have := B.2.1
      omega
    exact px_back1 hn X (fun u' X' => py_back1 hn Y (fun v' Y' => ⟨rfl, w, n, m, c, e, pm_B_back B, X', Y'⟩))
theorem i_vc_complete {k : Nat} {u : SX} {v : SY} (I : i_Rel k u v) (hk : k + 2 ≤ 1025) : wpX_complete (fun r => wpY_complete (fun r' => r' = r ∧ i_Rel (k + 2) u v) v) u := by
  obtain ⟨w, n, m, c, e, B, X, Y⟩ := I
  have R : i_Rel (k + 2) u v := ⟨w, n, m, c, e, B, X, Y⟩
  exact px_complete B X (py_complete B Y ⟨rfl, R⟩)
theorem i_vc_window {k : Nat} {u : SX} {v : SY} (I : i_Rel k u v) (hk : k + 2 ≤ 1025) : wpX_window (fun r => wpY_window (fun r' => r' = r ∧ i_Rel (k + 2) u v) v) u := by
  obtain ⟨w, n, m, c, e, B, X, Y⟩ := I
  have R : i_Rel (k + 2) u v := ⟨w, n, m, c, e, B, X, Y⟩
  obtain ⟨tok, tk, hd, mem, rfl, x1, x2⟩ := X
  obtain ⟨tok', fc, hd', st, rfl, y1, y2⟩ := Y
  exact And.intro rfl R
theorem i_vc_event {k : Nat} {u : SX} {v : SY} (I : i_Rel k u v) (hk : k + 2 ≤ 1025) (v1 : Int32) : wpX_event (fun r u' => wpY_event (fun r' v' => r' = r ∧ i_Rel (k + 2) u' v') v v1) u v1 := by
  obtain ⟨w, n, m, c, e, B, X, Y⟩ := I
  have R : i_Rel (k + 2) u v := ⟨w, n, m, c, e, B, X, Y⟩
  by_cases hv : v1 < 0
  · exact px_event_neg X hv (py_event_neg Y hv ⟨rfl, R⟩)
  · obtain ⟨j, hj, rfl⟩ := nI_of hv
    by_cases h : 16 ≤ j
    · exact px_event_no X hj h (py_event_no Y hj h ⟨rfl, R⟩)
    · have h1 : j < 16 := by omega
      by_cases hm : m < 200
      · exact px_event_ok X hm h1 (fun u' X' => py_event_ok Y hm h1 (fun v' Y' => ⟨rfl, w, n, m + 1, c, _, pm_B_event B hm h1, X', Y'⟩))
      · have h200 : m = 200 := by
          have := B.2.2.1
          omega
        subst h200
        exact px_event_full X h1 (py_event_full Y h1 ⟨rfl, R⟩)
theorem i_vc_undo {k : Nat} {u : SX} {v : SY} (I : i_Rel k u v) (hk : k + 2 ≤ 1025) : wpX_undo (fun r u' => wpY_undo (fun r' v' => r' = r ∧ i_Rel (k + 2) u' v') v) u := by
  obtain ⟨w, n, m, c, e, B, X, Y⟩ := I
  have R : i_Rel (k + 2) u v := ⟨w, n, m, c, e, B, X, Y⟩
  cases m with
  | zero => exact px_undo0 X (py_undo0 Y ⟨rfl, R⟩)
  | succ m =>
    have hm : m < 200 := by
      have := B.2.2.1
      omega
    exact px_undo1 hm X (fun u' X' => py_undo1 hm Y (fun v' Y' => ⟨rfl, w, n, m, c, e, pm_B_less B (by omega), X', Y'⟩))
theorem i_vc_restart {k : Nat} {u : SX} {v : SY} (I : i_Rel k u v) (hk : k + 2 ≤ 1025) : wpX_restart (fun u' => wpY_restart (fun v' => i_Rel (k + 2) u' v') v) u := by
  obtain ⟨w, n, m, c, e, B, X, Y⟩ := I
  obtain ⟨tok, tk, hd, mem, rfl, x1, x2⟩ := X
  obtain ⟨tok', fc, hd', st, rfl, y1, y2⟩ := Y
  exact ⟨w, n, 0, c, e, pm_B_less B (Nat.zero_le _), ⟨_, _, _, _, rfl, x1, fun j hj => absurd hj (by omega)⟩, ⟨_, _, _, _, rfl, y1, fun j hj => absurd hj (by omega)⟩⟩
theorem i_vc_events {k : Nat} {u : SX} {v : SY} (I : i_Rel k u v) (hk : k + 2 ≤ 1025) : wpX_events (fun r => wpY_events (fun r' => r' = r ∧ i_Rel (k + 2) u v) v) u := by
  obtain ⟨w, n, m, c, e, B, X, Y⟩ := I
  have R : i_Rel (k + 2) u v := ⟨w, n, m, c, e, B, X, Y⟩
  obtain ⟨tok, tk, hd, mem, rfl, x1, x2⟩ := X
  obtain ⟨tok', fc, hd', st, rfl, y1, y2⟩ := Y
  exact And.intro rfl R
theorem i_vc_now {k : Nat} {u : SX} {v : SY} (I : i_Rel k u v) (hk : k + 2 ≤ 1025) : wpX_now (fun r u' => wpY_now (fun r' v' => r' = r ∧ i_Rel (k + 2) u' v') v) u := by
  obtain ⟨w, n, m, c, e, B, X, Y⟩ := I
  have R : i_Rel (k + 2) u v := ⟨w, n, m, c, e, B, X, Y⟩
  by_cases h0 : pm_N c n = 0
  · cases m with
    | zero => exact px_now0 B X (Or.inl rfl) (py_now0 B Y (Or.inl rfl) ⟨rfl, R⟩)
    | succ m => exact px_now1 B X h0 (fun u' X' => py_now1 B Y h0 (fun v' Y' => ⟨rfl, w, n, m + 1, c, e, B, X', Y'⟩))
  · exact px_now0 B X (Or.inr h0) (py_now0 B Y (Or.inr h0) ⟨rfl, R⟩)
theorem i_vc_at {k : Nat} {u : SX} {v : SY} (I : i_Rel k u v) (hk : k + 2 ≤ 1025) (v1 : Int32) : wpX_at (fun r u' => wpY_at (fun r' v' => r' = r ∧ i_Rel (k + 2) u' v') v v1) u v1 := by
  obtain ⟨w, n, m, c, e, B, X, Y⟩ := I
  have R : i_Rel (k + 2) u v := ⟨w, n, m, c, e, B, X, Y⟩
  by_cases hv : v1 < 0
  · exact px_at_neg X hv (py_at_neg Y hv ⟨rfl, R⟩)
  · obtain ⟨j, hj, rfl⟩ := nI_of hv
    by_cases h : m ≤ j ∨ ¬ pm_N c n = 0
    · exact px_at_no B X hj h (py_at_no B Y hj h ⟨rfl, R⟩)
    · have h1 : j < m := by omega
      have h0 : pm_N c n = 0 := by omega
      exact px_at B X h1 h0 (fun u' X' => py_at B Y h1 h0 (fun v' Y' => ⟨rfl, w, n, m, c, e, B, X', Y'⟩))
theorem i_vc_count {k : Nat} {u : SX} {v : SY} (I : i_Rel k u v) (hk : k + 2 ≤ 1025) : wpX_count (fun r u' => wpY_count (fun r' v' => r' = r ∧ i_Rel (k + 2) u' v') v) u := by
  obtain ⟨w, n, m, c, e, B, X, Y⟩ := I
  have R : i_Rel (k + 2) u v := ⟨w, n, m, c, e, B, X, Y⟩
  by_cases h0 : pm_N c n = 0
  · exact px_count B X h0 (fun u' X' => py_count B Y h0 (fun v' Y' => ⟨rfl, w, n, m, c, e, B, X', Y'⟩))
  · exact px_count0 B X h0 (py_count0 B Y h0 ⟨rfl, R⟩)
theorem i_vc_streak {k : Nat} {u : SX} {v : SY} (I : i_Rel k u v) (hk : k + 2 ≤ 1025) : wpX_streak (fun r u' => wpY_streak (fun r' v' => r' = r ∧ i_Rel (k + 2) u' v') v) u := by
  obtain ⟨w, n, m, c, e, B, X, Y⟩ := I
  have R : i_Rel (k + 2) u v := ⟨w, n, m, c, e, B, X, Y⟩
  by_cases h0 : pm_N c n = 0
  · exact px_streak B X h0 (fun u' X' => py_streak B Y h0 (fun v' Y' => ⟨rfl, w, n, m, c, e, B, X', Y'⟩))
  · exact px_streak0 B X h0 (py_streak0 B Y h0 ⟨rfl, R⟩)
theorem i_vc_violation {k : Nat} {u : SX} {v : SY} (I : i_Rel k u v) (hk : k + 2 ≤ 1025) (v1 : Int32) : wpX_violation (fun r u' => wpY_violation (fun r' v' => r' = r ∧ i_Rel (k + 2) u' v') v v1) u v1 := by
  obtain ⟨w, n, m, c, e, B, X, Y⟩ := I
  have R : i_Rel (k + 2) u v := ⟨w, n, m, c, e, B, X, Y⟩
  by_cases hv : v1 < 0
  · exact px_viol_neg X hv (py_viol_neg Y hv ⟨rfl, R⟩)
  · obtain ⟨j, hj, rfl⟩ := nI_of hv
    by_cases h0 : pm_N c n = 0
    · exact px_viol B X hj h0 (fun u' X' => py_viol B Y hj h0 (fun v' Y' => ⟨rfl, w, n, m, c, e, B, X', Y'⟩))
    · exact px_viol0 B X hj h0 (py_viol0 B Y hj h0 ⟨rfl, R⟩)
theorem i_vc_wouldHold {k : Nat} {u : SX} {v : SY} (I : i_Rel k u v) (hk : k + 2 ≤ 1025) (v1 : Int32) : wpX_wouldHold (fun r u' => wpY_wouldHold (fun r' v' => r' = r ∧ i_Rel (k + 2) u' v') v v1) u v1 := by
  obtain ⟨w, n, m, c, e, B, X, Y⟩ := I
  have R : i_Rel (k + 2) u v := ⟨w, n, m, c, e, B, X, Y⟩
  by_cases hv : v1 < 0
  · exact px_would_neg X hv (py_would_neg Y hv ⟨rfl, R⟩)
  · obtain ⟨j, hj, rfl⟩ := nI_of hv
    by_cases h : 16 ≤ j
    · exact px_would_no X hj h (py_would_no Y hj h ⟨rfl, R⟩)
    · have h1 : j < 16 := by omega
      exact px_would B X h1 (fun u' X' => py_would B Y h1 (fun v' Y' => ⟨rfl, w, n, m, c, e, B, X', Y'⟩))
theorem i_vc_allowed {k : Nat} {u : SX} {v : SY} (I : i_Rel k u v) (hk : k + 2 ≤ 1025) : wpX_allowed (fun r u' => wpY_allowed (fun r' v' => r' = r ∧ i_Rel (k + 2) u' v') v) u := by
  obtain ⟨w, n, m, c, e, B, X, Y⟩ := I
  have R : i_Rel (k + 2) u v := ⟨w, n, m, c, e, B, X, Y⟩
  exact px_allowed B X (fun u' X' => py_allowed B Y (fun v' Y' => ⟨rfl, w, n, m, c, e, B, X', Y'⟩))
end
