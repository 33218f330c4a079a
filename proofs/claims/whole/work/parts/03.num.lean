theorem pm_nor (a b : Nat) : nI a ||| nI b = nI (a ||| b) := by
  apply Int32.toBitVec_inj.1
  show BitVec.ofNat 32 a ||| BitVec.ofNat 32 b = BitVec.ofNat 32 (a ||| b)
  apply BitVec.eq_of_getLsbD_eq
  intro i hi
  simp [hi]
theorem pm_ior (a b : Bool) : nI (pm_b a) ||| nI (pm_b b) = nI (pm_b (a || b)) := by cases a <;> cases b <;> decide +kernel
theorem pm_iand (a b : Bool) : nI (pm_b a) &&& nI (pm_b b) = nI (pm_b (a && b)) := by cases a <;> cases b <;> decide +kernel
theorem pm_inot (a : Bool) : 1 - nI (pm_b a) = nI (pm_b (!a)) := by cases a <;> decide +kernel
theorem pm_i0 (a : Bool) : nI (pm_b a) = 0 ↔ a = false := by cases a <;> decide +kernel
theorem pm_i1 (a : Bool) : nI (pm_b a) = 1 ↔ a = true := by cases a <;> decide +kernel
theorem pm_nar (a : Bool) : vp_nar .boolean (nI (pm_b a)) = nI (pm_b a) := by cases a <;> rfl
theorem pm_narrow (a : Bool) : narrow .boolean (.int (nI (pm_b a))) = .int (nI (pm_b a)) := by cases a <;> rfl
theorem pm_bs (a : Bool) : pm_b a < 2 ^ 31 := by cases a <;> decide
theorem pm_mask : ∀ w, w < 13 → (((2 : Int32) <<< (nI w &&& 31)) - 1).toBitVec.toNat = 2 ^ (w + 1) - 1 := by decide +kernel
theorem pm_fact : ∀ f, f < 16 → ∀ c, c < 4 → (nI f >>> (nI c &&& 31)) &&& 1 = nI (pm_b (decide (f / 2 ^ c % 2 = 1))) := by decide +kernel
theorem pm_sm : ∀ a, a < 3 → ((nI a &&& 31).toBitVec.smod 32).toNat = a := by decide +kernel
theorem pm_or1 (M : Nat) {b : Nat} (hb : b ≤ 1) : M * 2 ^ 1 ||| b = 2 * M + b := by
  have h := Nat.two_pow_add_eq_or_of_lt (i := 1) (b := b) (by omega) M
  rw [Nat.mul_comm M (2 ^ 1), ← h]
theorem pm_wstep {M w : Nat} (b : Bool) (hw : w ≤ 12) (h : M < 2 ^ (w + 1)) : ((nI M <<< ((1 : Int32) &&& 31)) ||| nI (pm_b b)) &&& (((2 : Int32) <<< (nI w &&& 31)) - 1) = nI ((2 * M + pm_b b) % 2 ^ (w + 1)) := by
  have h13 : 2 ^ (w + 1) ≤ 2 ^ 13 := Nat.pow_le_pow_right (by decide) (by omega)
  have hM : M < 8192 := Nat.lt_of_lt_of_le h h13
  have hb := pm_b_le b
  rw [pk_shlN _ 1 (by decide +kernel) (by omega), pm_nor, pm_or1 M hb, pk_andN (by omega) (w + 1) (pm_mask w (by omega))]
theorem pm_w1 {W : Nat} (h : W < 2 ^ 31) : nI W &&& 1 = nI (W % 2) := pk_andN (by omega) 1 (by decide +kernel)
theorem pm_w2 {W : Nat} (h : W < 2 ^ 31) : (nI W >>> ((1 : Int32) &&& 31)) &&& 1 = nI (W / 2 % 2) := by
  have h2 : W / 2 ≤ W := Nat.div_le_self _ _
  rw [pk_shrN h _ 1 (by decide +kernel), pm_w1 (by omega)]
theorem pm_w3 {W a : Nat} (h : W < 2 ^ 31) (ha : a ≤ 2) : nI W >>> (nI a &&& 31) = nI (W / 2 ^ a) := pk_shrN h _ a (pm_sm a (by omega))
theorem pm_w4 {O : Nat} (b : Bool) (h : O < 2 ^ 20) : (nI O <<< ((1 : Int32) &&& 31)) ||| nI (pm_b b) = nI (pm_b b + 2 * O) := by
  rw [pk_shlN _ 1 (by decide +kernel) (by omega), pm_nor, pm_or1 O (pm_b_le b), Nat.add_comm]
theorem pm_mis {N a : Nat} (h : 1 ≤ N) : nI N + (nI a - 1) = nI (N + a - 1) := by
  obtain ⟨M, rfl⟩ : ∃ M, N = M + 1 := ⟨N - 1, by omega⟩
  rw [show M + 1 + a - 1 = M + a by omega, ← nI_add M a, ← nI_1 M]
  generalize nI M = p
  generalize nI a = q
  clear h
  grind
theorem pm_bn {z : Nat} (h : z < 2) : z = pm_b (decide (z = 1)) := by
  have h2 : z = 0 ∨ z = 1 := by omega
  cases h2 with
  | inl h => rw [h]; rfl
  | inr h => rw [h]; rfl
