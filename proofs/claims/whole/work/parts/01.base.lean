theorem pk_us {f : Nat → Int32} {k : Nat} {x : Int32} : upd f k x k = x := if_pos rfl
theorem pk_un {f : Nat → Int32} {k j : Nat} {x : Int32} (h : j ≠ k) : upd f k x j = f j := if_neg h
theorem pk_sub {a b : Nat} (h : b ≤ a) : nI a - nI b = nI (a - b) := by
  obtain ⟨c, rfl⟩ : ∃ c, a = c + b := ⟨a - b, by omega⟩
  rw [← nI_add, Int32.add_sub_cancel, Nat.add_sub_cancel]
theorem pk_mul (a b : Nat) : nI a * nI b = nI (a * b) := (Int32.ofNat_mul a b).symm
theorem pk_ix (x : Int32) {n : Nat} (hn : n < 2 ^ 31) : x < 0 ∨ nI n ≤ x ∨ ∃ j : Nat, j < n ∧ x = nI j := by
  by_cases h : x < 0
  · exact Or.inl h
  · obtain ⟨j, hj, rfl⟩ := nI_of h
    by_cases h2 : j < n
    · exact Or.inr (Or.inr ⟨j, h2, rfl⟩)
    · exact Or.inr (Or.inl (nI_le (by omega) hj))
def bt (x : Int32) (i : Nat) : Bool := x.toBitVec.getLsbD i
theorem b_ext {x y : Int32} (h : ∀ i, i < 32 → bt x i = bt y i) : x = y := Int32.toBitVec_inj.mp (BitVec.eq_of_getLsbD_eq (fun i hi => h i hi))
theorem b_or (x y : Int32) (i : Nat) : bt (x ||| y) i = (bt x i || bt y i) := by unfold bt; rw [Int32.toBitVec_or, BitVec.getLsbD_or]
theorem b_and (x y : Int32) (i : Nat) : bt (x &&& y) i = (bt x i && bt y i) := by unfold bt; rw [Int32.toBitVec_and, BitVec.getLsbD_and]
theorem b_big {x : Int32} {i : Nat} (h : 32 ≤ i) : bt x i = false := BitVec.getLsbD_of_ge _ _ h
theorem b_0 (i : Nat) : bt 0 i = false := BitVec.getLsbD_zero
theorem s_l : ∀ n, n < 32 → ((nI n &&& 31).toBitVec.smod 32).toNat = n := by decide +kernel
theorem b_shl (n : Nat) (hn : n < 32) (x : Int32) {i : Nat} (hi : i < 32) : bt (x <<< (nI n &&& 31)) i = (decide (n ≤ i) && bt x (i - n)) := by
  unfold bt
  rw [Int32.toBitVec_shiftLeft]
  show (x.toBitVec <<< ((nI n &&& 31).toBitVec.smod 32).toNat).getLsbD i = _
  rw [s_l n hn, BitVec.getLsbD_shiftLeft]
  rcases Nat.lt_or_ge i n with h | h
  · simp [h, Nat.not_le.mpr h]
  · simp [hi, h, Nat.not_lt.mpr h]
theorem b_sshr (n : Nat) (hn : n < 32) (x : Int32) {i : Nat} (hi : i < 32) : bt (x >>> (nI n &&& 31)) i = if n + i < 32 then bt x (n + i) else bt x 31 := by
  unfold bt
  rw [Int32.toBitVec_shiftRight]
  show (x.toBitVec.sshiftRight ((nI n &&& 31).toBitVec.smod 32).toNat).getLsbD i = _
  rw [s_l n hn, BitVec.getLsbD_sshiftRight, BitVec.msb_eq_getLsbD_last]
  simp [hi]
theorem rl_40 : (40 : Int32) = nI 40 := by decide +kernel
theorem rl_ix1 (p a : Nat) : nI p * 40 + nI a = nI (p * 40 + a) := by rw [rl_40, pk_mul, nI_add]
theorem rl_ix2 (p a : Nat) : 40 * nI p + nI a = nI (p * 40 + a) := by rw [rl_40, pk_mul, nI_add, Nat.mul_comm]
theorem rl_in1 {p a : Nat} (hp : p < 5) (ha : a < 40) : vp_in (nI p * 40 + nI a) 200 := by rw [rl_ix1]; exact vp_in_nI (by omega) (by decide)
theorem rl_in2 {p a : Nat} (hp : p < 5) (ha : a < 40) : vp_in (40 * nI p + nI a) 200 := by rw [rl_ix2]; exact vp_in_nI (by omega) (by decide)
theorem rl_c1 {p a : Nat} (hp : p < 5) (ha : a < 40) : (nI p * 40 + nI a).toNatClampNeg = p * 40 + a := by rw [rl_ix1]; exact nI_clamp (by omega)
theorem rl_c2 {p a : Nat} (hp : p < 5) (ha : a < 40) : (40 * nI p + nI a).toNatClampNeg = p * 40 + a := by rw [rl_ix2]; exact nI_clamp (by omega)
theorem rl_cl5 {p : Nat} (hp : p < 5) : (nI p).toNatClampNeg = p := nI_clamp (by omega)
theorem rl_cl8 {p : Nat} (hp : p < 8) : (nI p).toNatClampNeg = p := nI_clamp (by omega)
theorem rl_inj {a b : Nat} (ha : a < 8) (hb : b < 8) (h : nI a = nI b) : a = b := (nI_eq (by omega) (by omega)).mp h
theorem rl_ne {a b : Nat} (ha : a < 8) (hb : b < 8) (h : a ≠ b) : ¬ nI a = nI b := fun z => h (rl_inj ha hb z)
theorem rl_upd_id (f : Nat → Int32) (k : Nat) : upd f k (f k) = f := by
  funext j
  by_cases h : j = k
  · subst h; exact pk_us
  · exact pk_un h
theorem rl_upd_id' {f : Nat → Int32} {k : Nat} {x : Int32} (h : f k = x) : upd f k x = f := by rw [← h]; exact rl_upd_id f k
/-- a cell's value: 0, 1 or 2 -/
def rl_V (x : Int32) : Prop := x = 0 ∨ x = 1 ∨ x = 2
/-- the bit of one owner -/
theorem rl_tw : ∀ p, p < 5 → ∀ i, i < 32 → bt ((1 : Int32) <<< (nI p &&& 31)) i = decide (i = p) := by decide +kernel
theorem rl_one : ∀ i, i < 32 → bt 1 i = decide (i = 0) := by decide +kernel
theorem rl_tX {x : Int32} {p : Nat} (hp : p < 5) : (x &&& ((1 : Int32) <<< (nI p &&& 31))) = 0 ↔ bt x p = false := by
  constructor
  · intro h
    have e : bt (x &&& ((1 : Int32) <<< (nI p &&& 31))) p = false := by rw [h]; exact b_0 p
    rw [b_and, rl_tw p hp p (by omega)] at e
    simpa using e
  · intro h
    apply b_ext
    intro i hi
    rw [b_and, rl_tw p hp i hi, b_0]
    by_cases z : i = p
    · subst z; rw [h]; rfl
    · rw [decide_eq_false z, Bool.and_false]
theorem rl_tY {x : Int32} {p : Nat} (hp : p < 5) : ((x >>> (nI p &&& 31)) &&& 1) = 1 ↔ bt x p = true := by
  constructor
  · intro h
    have e : bt ((x >>> (nI p &&& 31)) &&& 1) 0 = bt 1 0 := by rw [h]
    rw [b_and, b_sshr p (by omega) x (by omega), rl_one 0 (by omega), if_pos (by omega)] at e
    simpa using e
  · intro h
    apply b_ext
    intro i hi
    rw [b_and, rl_one i hi]
    by_cases z : i = 0
    · subst z; rw [b_sshr p (by omega) x (by omega), if_pos (by omega), Nat.add_zero, h]; rfl
    · rw [decide_eq_false z, Bool.and_false]
