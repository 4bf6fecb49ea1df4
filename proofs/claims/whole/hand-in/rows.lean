section
theorem pk_us {f : Nat → Int32} {k : Nat} {x : Int32} : upd f k x k = x := if_pos rfl
theorem pk_un {f : Nat → Int32} {k j : Nat} {x : Int32} (h : j ≠ k) : upd f k x j = f j := if_neg h
theorem pk_sub {a b : Nat} (h : b ≤ a) : nI a - nI b = nI (a - b) := by
  obtain ⟨c, rfl⟩ : ∃ c, a = c + b := ⟨a - b, by omega⟩
  rw [← nI_add, Int32.add_sub_cancel, Nat.add_sub_cancel]
theorem pk_mul (a b : Nat) : nI a * nI b = nI (a * b) := (Int32.ofNat_mul a b).symm
theorem pk_ix (x : Int32) {n : Nat} (hn : n < 2 ^ 31) : x < 0 ∨ nI n ≤ x ∨ ∃ j : Nat, j < n ∧ x = nI j := by
  by_cases h : x < 0
  · exact Or.inl h
  · obtain ⟨j, hj, rfl⟩ := nI_of h
    by_cases h2 : j < n
    · exact Or.inr (Or.inr ⟨j, h2, rfl⟩)
    · exact Or.inr (Or.inl (nI_le (by omega) hj))
def bt (x : Int32) (i : Nat) : Bool := x.toBitVec.getLsbD i
theorem b_ext {x y : Int32} (h : ∀ i, i < 32 → bt x i = bt y i) : x = y := Int32.toBitVec_inj.mp (BitVec.eq_of_getLsbD_eq (fun i hi => h i hi))
theorem b_or (x y : Int32) (i : Nat) : bt (x ||| y) i = (bt x i || bt y i) := by unfold bt; rw [Int32.toBitVec_or, BitVec.getLsbD_or]
theorem b_and (x y : Int32) (i : Nat) : bt (x &&& y) i = (bt x i && bt y i) := by unfold bt; rw [Int32.toBitVec_and, BitVec.getLsbD_and]
theorem b_big {x : Int32} {i : Nat} (h : 32 ≤ i) : bt x i = false := BitVec.getLsbD_of_ge _ _ h
theorem b_0 (i : Nat) : bt 0 i = false := BitVec.getLsbD_zero
theorem s_l : ∀ n, n < 32 → ((nI n &&& 31).toBitVec.smod 32).toNat = n := by decide +kernel
theorem b_shl (n : Nat) (hn : n < 32) (x : Int32) {i : Nat} (hi : i < 32) : bt (x <<< (nI n &&& 31)) i = (decide (n ≤ i) && bt x (i - n)) := by
  unfold bt
  rw [Int32.toBitVec_shiftLeft]
  show (x.toBitVec <<< ((nI n &&& 31).toBitVec.smod 32).toNat).getLsbD i = _
  rw [s_l n hn, BitVec.getLsbD_shiftLeft]
  rcases Nat.lt_or_ge i n with h | h
  · simp [h, Nat.not_le.mpr h]
  · simp [hi, h, Nat.not_lt.mpr h]
theorem b_sshr (n : Nat) (hn : n < 32) (x : Int32) {i : Nat} (hi : i < 32) : bt (x >>> (nI n &&& 31)) i = if n + i < 32 then bt x (n + i) else bt x 31 := by
  unfold bt
  rw [Int32.toBitVec_shiftRight]
  show (x.toBitVec.sshiftRight ((nI n &&& 31).toBitVec.smod 32).toNat).getLsbD i = _
  rw [s_l n hn, BitVec.getLsbD_sshiftRight, BitVec.msb_eq_getLsbD_last]
  simp [hi]
theorem rl_40 : (40 : Int32) = nI 40 := by decide +kernel
theorem rl_ix1 (p a : Nat) : nI p * 40 + nI a = nI (p * 40 + a) := by rw [rl_40, pk_mul, nI_add]
theorem rl_ix2 (p a : Nat) : 40 * nI p + nI a = nI (p * 40 + a) := by rw [rl_40, pk_mul, nI_add, Nat.mul_comm]
theorem rl_in1 {p a : Nat} (hp : p < 5) (ha : a < 40) : vp_in (nI p * 40 + nI a) 200 := by rw [rl_ix1]; exact vp_in_nI (by omega) (by decide)
theorem rl_in2 {p a : Nat} (hp : p < 5) (ha : a < 40) : vp_in (40 * nI p + nI a) 200 := by rw [rl_ix2]; exact vp_in_nI (by omega) (by decide)
theorem rl_c1 {p a : Nat} (hp : p < 5) (ha : a < 40) : (nI p * 40 + nI a).toNatClampNeg = p * 40 + a := by rw [rl_ix1]; exact nI_clamp (by omega)
theorem rl_c2 {p a : Nat} (hp : p < 5) (ha : a < 40) : (40 * nI p + nI a).toNatClampNeg = p * 40 + a := by rw [rl_ix2]; exact nI_clamp (by omega)
theorem rl_cl5 {p : Nat} (hp : p < 5) : (nI p).toNatClampNeg = p := nI_clamp (by omega)
theorem rl_cl8 {p : Nat} (hp : p < 8) : (nI p).toNatClampNeg = p := nI_clamp (by omega)
theorem rl_inj {a b : Nat} (ha : a < 8) (hb : b < 8) (h : nI a = nI b) : a = b := (nI_eq (by omega) (by omega)).mp h
theorem rl_ne {a b : Nat} (ha : a < 8) (hb : b < 8) (h : a ≠ b) : ¬ nI a = nI b := fun z => h (rl_inj ha hb z)
theorem rl_upd_id (f : Nat → Int32) (k : Nat) : upd f k (f k) = f := by
  funext j
  by_cases h : j = k
  · subst h; exact pk_us
  · exact pk_un h
theorem rl_upd_id' {f : Nat → Int32} {k : Nat} {x : Int32} (h : f k = x) : upd f k x = f := by rw [← h]; exact rl_upd_id f k
/-- a cell's value: 0, 1 or 2 -/
def rl_V (x : Int32) : Prop := x = 0 ∨ x = 1 ∨ x = 2
/-- the bit of one owner -/
theorem rl_tw : ∀ p, p < 5 → ∀ i, i < 32 → bt ((1 : Int32) <<< (nI p &&& 31)) i = decide (i = p) := by decide +kernel
theorem rl_one : ∀ i, i < 32 → bt 1 i = decide (i = 0) := by decide +kernel
theorem rl_tX {x : Int32} {p : Nat} (hp : p < 5) : (x &&& ((1 : Int32) <<< (nI p &&& 31))) = 0 ↔ bt x p = false := by
  constructor
  · intro h
    have e : bt (x &&& ((1 : Int32) <<< (nI p &&& 31))) p = false := by rw [h]; exact b_0 p
    rw [b_and, rl_tw p hp p (by omega)] at e
    simpa using e
  · intro h
    apply b_ext
    intro i hi
    rw [b_and, rl_tw p hp i hi, b_0]
    by_cases z : i = p
    · subst z; rw [h]; rfl
    · rw [decide_eq_false z, Bool.and_false]
theorem rl_tY {x : Int32} {p : Nat} (hp : p < 5) : ((x >>> (nI p &&& 31)) &&& 1) = 1 ↔ bt x p = true := by
  constructor
  · intro h
    have e : bt ((x >>> (nI p &&& 31)) &&& 1) 0 = bt 1 0 := by rw [h]
    rw [b_and, b_sshr p (by omega) x (by omega), rl_one 0 (by omega), if_pos (by omega)] at e
    simpa using e
  · intro h
    apply b_ext
    intro i hi
    rw [b_and, rl_one i hi]
    by_cases z : i = 0
    · subst z; rw [b_sshr p (by omega) x (by omega), if_pos (by omega), Nat.add_zero, h]; rfl
    · rw [decide_eq_false z, Bool.and_false]
end
section
/-! closed sets over five nodes: E p is the set of the nodes to which one gets from p -/
def cs_cl (E : Nat → Int32) (S : Nat → Prop) : Prop := ∀ p, p < 5 → S p → ∀ q, q < 5 → bt (E p) q = true → S q
def cs_sw (E : Nat → Int32) (R R' : Int32) : Prop :=
  (∀ q, q < 5 → bt R q = true → bt R' q = true) ∧ (∀ p, p < 5 → bt R p = true → ∀ q, q < 5 → bt (E p) q = true → bt R' q = true) ∧
  (∀ S, cs_cl E S → (∀ q, q < 5 → bt R q = true → S q) → ∀ q, q < 5 → bt R' q = true → S q)
def cs_n (R : Int32) : Nat := (bt R 0).toNat + (bt R 1).toNat + (bt R 2).toNat + (bt R 3).toNat + (bt R 4).toNat
theorem cs_b {a b : Bool} (h : a = true → b = true) : a.toNat ≤ b.toNat := by
  cases a
  · exact Nat.zero_le _
  · rw [h rfl]; exact Nat.le_refl _
theorem cs_t {a : Bool} (h : 1 ≤ a.toNat) : a = true := by
  cases a
  · exact absurd h (by decide)
  · rfl
theorem cs_le1 (a : Bool) : a.toNat ≤ 1 := by cases a <;> decide
theorem cs_f {a b : Bool} (h : a = true → b = true) (e : a.toNat = b.toNat) : b = true → a = true := by
  intro z
  rw [z] at e
  exact cs_t (by rw [e]; decide)
theorem cs_step {E : Nat → Int32} {R R' : Int32} {k : Nat} (h : cs_sw E R R') (hk : cs_cl E (fun q => bt R q = true) ∨ k ≤ cs_n R) : cs_cl E (fun q => bt R' q = true) ∨ k + 1 ≤ cs_n R' := by
  obtain ⟨h1, h2, h3⟩ := h
  have l0 := cs_b (h1 0 (by decide))
  have l1 := cs_b (h1 1 (by decide))
  have l2 := cs_b (h1 2 (by decide))
  have l3 := cs_b (h1 3 (by decide))
  have l4 := cs_b (h1 4 (by decide))
  rcases hk with hc | hk
  · refine Or.inl (fun p hp sp q hq hb => ?_)
    have := h3 _ hc (fun q _ z => z) p hp sp
    exact h2 p hp this q hq hb
  · by_cases e : cs_n R' = cs_n R
    · refine Or.inl (fun p hp sp q hq hb => ?_)
      refine h2 p hp ?_ q hq hb
      unfold cs_n at e
      have hp' : p = 0 ∨ p = 1 ∨ p = 2 ∨ p = 3 ∨ p = 4 := by omega
      rcases hp' with rfl | rfl | rfl | rfl | rfl
      · exact cs_f (h1 0 (by decide)) (by omega) sp
      · exact cs_f (h1 1 (by decide)) (by omega) sp
      · exact cs_f (h1 2 (by decide)) (by omega) sp
      · exact cs_f (h1 3 (by decide)) (by omega) sp
      · exact cs_f (h1 4 (by decide)) (by omega) sp
    · right
      unfold cs_n at e hk ⊢
      omega
theorem cs_full {E : Nat → Int32} {R : Int32} (h : 5 ≤ cs_n R) : cs_cl E (fun q => bt R q = true) := by
  intro p _ _ q hq _
  unfold cs_n at h
  have l0 := cs_le1 (bt R 0)
  have l1 := cs_le1 (bt R 1)
  have l2 := cs_le1 (bt R 2)
  have l3 := cs_le1 (bt R 3)
  have l4 := cs_le1 (bt R 4)
  have hq' : q = 0 ∨ q = 1 ∨ q = 2 ∨ q = 3 ∨ q = 4 := by omega
  rcases hq' with rfl | rfl | rfl | rfl | rfl <;> exact cs_t (by omega)
def cs_it (F : Int32 → Int32) : Nat → Int32 → Int32
  | 0, R => R
  | m + 1, R => cs_it F m (F R)
theorem cs_it_n {E : Nat → Int32} {F : Int32 → Int32} (hF : ∀ R, cs_sw E R (F R)) : ∀ m k R, (cs_cl E (fun q => bt R q = true) ∨ k ≤ cs_n R) → (cs_cl E (fun q => bt (cs_it F m R) q = true) ∨ k + m ≤ cs_n (cs_it F m R)) := by
  intro m
  induction m with
  | zero => intro k R h; exact h
  | succ m ih =>
    intro k R h
    have := ih (k + 1) (F R) (cs_step (hF R) h)
    rw [show k + (m + 1) = k + 1 + m from by omega]
    exact this
theorem cs_it_c {E : Nat → Int32} {F : Int32 → Int32} (hF : ∀ R, cs_sw E R (F R)) (R : Int32) : cs_cl E (fun q => bt (cs_it F 5 R) q = true) := by
  rcases cs_it_n hF 5 0 R (Or.inr (Nat.zero_le _)) with h | h
  · exact h
  · exact cs_full (by omega)
theorem cs_it_s {E : Nat → Int32} {F : Int32 → Int32} (hF : ∀ R, cs_sw E R (F R)) : ∀ m R q, q < 5 → bt R q = true → bt (cs_it F m R) q = true := by
  intro m
  induction m with
  | zero => intro R q _ h; exact h
  | succ m ih => intro R q hq h; exact ih (F R) q hq ((hF R).1 q hq h)
theorem cs_it_m {E : Nat → Int32} {F : Int32 → Int32} (hF : ∀ R, cs_sw E R (F R)) {S : Nat → Prop} (hS : cs_cl E S) : ∀ m R, (∀ q, q < 5 → bt R q = true → S q) → ∀ q, q < 5 → bt (cs_it F m R) q = true → S q := by
  intro m
  induction m with
  | zero => intro R h; exact h
  | succ m ih => intro R h; exact ih (F R) ((hF R).2.2 S hS h)
/-- the class's sweep -/
def cs_g (E : Nat → Int32) : Nat → Nat → Int32 → Int32
  | 0, _, R => R
  | m + 1, p, R => cs_g E m (p + 1) (if bt R p = true then R ||| E p else R)
/-- the reference's sweep -/
def cs_j (E : Nat → Int32) (B : Int32) : Nat → Nat → Int32 → Int32
  | 0, _, R => R
  | m + 1, p, R => cs_j E B m (p + 1) (if bt B p = true then R ||| E p else R)
theorem cs_or1 {x y : Int32} {q : Nat} (h : bt x q = true) : bt (x ||| y) q = true := by rw [b_or, h]; rfl
theorem cs_or2 {x y : Int32} {q : Nat} (h : bt y q = true) : bt (x ||| y) q = true := by rw [b_or, h]; exact Bool.or_true _
theorem cs_or3 {x y : Int32} {q : Nat} (h : bt (x ||| y) q = true) : bt x q = true ∨ bt y q = true := by rw [b_or] at h; simpa using h
theorem cs_g_1 (E : Nat → Int32) : ∀ m p R q, bt R q = true → bt (cs_g E m p R) q = true := by
  intro m
  induction m with
  | zero => intro p R q h; exact h
  | succ m ih =>
    intro p R q h
    refine ih (p + 1) _ q ?_
    by_cases z : bt R p = true
    · rw [if_pos z]; exact cs_or1 h
    · rw [if_neg z]; exact h
theorem cs_g_2 (E : Nat → Int32) : ∀ m p R p', p ≤ p' → p' < p + m → bt R p' = true → ∀ q, bt (E p') q = true → bt (cs_g E m p R) q = true := by
  intro m
  induction m with
  | zero => intro p R p' h1 h2; omega
  | succ m ih =>
    intro p R p' h1 h2 hb q hq
    by_cases e : p' = p
    · subst e
      show bt (cs_g E m (p' + 1) _) q = true
      rw [if_pos hb]
      exact cs_g_1 E m _ _ q (cs_or2 hq)
    · refine ih (p + 1) _ p' (by omega) (by omega) ?_ q hq
      by_cases z : bt R p = true
      · rw [if_pos z]; exact cs_or1 hb
      · rw [if_neg z]; exact hb
theorem cs_g_3 {E : Nat → Int32} {S : Nat → Prop} (hS : cs_cl E S) : ∀ m p R, p + m ≤ 5 → (∀ q, q < 5 → bt R q = true → S q) → ∀ q, q < 5 → bt (cs_g E m p R) q = true → S q := by
  intro m
  induction m with
  | zero => intro p R _ h; exact h
  | succ m ih =>
    intro p R hp h
    refine ih (p + 1) _ (by omega) ?_
    intro q hq hb
    by_cases z : bt R p = true
    · rw [if_pos z] at hb
      rcases cs_or3 hb with hb | hb
      · exact h q hq hb
      · exact hS p (by omega) (h p (by omega) z) q hq hb
    · rw [if_neg z] at hb; exact h q hq hb
theorem cs_g_sw (E : Nat → Int32) (R : Int32) : cs_sw E R (cs_g E 5 0 R) :=
  ⟨fun q _ h => cs_g_1 E 5 0 R q h, fun p hp h q _ hb => cs_g_2 E 5 0 R p (Nat.zero_le _) (by omega) h q hb, fun S hS h => cs_g_3 hS 5 0 R (by omega) h⟩
theorem cs_j_1 (E : Nat → Int32) (B : Int32) : ∀ m p R q, bt R q = true → bt (cs_j E B m p R) q = true := by
  intro m
  induction m with
  | zero => intro p R q h; exact h
  | succ m ih =>
    intro p R q h
    refine ih (p + 1) _ q ?_
    by_cases z : bt B p = true
    · rw [if_pos z]; exact cs_or1 h
    · rw [if_neg z]; exact h
theorem cs_j_2 (E : Nat → Int32) (B : Int32) : ∀ m p R p', p ≤ p' → p' < p + m → bt B p' = true → ∀ q, bt (E p') q = true → bt (cs_j E B m p R) q = true := by
  intro m
  induction m with
  | zero => intro p R p' h1 h2; omega
  | succ m ih =>
    intro p R p' h1 h2 hb q hq
    by_cases e : p' = p
    · subst e
      show bt (cs_j E B m (p' + 1) _) q = true
      rw [if_pos hb]
      exact cs_j_1 E B m _ _ q (cs_or2 hq)
    · exact ih (p + 1) _ p' (by omega) (by omega) hb q hq
theorem cs_j_3 {E : Nat → Int32} {B : Int32} {S : Nat → Prop} (hS : cs_cl E S) (hB : ∀ q, q < 5 → bt B q = true → S q) : ∀ m p R, p + m ≤ 5 → (∀ q, q < 5 → bt R q = true → S q) → ∀ q, q < 5 → bt (cs_j E B m p R) q = true → S q := by
  intro m
  induction m with
  | zero => intro p R _ h; exact h
  | succ m ih =>
    intro p R hp h
    refine ih (p + 1) _ (by omega) ?_
    intro q hq hb
    by_cases z : bt B p = true
    · rw [if_pos z] at hb
      rcases cs_or3 hb with hb | hb
      · exact h q hq hb
      · exact hS p (by omega) (hB p (by omega) z) q hq hb
    · rw [if_neg z] at hb; exact h q hq hb
theorem cs_j_sw (E : Nat → Int32) (R : Int32) : cs_sw E R (cs_j E R 5 0 R) :=
  ⟨fun q _ h => cs_j_1 E R 5 0 R q h, fun p hp h q _ hb => cs_j_2 E R 5 0 R p (Nat.zero_le _) (by omega) h q hb, fun S hS h => cs_j_3 hS h 5 0 R (by omega) h⟩
/-- what the class reaches from B, and what the reference reaches from B in one or more steps, agree on each node outside B -/
theorem cs_same (E : Nat → Int32) (B : Int32) {o : Nat} (ho : o < 5) (hB : bt B o = false) : bt (cs_it (cs_g E 5 0) 5 B) o = true ↔ bt (cs_it (fun R => cs_j E R 5 0 R) 5 (cs_j E B 5 0 0)) o = true := by
  have hX := cs_it_c (cs_g_sw E) B
  have hY := cs_it_c (F := fun R => cs_j E R 5 0 R) (cs_j_sw E) (cs_j E B 5 0 0)
  constructor
  · intro h
    have hS : cs_cl E (fun q => bt B q = true ∨ bt (cs_it (fun R => cs_j E R 5 0 R) 5 (cs_j E B 5 0 0)) q = true) := by
      intro p hp sp q hq hb
      rcases sp with sp | sp
      · exact Or.inr (cs_it_s (cs_j_sw E) 5 _ q hq (cs_j_2 E B 5 0 0 p (Nat.zero_le _) (by omega) sp q hb))
      · exact Or.inr (hY p hp sp q hq hb)
    rcases cs_it_m (cs_g_sw E) hS 5 B (fun q _ z => Or.inl z) o ho h with z | z
    · rw [hB] at z; exact absurd z (by decide)
    · exact z
  · intro h
    have hBX : ∀ q, q < 5 → bt B q = true → bt (cs_it (cs_g E 5 0) 5 B) q = true := cs_it_s (cs_g_sw E) 5 B
    refine cs_it_m (F := fun R => cs_j E R 5 0 R) (cs_j_sw E) hX 5 _ ?_ o ho h
    refine cs_j_3 hX hBX 5 0 0 (by omega) ?_
    intro q _ z
    rw [b_0] at z
    exact absurd z (by decide)
end
section
/-! opponents (class) and against (reference): one pure value -/
def op_h (ty x : Int32) : Bool := decide ((ty = 2 ∧ ¬ x = 0) ∨ (ty = 1 ∧ x = 2))
def op_i (c : Nat → Int32) (ty : Int32) (p : Nat) : Nat → Nat → Int32 → Int32
  | 0, _, f => f
  | m + 1, a, f => op_i c ty p m (a + 1) (if op_h ty (c (p * 40 + a)) = true then f ||| ((1 : Int32) <<< (nI p &&& 31)) else f)
def op_o (c : Nat → Int32) (ty : Int32) (o s l : Nat) : Nat → Nat → Int32 → Int32
  | 0, _, f => f
  | r + 1, p, f => op_o c ty o s l r (p + 1) (if p = o then f else op_i c ty p l s f)
def op_v (c : Nat → Int32) (ty : Int32) (o s l : Nat) : Int32 := op_o c ty o s l 5 0 0
theorem op_h0 (x : Int32) : op_h 0 x = false := decide_eq_false (by
  rintro (⟨h, _⟩ | ⟨h, _⟩)
  · exact absurd h (by decide)
  · exact absurd h (by decide))
theorem op_h1 {x : Int32} (h : rl_V x) : (x < 2 ↔ op_h 1 x = false) := by
  rcases h with rfl | rfl | rfl <;> decide
theorem op_h2 {x : Int32} (h : rl_V x) : (x < 1 ↔ op_h 2 x = false) := by
  rcases h with rfl | rfl | rfl <;> decide
theorem op_i0 (c : Nat → Int32) (p : Nat) : ∀ m a f, op_i c 0 p m a f = f := by
  intro m
  induction m with
  | zero => intro a f; rfl
  | succ m ih =>
    intro a f
    show op_i c 0 p m (a + 1) _ = f
    rw [op_h0, if_neg (by decide)]
    exact ih _ _
theorem op_o0 (c : Nat → Int32) (o s l : Nat) : ∀ r p f, op_o c 0 o s l r p f = f := by
  intro r
  induction r with
  | zero => intro p f; rfl
  | succ r ih =>
    intro p f
    show op_o c 0 o s l r (p + 1) _ = f
    rw [op_i0, ite_self]
    exact ih _ _
theorem op_v0 (c : Nat → Int32) (o s l : Nat) : op_v c 0 o s l = 0 := op_o0 c o s l 5 0 0
/-- the owner itself is never among its opponents -/
theorem op_ib (c : Nat → Int32) (ty : Int32) {p q : Nat} (hp : p < 5) (hq : q < 5) (hn : q ≠ p) : ∀ m a f, bt f q = false → bt (op_i c ty p m a f) q = false := by
  intro m
  induction m with
  | zero => intro a f h; exact h
  | succ m ih =>
    intro a f h
    refine ih _ _ ?_
    by_cases z : op_h ty (c (p * 40 + a)) = true
    · rw [if_pos z, b_or, h, rl_tw p hp q (by omega), decide_eq_false hn]; rfl
    · rw [if_neg z]; exact h
theorem op_ob (c : Nat → Int32) (ty : Int32) {o : Nat} (s l : Nat) (ho : o < 5) : ∀ r p f, p + r = 5 → bt f o = false → bt (op_o c ty o s l r p f) o = false := by
  intro r
  induction r with
  | zero => intro p f _ h; exact h
  | succ r ih =>
    intro p f hp h
    refine ih _ _ (by omega) ?_
    by_cases z : p = o
    · rw [if_pos z]; exact h
    · rw [if_neg z]; exact op_ib c ty (by omega) ho (fun e => z e.symm) _ _ _ h
theorem op_vb (c : Nat → Int32) (ty : Int32) {o : Nat} (s l : Nat) (ho : o < 5) : bt (op_v c ty o s l) o = false := op_ob c ty s l ho 5 0 0 rfl (b_0 o)
theorem ox_i {post : Int32 → Prop} {J : Int32 → Int32 → Prop} {ty lo : Int32} {o p e : Nat} (hp : p < 5) (ho : o < 5) (he : e ≤ 40) (x2 : Int32) (hl : ∀ x, rl_V x → (x < lo ↔ op_h ty x = false)) {ll : Int32} {c ws wl wt ln : Nat → Int32} (hc : ∀ j, rl_V (c j)) :
    ∀ m a f, a + m = e → J (if p = o then f else op_i c ty p m a f) (nI (p + 1)) → wX_opponents_40 post J (nI o) x2 lo (nI e) (nI p) ll c ws wl wt ln (m + 1) f (nI a) := by
  intro m
  induction m with
  | zero =>
    intro a f ha h
    refine br_t (nI_le (by omega) (by omega)) (nm_r (nI_1 p) ?_)
    rw [show op_i c ty p 0 a f = f from rfl, ite_self] at h
    exact h
  | succ m ih =>
    intro a f ha h
    refine br_f (nI_ge (by omega) (by omega)) ?_
    by_cases z : p = o
    · refine br_t (congrArg nI z) (nm_r (nI_1 a) (ih (a + 1) f (by omega) ?_))
      rw [if_pos z] at h ⊢
      exact h
    · refine br_f (rl_ne (by omega) (by omega) z) ⟨rl_in1 hp (by omega), ?_⟩
      rw [if_neg z] at h
      rw [rl_c1 hp (by omega)]
      by_cases y : c (p * 40 + a) < lo
      · refine br_t y (nm_r (nI_1 a) (ih (a + 1) f (by omega) ?_))
        rw [if_neg z]
        have e : op_i c ty p (m + 1) a f = op_i c ty p m (a + 1) f := by
          show op_i c ty p m (a + 1) _ = _
          rw [(hl _ (hc _)).mp y, if_neg (by decide)]
        rw [e] at h
        exact h
      · refine br_f y (nm_e (nm_r (nI_1 a) (ih (a + 1) _ (by omega) ?_)))
        rw [if_neg z]
        have e : op_i c ty p (m + 1) a f = op_i c ty p m (a + 1) (f ||| ((1 : Int32) <<< (nI p &&& 31))) := by
          show op_i c ty p m (a + 1) _ = _
          rw [if_pos]
          cases w : op_h ty (c (p * 40 + a))
          · exact absurd ((hl _ (hc _)).mpr w) y
          · rfl
        rw [e] at h
        exact h
theorem ox_o {post : Int32 → Prop} {ty lo : Int32} {o s l : Nat} (ho : o < 5) (he : s + l ≤ 40) (hl : ∀ x, rl_V x → (x < lo ↔ op_h ty x = false)) {ll : Int32} {c ws wl wt ln : Nat → Int32} (hc : ∀ j, rl_V (c j)) :
    ∀ r p f, p + r = 5 → post (op_o c ty o s l r p f) → wX_opponents_31 post (nI o) (nI s) lo (nI (s + l)) ll c ws wl wt ln (r + 1) f (nI p) := by
  intro r
  induction r with
  | zero =>
    intro p f hp h
    exact br_t (nI_le (a := 5) (by omega) (by omega)) h
  | succ r ih =>
    intro p f hp h
    exact br_f (nI_ge (b := 5) (by omega) (by omega)) ⟨l + 1, ox_i (by omega) ho he _ hl hc l s f rfl (ih (p + 1) _ (by omega) h)⟩
theorem ox_0 {post : Int32 → Prop} (u : SX) (p0 p1 p2 : Int32) (h : post 0) : wpX_opponents post u p0 p1 p2 0 := by
  obtain ⟨ll, c, ws, wl, wt, ln⟩ := u
  exact br_t rfl h
theorem ox_v {post : Int32 → Prop} {ty : Int32} {o s l : Nat} (ho : o < 5) (he : s + l ≤ 40) (hty : rl_V ty) {ll : Int32} {c ws wl wt ln : Nat → Int32} (hc : ∀ j, rl_V (c j)) (h : post (op_v c ty o s l)) : wpX_opponents post (ll, c, ws, wl, wt, ln) (nI o) (nI s) (nI l) ty := by
  rcases hty with rfl | rfl | rfl
  · rw [op_v0] at h
    exact ox_0 _ _ _ _ h
  · exact br_f (by decide) (br_t rfl (nm_r (nI_add s l) ⟨6, ox_o ho he (fun x hx => op_h1 hx) hc 5 0 0 rfl h⟩))
  · exact br_f (by decide) (br_f (by decide) (nm_r (nI_add s l) ⟨6, ox_o ho he (fun x hx => op_h2 hx) hc 5 0 0 rfl h⟩))
theorem oy_c {post : Int32 → Prop} {q : Int32} {t wh fi ma ki ou : Nat → Int32} (ty x : Int32) (h : post (if op_h ty x = true then 1 else 0)) : wpY_clash post (q, t, wh, fi, ma, ki, ou) ty x := by
  have h9 : ¬ (ty = 2 ∧ ¬ x = 0) → wY_clash_9 post ty x q t wh fi ma ki ou := by
    intro n
    by_cases y : ty = 1
    · refine br_t y ?_
      by_cases z : x = 2
      · rw [show op_h ty x = true from decide_eq_true (Or.inr ⟨y, z⟩), if_pos rfl] at h
        exact br_t z h
      · rw [show op_h ty x = false from decide_eq_false (fun w => w.elim n (fun w => z w.2)), if_neg (by decide)] at h
        exact br_f z h
    · rw [show op_h ty x = false from decide_eq_false (fun w => w.elim n (fun w => y w.1)), if_neg (by decide)] at h
      exact br_f y h
  by_cases y : ty = 2
  · refine br_t y ?_
    by_cases z : x = 0
    · exact br_t z (h9 (fun w => w.2 z))
    · rw [show op_h ty x = true from decide_eq_true (Or.inl ⟨y, z⟩), if_pos rfl] at h
      exact br_f z h
  · exact br_f y (h9 (fun w => y w.1))
theorem oy_i {post : Int32 → Prop} {J : Int32 → Int32 → Prop} {ty : Int32} {o p s l : Nat} (hp : p < 5) (ho : o < 5) (he : s + l ≤ 40) {q : Int32} {t wh fi ma ki ou : Nat → Int32} :
    ∀ m a f, a + m = s + l → J (if p = o then f else op_i t ty p m a f) (nI (p + 1)) → wY_against_15 post J (nI o) (nI s) (nI l) ty (nI p) q t wh fi ma ki ou (m + 1) f (nI a) := by
  intro m
  induction m with
  | zero =>
    intro a f ha h
    refine br_t (by rw [nI_add]; exact nI_le (by omega) (by omega)) (nm_r (nI_1 p) ?_)
    rw [show op_i t ty p 0 a f = f from rfl, ite_self] at h
    exact h
  | succ m ih =>
    intro a f ha h
    refine br_f (by rw [nI_add]; exact nI_ge (by omega) (by omega)) ?_
    by_cases z : p = o
    · refine br_t (congrArg nI z) (nm_r (nI_1 a) (ih (a + 1) f (by omega) ?_))
      rw [if_pos z] at h ⊢
      exact h
    · refine br_f (rl_ne (by omega) (by omega) z) ⟨rl_in2 hp (by omega), ?_⟩
      rw [if_neg z] at h
      rw [rl_c2 hp (by omega)]
      refine oy_c ty _ ?_
      cases w : op_h ty (t (p * 40 + a))
      · rw [if_neg (by decide)]
        refine br_t rfl (nm_r (nI_1 a) (ih (a + 1) f (by omega) ?_))
        rw [if_neg z]
        have e : op_i t ty p (m + 1) a f = op_i t ty p m (a + 1) f := by
          show op_i t ty p m (a + 1) _ = _
          rw [w, if_neg (by decide)]
        rw [e] at h
        exact h
      · rw [if_pos rfl]
        refine br_f (by decide) (nm_e (nm_r (nI_1 a) (ih (a + 1) _ (by omega) ?_)))
        rw [if_neg z]
        have e : op_i t ty p (m + 1) a f = op_i t ty p m (a + 1) (f ||| ((1 : Int32) <<< (nI p &&& 31))) := by
          show op_i t ty p m (a + 1) _ = _
          rw [w, if_pos rfl]
        rw [e] at h
        exact h
theorem oy_o {post : Int32 → Prop} {ty : Int32} {o s l : Nat} (ho : o < 5) (he : s + l ≤ 40) {q : Int32} {t wh fi ma ki ou : Nat → Int32} :
    ∀ r p f, p + r = 5 → post (op_o t ty o s l r p f) → wY_against_6 post (nI o) (nI s) (nI l) ty q t wh fi ma ki ou (r + 1) f (nI p) := by
  intro r
  induction r with
  | zero =>
    intro p f hp h
    exact br_t (nI_le (a := 5) (by omega) (by omega)) h
  | succ r ih =>
    intro p f hp h
    exact br_f (nI_ge (b := 5) (by omega) (by omega)) ⟨l + 1, oy_i (by omega) ho he l s f rfl (ih (p + 1) _ (by omega) h)⟩
theorem oy_v {post : Int32 → Prop} {ty : Int32} {o s l : Nat} (ho : o < 5) (he : s + l ≤ 40) {q : Int32} {t wh fi ma ki ou : Nat → Int32} (h : post (op_v t ty o s l)) : wpY_against post (q, t, wh, fi, ma, ki, ou) (nI o) (nI s) (nI l) ty :=
  ⟨6, oy_o ho he 5 0 0 rfl h⟩
end
section
/-! the relation, and what keeps it -/
def qu_E (ws wl wt ln fi ma ki : Nat → Int32) (i o : Nat) : Prop :=
  o < 5 ∧ ln i = nI o ∧ (∃ s l : Nat, ws o = nI s ∧ wl o = nI l ∧ s + l ≤ 40) ∧ (wt o = 1 ∨ wt o = 2) ∧ fi i = ws o ∧ ma i = wl o ∧ ki i = wt o
def qu_I (n : Nat) (c ws wl wt ln fi ma ki : Nat → Int32) : Prop :=
  n ≤ 5 ∧ (∀ j, rl_V (c j)) ∧ (∀ i, i < n → ∃ o, qu_E ws wl wt ln fi ma ki i o) ∧ (∀ i j, i < j → j < n → ¬ ln i = ln j) ∧ (∀ o, o < 5 → wt o = 0 ∨ ∃ i, i < n ∧ ln i = nI o)
def i_Rel (_ : Nat) (u : SX) (v : SY) : Prop :=
  ∃ (n : Nat) (c ws wl wt ln fi ma ki ou : Nat → Int32), u = (nI n, c, ws, wl, wt, ln) ∧ v = (nI n, c, ln, fi, ma, ki, ou) ∧ qu_I n c ws wl wt ln fi ma ki
theorem i_up {k : Nat} {u : SX} {v : SY} (h : i_Rel k u v) : i_Rel (k + 5) u v := h
theorem qu_0 : qu_I 0 (fun _ => 0) (fun _ => 0) (fun _ => 0) (fun _ => 0) (fun _ => 0) (fun _ => 0) (fun _ => 0) (fun _ => 0) :=
  ⟨by omega, fun _ => Or.inl rfl, fun i hi => absurd hi (by omega), fun i j _ hj => absurd hj (by omega), fun _ _ => Or.inl rfl⟩
theorem i_vc0 : wpX_init (fun u => wpY_init (fun v => i_Rel 0 u v)) :=
  ⟨0, _, _, _, _, _, _, _, _, _, rfl, rfl, qu_0⟩
section
variable {n : Nat} {c ws wl wt ln fi ma ki : Nat → Int32}
theorem qu_w (h : qu_I n c ws wl wt ln fi ma ki) {o : Nat} (ho : o < 5) : wt o = 0 ∨ ((∃ s l : Nat, ws o = nI s ∧ wl o = nI l ∧ s + l ≤ 40) ∧ (wt o = 1 ∨ wt o = 2)) := by
  obtain ⟨_, _, h3, _, h5⟩ := h
  rcases h5 o ho with z | ⟨i, hi, e⟩
  · exact Or.inl z
  · obtain ⟨o', h1, h2, h3, h4, _⟩ := h3 i hi
    have : o = o' := rl_inj (by omega) (by omega) (e.symm.trans h2)
    subst this
    exact Or.inr ⟨h3, h4⟩
/-- an owner with a wanted type stands in the line, and one without does not -/
theorem qu_on (h : qu_I n c ws wl wt ln fi ma ki) {i o : Nat} (hi : i < n) (ho : o < 5) (e : ln i = nI o) : ¬ wt o = 0 := by
  obtain ⟨o', h1, h2, _, h4, _⟩ := h.2.2.1 i hi
  have : o = o' := rl_inj (by omega) (by omega) (e.symm.trans h2)
  subst this
  rcases h4 with z | z <;> rw [z] <;> decide
theorem qu_put (h : qu_I n c ws wl wt ln fi ma ki) {c' : Nat → Int32} (hc : ∀ j, rl_V (c' j)) : qu_I n c' ws wl wt ln fi ma ki := ⟨h.1, hc, h.2.2⟩
end
def pt_f (ty : Int32) : Nat → Nat → (Nat → Int32) → (Nat → Int32)
  | 0, _, f => f
  | m + 1, k, f => pt_f ty m (k + 1) (upd f k ty)
theorem pt_V {ty : Int32} (ht : rl_V ty) : ∀ m k f, (∀ j, rl_V (f j)) → ∀ j, rl_V (pt_f ty m k f j) := by
  intro m
  induction m with
  | zero => intro k f h; exact h
  | succ m ih =>
    intro k f h
    refine ih (k + 1) _ (fun j => ?_)
    by_cases e : j = k
    · subst e; rw [pk_us]; exact ht
    · rw [pk_un e]; exact h j
theorem px_l {post : SX → Prop} {ty ll : Int32} {o e : Nat} (ho : o < 5) (he : e ≤ 40) {ws wl wt ln : Nat → Int32} : ∀ m a c, a + m = e → post (ll, pt_f ty m (o * 40 + a) c, ws, wl, wt, ln) → wX_put_8 post (nI o) ty (nI e) ll (m + 1) (nI a) c ws wl wt ln := by
  intro m
  induction m with
  | zero => intro a c ha h; exact br_t (nI_le (by omega) (by omega)) h
  | succ m ih =>
    intro a c ha h
    exact br_f (nI_ge (by omega) (by omega)) ⟨rl_in1 ho (by omega), nm_r (by rw [rl_c1 ho (by omega)]) (nm_r (nI_1 a) (ih (a + 1) _ (by omega) h))⟩
theorem px_v {post : SX → Prop} {ty ll : Int32} {o s l : Nat} (ho : o < 5) (he : s + l ≤ 40) {c ws wl wt ln : Nat → Int32} (h : post (ll, pt_f ty l (o * 40 + s) c, ws, wl, wt, ln)) : wpX_put post (ll, c, ws, wl, wt, ln) (nI o) (nI s) (nI l) ty :=
  nm_r (nI_add s l) ⟨l + 1, px_l ho he l s c rfl h⟩
theorem py_l {post : SY → Prop} {ty q : Int32} {o s l : Nat} (ho : o < 5) (he : s + l ≤ 40) {wh fi ma ki ou : Nat → Int32} : ∀ m a t, a + m = s + l → post (q, pt_f ty m (o * 40 + a) t, wh, fi, ma, ki, ou) → wY_grant_3 post (nI o) (nI s) (nI l) ty q (m + 1) (nI a) t wh fi ma ki ou := by
  intro m
  induction m with
  | zero => intro a t ha h; exact br_t (by rw [nI_add]; exact nI_le (by omega) (by omega)) h
  | succ m ih =>
    intro a t ha h
    exact br_f (by rw [nI_add]; exact nI_ge (by omega) (by omega)) ⟨rl_in2 ho (by omega), nm_r (by rw [rl_c2 ho (by omega)]) (nm_r (nI_1 a) (ih (a + 1) _ (by omega) h))⟩
theorem py_v {post : SY → Prop} {ty q : Int32} {o s l : Nat} (ho : o < 5) (he : s + l ≤ 40) {t wh fi ma ki ou : Nat → Int32} (h : post (q, pt_f ty l (o * 40 + s) t, wh, fi, ma, ki, ou)) : wpY_grant post (q, t, wh, fi, ma, ki, ou) (nI o) (nI s) (nI l) ty :=
  ⟨l + 1, py_l ho he l s t rfl h⟩
/-- an array's entries behind place i move down by one -/
def sh_f : Nat → Nat → (Nat → Int32) → (Nat → Int32)
  | 0, _, f => f
  | m + 1, i, f => sh_f m (i + 1) (upd f i (f (i + 1)))
theorem sh_lo : ∀ m i f j, j < i → sh_f m i f j = f j := by
  intro m
  induction m with
  | zero => intro i f j _; rfl
  | succ m ih =>
    intro i f j h
    rw [show sh_f (m + 1) i f = sh_f m (i + 1) (upd f i (f (i + 1))) from rfl, ih (i + 1) _ j (by omega), pk_un (by omega)]
theorem sh_hi : ∀ m i f j, i ≤ j → j < i + m → sh_f m i f j = f (j + 1) := by
  intro m
  induction m with
  | zero => intro i f j h1 h2; omega
  | succ m ih =>
    intro i f j h1 h2
    rw [show sh_f (m + 1) i f = sh_f m (i + 1) (upd f i (f (i + 1))) from rfl]
    by_cases e : j = i
    · subst e; rw [sh_lo _ _ _ _ (by omega), pk_us]
    · rw [ih (i + 1) _ j (by omega) (by omega), pk_un (by omega)]
def sh_g (i j : Nat) : Nat := if j < i then j else j + 1
theorem sh_at {n i : Nat} (f : Nat → Int32) {j : Nat} (hj : j < n) (hi : i < n + 1) : sh_f (n - i) i f j = f (sh_g i j) := by
  unfold sh_g
  by_cases e : j < i
  · rw [if_pos e, sh_lo _ _ _ _ e]
  · rw [if_neg e, sh_hi _ _ _ _ (by omega) (by omega)]
theorem sh_g1 {n i j : Nat} (hj : j < n) (hi : i < n + 1) : sh_g i j < n + 1 ∧ sh_g i j ≠ i := by
  unfold sh_g
  by_cases e : j < i
  · rw [if_pos e]; omega
  · rw [if_neg e]; omega
theorem sh_g2 {i j k : Nat} (h : j < k) : sh_g i j < sh_g i k := by
  unfold sh_g
  by_cases e : j < i
  · by_cases e2 : k < i
    · rw [if_pos e, if_pos e2]; omega
    · rw [if_pos e, if_neg e2]; omega
  · rw [if_neg e, if_neg (by omega)]; omega
theorem qu_dis {n : Nat} {ln : Nat → Int32} (h : ∀ i j, i < j → j < n → ¬ ln i = ln j) {i j : Nat} (hi : i < n) (hj : j < n) (hn : i ≠ j) : ¬ ln i = ln j := by
  rcases Nat.lt_or_gt_of_ne hn with z | z
  · exact h i j z hj
  · exact fun e => h j i z hi e.symm
theorem qu_rem {n : Nat} {c ws wl wt ln fi ma ki : Nat → Int32} {i o : Nat} (h : qu_I (n + 1) c ws wl wt ln fi ma ki) (hi : i < n + 1) (ho : o < 5) (hl : ln i = nI o) :
    qu_I n c ws wl (upd wt o 0) (sh_f (n - i) i ln) (sh_f (n - i) i fi) (sh_f (n - i) i ma) (sh_f (n - i) i ki) := by
  obtain ⟨h1, h2, h3, h4, h5⟩ := h
  refine ⟨by omega, h2, ?_, ?_, ?_⟩
  · intro j hj
    obtain ⟨g1, g2⟩ := sh_g1 hj hi
    obtain ⟨o', e1, e2, e3, e4, e5, e6, e7⟩ := h3 _ g1
    have hne : o' ≠ o := by
      intro e
      subst e
      exact qu_dis h4 g1 hi g2 (e2.trans hl.symm)
    refine ⟨o', e1, ?_, e3, ?_, ?_, ?_, ?_⟩
    · rw [sh_at ln hj hi]; exact e2
    · rw [pk_un hne]; exact e4
    · rw [sh_at fi hj hi]; exact e5
    · rw [sh_at ma hj hi]; exact e6
    · rw [sh_at ki hj hi, pk_un hne]; exact e7
  · intro j k hjk hk
    rw [sh_at ln (by omega) hi, sh_at ln hk hi]
    exact h4 _ _ (sh_g2 hjk) (sh_g1 hk hi).1
  · intro o' ho'
    by_cases e : o' = o
    · subst e; exact Or.inl pk_us
    · rw [pk_un e]
      rcases h5 o' ho' with z | ⟨k, hk, ek⟩
      · exact Or.inl z
      · refine Or.inr ?_
        have hki : k ≠ i := by
          intro w
          subst w
          exact e (rl_inj (by omega) (by omega) (ek.symm.trans hl))
        by_cases w : k < i
        · refine ⟨k, by omega, ?_⟩
          rw [sh_at ln (by omega) hi, show sh_g i k = k from if_pos w]
          exact ek
        · refine ⟨k - 1, by omega, ?_⟩
          rw [sh_at ln (by omega) hi, show sh_g i (k - 1) = k from by unfold sh_g; rw [if_neg (by omega)]; omega]
          exact ek
/-- the line holds fewer than five as long as some owner isn't in it -/
def ct_f (ln : Nat → Int32) (o : Nat) : Nat → Nat
  | 0 => 0
  | n + 1 => ct_f ln o n + (if ln n = nI o then 1 else 0)
theorem ct_no {ln : Nat → Int32} {o : Nat} : ∀ n, (∀ i, i < n → ¬ ln i = nI o) → ct_f ln o n = 0 := by
  intro n
  induction n with
  | zero => intro _; rfl
  | succ n ih =>
    intro h
    show ct_f ln o n + _ = 0
    rw [ih (fun i hi => h i (by omega)), if_neg (h n (by omega))]
theorem ct_1 {ln : Nat → Int32} (o : Nat) : ∀ n, (∀ i j, i < j → j < n → ¬ ln i = ln j) → ct_f ln o n ≤ 1 := by
  intro n
  induction n with
  | zero => intro _; exact Nat.zero_le _
  | succ n ih =>
    intro h
    show ct_f ln o n + _ ≤ 1
    by_cases e : ln n = nI o
    · rw [ct_no n (fun i hi z => h i n hi (by omega) (z.trans e.symm)), if_pos e]
      omega
    · rw [if_neg e]
      exact ih (fun i j hij hj => h i j hij (by omega))
theorem ct_sum {ln : Nat → Int32} : ∀ n, (∀ i, i < n → ∃ o, o < 5 ∧ ln i = nI o) → ct_f ln 0 n + ct_f ln 1 n + ct_f ln 2 n + ct_f ln 3 n + ct_f ln 4 n = n := by
  intro n
  induction n with
  | zero => intro _; rfl
  | succ n ih =>
    intro h
    have s := ih (fun i hi => h i (by omega))
    obtain ⟨o, ho, e⟩ := h n (by omega)
    have hs : ∀ p, p < 5 → ct_f ln p (n + 1) = ct_f ln p n + (if o = p then 1 else 0) := by
      intro p hp
      show ct_f ln p n + _ = _
      rw [e]
      by_cases z : o = p
      · rw [if_pos z, if_pos (congrArg nI z)]
      · rw [if_neg z, if_neg (rl_ne (by omega) (by omega) z)]
    rw [hs 0 (by omega), hs 1 (by omega), hs 2 (by omega), hs 3 (by omega), hs 4 (by omega)]
    have ho' : o = 0 ∨ o = 1 ∨ o = 2 ∨ o = 3 ∨ o = 4 := by omega
    rcases ho' with rfl | rfl | rfl | rfl | rfl <;> simp <;> omega
theorem qu_room {n : Nat} {c ws wl wt ln fi ma ki : Nat → Int32} (h : qu_I n c ws wl wt ln fi ma ki) {o : Nat} (ho : o < 5) (hw : wt o = 0) : n < 5 := by
  have hno : ct_f ln o n = 0 := ct_no n (fun i hi e => qu_on h hi ho e hw)
  obtain ⟨h1, h2, h3, h4, h5⟩ := h
  have s := ct_sum n (fun i hi => by obtain ⟨o', e1, e2, _⟩ := h3 i hi; exact ⟨o', e1, e2⟩)
  have l0 := ct_1 0 n h4
  have l1 := ct_1 1 n h4
  have l2 := ct_1 2 n h4
  have l3 := ct_1 3 n h4
  have l4 := ct_1 4 n h4
  have ho' : o = 0 ∨ o = 1 ∨ o = 2 ∨ o = 3 ∨ o = 4 := by omega
  rcases ho' with rfl | rfl | rfl | rfl | rfl <;> omega
theorem qu_add {n : Nat} {c ws wl wt ln fi ma ki : Nat → Int32} (h : qu_I n c ws wl wt ln fi ma ki) {o s l : Nat} {ty : Int32} (ho : o < 5) (hw : wt o = 0) (hr : s + l ≤ 40) (ht : ty = 1 ∨ ty = 2) :
    qu_I (n + 1) c (upd ws o (nI s)) (upd wl o (nI l)) (upd wt o ty) (upd ln n (nI o)) (upd fi n (nI s)) (upd ma n (nI l)) (upd ki n ty) := by
  have hn := qu_room h ho hw
  have hon := fun i (hi : i < n) => qu_on h hi ho
  obtain ⟨h1, h2, h3, h4, h5⟩ := h
  refine ⟨by omega, h2, ?_, ?_, ?_⟩
  · intro i hi
    by_cases e : i = n
    · subst e
      exact ⟨o, ho, pk_us, ⟨s, l, pk_us, pk_us, hr⟩, by rw [pk_us]; exact ht, by rw [pk_us, pk_us], by rw [pk_us, pk_us], by rw [pk_us, pk_us]⟩
    · obtain ⟨o', e1, e2, e3, e4, e5, e6, e7⟩ := h3 i (by omega)
      have hne : o' ≠ o := by
        intro w
        subst w
        exact hon i (by omega) e2 hw
      exact ⟨o', e1, by rw [pk_un e]; exact e2, by rw [pk_un hne, pk_un hne]; exact e3, by rw [pk_un hne]; exact e4, by rw [pk_un e, pk_un hne]; exact e5, by rw [pk_un e, pk_un hne]; exact e6, by rw [pk_un e, pk_un hne]; exact e7⟩
  · intro i j hij hj
    rw [pk_un (show i ≠ n by omega)]
    by_cases e : j = n
    · subst e; rw [pk_us]; exact fun z => hon i hij z hw
    · rw [pk_un e]; exact h4 i j hij (by omega)
  · intro o' ho'
    by_cases e : o' = o
    · subst e; exact Or.inr ⟨n, by omega, pk_us⟩
    · rw [pk_un e]
      rcases h5 o' ho' with z | ⟨i, hi, ei⟩
      · exact Or.inl z
      · exact Or.inr ⟨i, by omega, by rw [pk_un (by omega)]; exact ei⟩
end
section
/-! stopWaiting and leave, firstGrantable and ready, settle -/
theorem sx_e {post : SX → Prop} {o n : Nat} (ho : o < 5) {m : Nat} {x2 : Int32} {c ws wl wt ln : Nat → Int32} (h : post (x2, c, ws, wl, upd wt o 0, ln)) : wX_stopWaiting_4 post (nI o) (nI n) (m + 1) x2 (nI n) c ws wl wt ln :=
  br_t (Int32.le_refl _) ⟨vp_in_nI ho (by omega), nm_r (by rw [rl_cl5 ho]) h⟩
theorem sx_2 {post : SX → Prop} {o n : Nat} (ho : o < 5) (hn : n < 5) {c ws wl wt : Nat → Int32} : ∀ m k f, k + m = n → (∀ j, k < j → j < n + 1 → ¬ f j = nI o) → post (nI n, c, ws, wl, upd wt o 0, sh_f m k f) → wX_stopWaiting_4 post (nI o) (nI (n + 1)) (m + 1) (nI k) (nI (k + 1)) c ws wl wt f := by
  intro m
  induction m with
  | zero =>
    intro k f hk _ h
    have : k = n := by omega
    subst this
    exact sx_e ho h
  | succ m ih =>
    intro k f hk hf h
    refine br_f (nI_ge (by omega) (by omega)) ⟨vp_in_nI (by omega) (by omega), ?_⟩
    rw [rl_cl5 (show k + 1 < 5 by omega), rl_cl5 (show k < 5 by omega)]
    refine br_f (hf (k + 1) (by omega) (by omega)) ⟨vp_in_nI (by omega) (by omega), vp_in_nI (by omega) (by omega), nm_e (nm_r (nI_1 k) (nm_r (nI_1 (k + 1)) (ih (k + 1) _ (by omega) ?_ h)))⟩
    intro j h1 h2
    rw [pk_un (by omega)]
    exact hf j (by omega) h2
/-- the owner stands at place i -/
theorem sx_1 {post : SX → Prop} {o n i : Nat} (ho : o < 5) (hn : n < 5) (hi : i < n + 1) {c ws wl wt ln : Nat → Int32} (he : ln i = nI o) (hf : ∀ j, j < n + 1 → j ≠ i → ¬ ln j = nI o) (h : post (nI n, c, ws, wl, upd wt o 0, sh_f (n - i) i ln)) : ∀ m k, k + m = i → wX_stopWaiting_4 post (nI o) (nI (n + 1)) (m + (n - i + 1) + 1) (nI k) (nI k) c ws wl wt ln := by
  intro m
  induction m with
  | zero =>
    intro k hk
    have : k = i := by omega
    subst this
    rw [show 0 + (n - k + 1) + 1 = (n - k + 1) + 1 from by omega]
    refine br_f (nI_ge (by omega) (by omega)) ⟨vp_in_nI (by omega) (by omega), ?_⟩
    rw [rl_cl5 (show k < 5 by omega)]
    exact br_t he (nm_r (nI_1 k) (sx_2 ho hn (n - k) k ln (by omega) (fun j h1 h2 => hf j h2 (by omega)) h))
  | succ m ih =>
    intro k hk
    rw [show m + 1 + (n - i + 1) + 1 = (m + (n - i + 1) + 1) + 1 from by omega]
    refine br_f (nI_ge (by omega) (by omega)) ⟨vp_in_nI (by omega) (by omega), ?_⟩
    rw [rl_cl5 (show k < 5 by omega)]
    exact br_f (hf k (by omega) (by omega)) ⟨vp_in_nI (by omega) (by omega), vp_in_nI (by omega) (by omega), nm_r (rl_upd_id ln k) (nm_r (nI_1 k) (nm_r (nI_1 k) (ih (k + 1) (by omega))))⟩
/-- the owner isn't in the line -/
theorem sx_0 {post : SX → Prop} {o n : Nat} (ho : o < 5) (hn : n ≤ 5) {c ws wl wt ln : Nat → Int32} (hf : ∀ j, j < n → ¬ ln j = nI o) (h : post (nI n, c, ws, wl, upd wt o 0, ln)) : ∀ m k, k + m = n → wX_stopWaiting_4 post (nI o) (nI n) (m + 1) (nI k) (nI k) c ws wl wt ln := by
  intro m
  induction m with
  | zero =>
    intro k hk
    have : k = n := by omega
    subst this
    exact sx_e ho h
  | succ m ih =>
    intro k hk
    refine br_f (nI_ge (by omega) (by omega)) ⟨vp_in_nI (by omega) (by omega), ?_⟩
    rw [rl_cl5 (show k < 5 by omega)]
    exact br_f (hf k (by omega)) ⟨vp_in_nI (by omega) (by omega), vp_in_nI (by omega) (by omega), nm_r (rl_upd_id ln k) (nm_r (nI_1 k) (nm_r (nI_1 k) (ih (k + 1) (by omega))))⟩
theorem sx_in {post : SX → Prop} {n : Nat} {c ws wl wt ln fi ma ki : Nat → Int32} (I : qu_I (n + 1) c ws wl wt ln fi ma ki) {i o : Nat} (hi : i < n + 1) (ho : o < 5) (he : ln i = nI o) (c' : Nat → Int32) (h : post (nI n, c', ws, wl, upd wt o 0, sh_f (n - i) i ln)) : wpX_stopWaiting post (nI (n + 1), c', ws, wl, wt, ln) (nI o) :=
  ⟨_, sx_1 ho (by have := I.1; omega) hi he (fun j hj hn e => qu_dis I.2.2.2.1 hj hi hn (e.trans he.symm)) h i 0 (by omega)⟩
theorem sx_no {post : SX → Prop} {n : Nat} {c ws wl wt ln fi ma ki : Nat → Int32} (I : qu_I n c ws wl wt ln fi ma ki) {o : Nat} (ho : o < 5) (hw : wt o = 0) (c' : Nat → Int32) (h : post (nI n, c', ws, wl, wt, ln)) : wpX_stopWaiting post (nI n, c', ws, wl, wt, ln) (nI o) :=
  ⟨_, sx_0 ho I.1 (fun j hj e => qu_on I hj ho e hw) (by rw [rl_upd_id' hw]; exact h) n 0 (by omega)⟩
theorem sy_l {post : SY → Prop} {n : Nat} (hn : n < 5) {t ou : Nat → Int32} : ∀ m i wh fi ma ki, i + m = n → post (nI n, t, sh_f m i wh, sh_f m i fi, sh_f m i ma, sh_f m i ki, ou) → wY_leave_2 post (nI (n + 1)) (m + 1) (nI i) t wh fi ma ki ou := by
  intro m
  induction m with
  | zero =>
    intro i wh fi ma ki hi h
    exact br_t (by rw [nI_pred]; exact nI_le (by omega) (by omega)) (nm_r (nI_pred n) h)
  | succ m ih =>
    intro i wh fi ma ki hi h
    refine br_f (by rw [nI_pred]; exact nI_ge (by omega) (by omega)) (br_f (nI_ge (b := 7) (by omega) (by omega)) ?_)
    rw [nI_1 i, rl_cl8 (show i < 8 by omega), rl_cl8 (show i + 1 < 8 by omega)]
    have a1 : vp_in (nI (i + 1)) 8 := vp_in_nI (by omega) (by omega)
    have a0 : vp_in (nI i) 8 := vp_in_nI (by omega) (by omega)
    exact ⟨a1, a0, nm_e ⟨a1, a0, nm_e ⟨a1, a0, nm_e ⟨a1, a0, nm_e (nm_e (ih (i + 1) _ _ _ _ (by omega) h))⟩⟩⟩⟩
theorem sy_v {post : SY → Prop} {n i : Nat} (hn : n < 5) (hi : i < n + 1) {t wh fi ma ki ou : Nat → Int32} (h : post (nI n, t, sh_f (n - i) i wh, sh_f (n - i) i fi, sh_f (n - i) i ma, sh_f (n - i) i ki, ou)) : wpY_leave post (nI (n + 1), t, wh, fi, ma, ki, ou) (nI i) :=
  ⟨_, sy_l hn (n - i) i wh fi ma ki (by omega) h⟩
/-- whom the owner waits for -/
def wf_v (c ws wl wt : Nat → Int32) (o : Nat) : Int32 := op_v c (wt o) o (ws o).toNatClampNeg (wl o).toNatClampNeg
theorem wf_0 {c ws wl wt : Nat → Int32} {o : Nat} (h : wt o = 0) : wf_v c ws wl wt o = 0 := by unfold wf_v; rw [h, op_v0]
theorem wf_s {c ws wl wt : Nat → Int32} {o s l : Nat} (h1 : ws o = nI s) (h2 : wl o = nI l) (h : s + l ≤ 40) : wf_v c ws wl wt o = op_v c (wt o) o s l := by
  unfold wf_v
  rw [h1, h2, nI_clamp (by omega), nI_clamp (by omega)]
theorem rl_V12 {x : Int32} (h : x = 1 ∨ x = 2) : rl_V x := Or.inr h
theorem wf_x {post : Int32 → Prop} {n : Nat} {c ws wl wt ln fi ma ki : Nat → Int32} (I : qu_I n c ws wl wt ln fi ma ki) {o : Nat} (ho : o < 5) (ll : Int32) (h : post (wf_v c ws wl wt o)) : wpX_waitedFor post (ll, c, ws, wl, wt, ln) (nI o) := by
  have a : vp_in (nI o) 5 := vp_in_nI ho (by omega)
  refine ⟨a, a, a, ?_⟩
  rw [rl_cl5 ho]
  rcases qu_w I ho with z | ⟨⟨s, l, h1, h2, h3⟩, h4⟩
  · rw [wf_0 z] at h
    rw [z]
    exact ox_0 _ _ _ _ h
  · rw [wf_s h1 h2 h3] at h
    rw [h1, h2]
    exact ox_v ho h3 (rl_V12 h4) I.2.1 h
theorem wf_y {post : Int32 → Prop} {c ws wl wt ln fi ma ki : Nat → Int32} {i o : Nat} (E : qu_E ws wl wt ln fi ma ki i o) {q : Int32} {wh fi' ma' ki' ou : Nat → Int32} (h : post (wf_v c ws wl wt o)) : wpY_against post (q, c, wh, fi', ma', ki', ou) (ln i) (fi i) (ma i) (ki i) := by
  obtain ⟨e1, e2, ⟨s, l, h1, h2, h3⟩, e4, e5, e6, e7⟩ := E
  rw [wf_s h1 h2 h3] at h
  rw [e2, e5, e6, e7, h1, h2]
  exact oy_v e1 h3 h
/-- the place of an owner -/
theorem pl_l {n : Nat} (hn : n ≤ 5) {c ln fi ma ki ou : Nat → Int32} (o : Int32) : ∀ m i, i + m = n →
    (∃ j, i ≤ j ∧ j < n ∧ ln j = o ∧ (∀ k, i ≤ k → k < j → ¬ ln k = o) ∧ ∀ post : Int32 → Prop, post (nI j) → wY_placeOf_2 post o (nI n) c ln fi ma ki ou (m + 1) (nI i)) ∨
    ((∀ j, i ≤ j → j < n → ¬ ln j = o) ∧ ∀ post : Int32 → Prop, post (-1) → wY_placeOf_2 post o (nI n) c ln fi ma ki ou (m + 1) (nI i)) := by
  intro m
  induction m with
  | zero =>
    intro i hi
    exact Or.inr ⟨fun j h1 h2 => absurd h2 (by omega), fun post h => br_t (nI_le (by omega) (by omega)) h⟩
  | succ m ih =>
    intro i hi
    have g1 : ¬ nI n ≤ nI i := nI_ge (by omega) (by omega)
    have g2 : ¬ (8 : Int32) ≤ nI i := nI_ge (b := 8) (by omega) (by omega)
    have g3 : vp_in (nI i) 8 := vp_in_nI (by omega) (by omega)
    have g4 : (nI i).toNatClampNeg = i := rl_cl8 (by omega)
    by_cases e : ln i = o
    · exact Or.inl ⟨i, Nat.le_refl _, by omega, e, fun k h1 h2 => absurd h2 (by omega), fun post h => br_f g1 (br_f g2 ⟨g3, br_t (by rw [g4]; exact e) h⟩)⟩
    · rcases ih (i + 1) (by omega) with ⟨j, h1, h2, h3, h4, h5⟩ | ⟨h1, h2⟩
      · refine Or.inl ⟨j, by omega, h2, h3, ?_, fun post h => br_f g1 (br_f g2 ⟨g3, br_f (by rw [g4]; exact e) (nm_r (nI_1 i) (h5 post h))⟩)⟩
        intro k k1 k2
        by_cases w : k = i
        · subst w; exact e
        · exact h4 k (by omega) k2
      · refine Or.inr ⟨?_, fun post h => br_f g1 (br_f g2 ⟨g3, br_f (by rw [g4]; exact e) (nm_r (nI_1 i) (h2 post h))⟩)⟩
        intro k k1 k2
        by_cases w : k = i
        · subst w; exact e
        · exact h1 k (by omega) k2
theorem pl_v {n : Nat} {c ws wl wt ln fi ma ki : Nat → Int32} (I : qu_I n c ws wl wt ln fi ma ki) (ou : Nat → Int32) {o : Nat} (ho : o < 5) :
    (∃ j, j < n ∧ ln j = nI o ∧ (∀ k, k < j → ¬ ln k = nI o) ∧ ¬ wt o = 0 ∧ ∀ post : Int32 → Prop, post (nI j) → wpY_placeOf post (nI n, c, ln, fi, ma, ki, ou) (nI o)) ∨
    ((∀ j, j < n → ¬ ln j = nI o) ∧ wt o = 0 ∧ ∀ post : Int32 → Prop, post (-1) → wpY_placeOf post (nI n, c, ln, fi, ma, ki, ou) (nI o)) := by
  rcases pl_l I.1 (c := c) (ln := ln) (fi := fi) (ma := ma) (ki := ki) (ou := ou) (nI o) n 0 (by omega) with ⟨j, h1, h2, h3, h4, h5⟩ | ⟨h1, h2⟩
  · exact Or.inl ⟨j, h2, h3, fun k hk => h4 k (by omega) hk, qu_on I h2 ho h3, fun post h => ⟨_, h5 post h⟩⟩
  · refine Or.inr ⟨fun j hj => h1 j (by omega) hj, ?_, fun post h => ⟨_, h2 post h⟩⟩
    rcases I.2.2.2.2 o ho with z | ⟨i, hi, e⟩
    · exact z
    · exact absurd e (h1 i (by omega) hi)
theorem fg_l {n : Nat} {c ws wl wt ln fi ma ki : Nat → Int32} (I : qu_I n c ws wl wt ln fi ma ki) (ou : Nat → Int32) : ∀ m i, i + m = n →
    (∃ j o, j < n ∧ qu_E ws wl wt ln fi ma ki j o ∧ (∀ post : Int32 → Prop, post (nI o) → wX_firstGrantable_2 post (nI n) c ws wl wt ln (m + 1) (nI i)) ∧ (∀ post : Int32 → Prop, post (nI j) → wY_ready_2 post (nI n) c ln fi ma ki ou (m + 1) (nI i))) ∨
    ((∀ post : Int32 → Prop, post (-1) → wX_firstGrantable_2 post (nI n) c ws wl wt ln (m + 1) (nI i)) ∧ (∀ post : Int32 → Prop, post (-1) → wY_ready_2 post (nI n) c ln fi ma ki ou (m + 1) (nI i))) := by
  have hn := I.1
  intro m
  induction m with
  | zero =>
    intro i hi
    have g : nI n ≤ nI i := nI_le (by omega) (by omega)
    exact Or.inr ⟨fun post h => br_t g h, fun post h => br_t g h⟩
  | succ m ih =>
    intro i hi
    have g1 : ¬ nI n ≤ nI i := nI_ge (by omega) (by omega)
    have g2 : ¬ (8 : Int32) ≤ nI i := nI_ge (b := 8) (by omega) (by omega)
    have g3 : vp_in (nI i) 8 := vp_in_nI (by omega) (by omega)
    have g5 : vp_in (nI i) 5 := vp_in_nI (by omega) (by omega)
    have g4 : (nI i).toNatClampNeg = i := rl_cl8 (by omega)
    obtain ⟨o, E⟩ := I.2.2.1 i (by omega)
    have ho := E.1
    have ew := E.2.1
    by_cases e : wf_v c ws wl wt o = 0
    · refine Or.inl ⟨i, o, by omega, E, fun post h => br_f g1 ⟨g5, ?_⟩, fun post h => br_f g1 (br_f g2 ⟨g3, g3, g3, g3, ?_⟩)⟩
      · rw [g4, ew]
        exact wf_x I ho _ (br_t e ⟨g5, h⟩)
      · rw [g4]
        exact wf_y E (br_t e h)
    · rcases ih (i + 1) (by omega) with ⟨j, o', h1, h2, h3, h4⟩ | ⟨h1, h2⟩
      · refine Or.inl ⟨j, o', h1, h2, fun post h => br_f g1 ⟨g5, ?_⟩, fun post h => br_f g1 (br_f g2 ⟨g3, g3, g3, g3, ?_⟩)⟩
        · rw [g4, ew]
          exact wf_x I ho _ (br_f e (nm_r (nI_1 i) (h3 post h)))
        · rw [g4]
          exact wf_y E (br_f e (nm_r (nI_1 i) (h4 post h)))
      · refine Or.inr ⟨fun post h => br_f g1 ⟨g5, ?_⟩, fun post h => br_f g1 (br_f g2 ⟨g3, g3, g3, g3, ?_⟩)⟩
        · rw [g4, ew]
          exact wf_x I ho _ (br_f e (nm_r (nI_1 i) (h1 post h)))
        · rw [g4]
          exact wf_y E (br_f e (nm_r (nI_1 i) (h2 post h)))
/-- the reference's rounds in which nothing is ready -/
theorem st_idle {n : Nat} {c ln fi ma ki ou : Nat → Int32} (hr : ∀ post : Int32 → Prop, post (-1) → wpY_ready post (nI n, c, ln, fi, ma, ki, ou)) {post : Int32 → SY → Prop} {g : Int32} (h : post g (nI n, c, ln, fi, ma, ki, ou)) : ∀ m rd, rd + m = 5 → wY_settle_4 post (m + 1) g (nI rd) (nI n) c ln fi ma ki ou := by
  intro m
  induction m with
  | zero => intro rd hd; exact br_t (nI_le (a := 5) (by omega) (by omega)) h
  | succ m ih =>
    intro rd hd
    refine br_f (nI_ge (b := 5) (by omega) (by omega)) (hr _ ?_)
    exact br_t (by decide) (nm_r (nI_1 rd) (ih (rd + 1) (by omega)))
theorem st_l : ∀ m rd g n c ws wl wt ln fi ma ki ou, rd + m = 5 → qu_I n c ws wl wt ln fi ma ki →
    ∃ r n' c' wt' ln' fi' ma' ki', qu_I n' c' ws wl wt' ln' fi' ma' ki' ∧
      (∀ post : Int32 → SX → Prop, post r (nI n', c', ws, wl, wt', ln') → wX_settle_4 post (m + 1) g (nI rd) (nI n) c ws wl wt ln) ∧
      (∀ post : Int32 → SY → Prop, post r (nI n', c', ln', fi', ma', ki', ou) → wY_settle_4 post (m + 1) g (nI rd) (nI n) c ln fi ma ki ou) := by
  intro m
  induction m with
  | zero =>
    intro rd g n c ws wl wt ln fi ma ki ou hd I
    have h5 : (5 : Int32) ≤ nI rd := nI_le (a := 5) (by omega) (by omega)
    exact ⟨g, n, c, wt, ln, fi, ma, ki, I, fun post h => br_t h5 h, fun post h => br_t h5 h⟩
  | succ m ih =>
    intro rd g n c ws wl wt ln fi ma ki ou hd I
    have h5 : ¬ (5 : Int32) ≤ nI rd := nI_ge (b := 5) (by omega) (by omega)
    rcases fg_l I ou n 0 (by omega) with ⟨j, o, hj, E, hX, hY⟩ | ⟨hX, hY⟩
    · obtain ⟨k, rfl⟩ : ∃ k, n = k + 1 := ⟨n - 1, by omega⟩
      obtain ⟨e1, e2, ⟨s, l, w1, w2, w3⟩, e4, e5, e6, e7⟩ := id E
      have I1 := qu_rem (qu_put I (pt_V (rl_V12 e4) l (o * 40 + s) c I.2.1)) hj e1 e2
      have hk : k < 5 := by have := I.1; omega
      obtain ⟨r, n', c', wt', ln', fi', ma', ki', I', kX, kY⟩ := ih (rd + 1) (g + 1) k _ ws wl _ _ _ _ _ ou (by omega) I1
      refine ⟨r, n', c', wt', ln', fi', ma', ki', I', fun post h => br_f h5 ⟨_, hX _ ?_⟩, fun post h => br_f h5 ⟨_, hY _ ?_⟩⟩
      · have a : vp_in (nI o) 5 := vp_in_nI e1 (by omega)
        refine br_t (nI_pos' (by omega)) ⟨a, a, a, ?_⟩
        rw [rl_cl5 e1, w1, w2]
        refine px_v e1 w3 ?_
        refine sx_in I hj e1 e2 _ ?_
        exact nm_e (nm_r (nI_1 rd) (kX post h))
      · have a : vp_in (nI j) 8 := vp_in_nI (by omega) (by omega)
        refine br_f (nI_pos (by omega)) ⟨a, a, a, a, ?_⟩
        rw [rl_cl8 (show j < 8 by omega), e2, e5, e6, e7, w1, w2]
        refine py_v e1 w3 ?_
        refine sy_v hk hj ?_
        exact nm_e (nm_r (nI_1 rd) (kY post h))
    · refine ⟨g, n, c, wt, ln, fi, ma, ki, I, fun post h => br_f h5 ⟨_, hX _ ?_⟩, fun post h => st_idle (fun post h => ⟨_, hY post h⟩) h (m + 1) rd hd⟩
      exact br_f (by decide) h
theorem st_v {n : Nat} {c ws wl wt ln fi ma ki : Nat → Int32} (I : qu_I n c ws wl wt ln fi ma ki) (ou : Nat → Int32) :
    ∃ r n' c' wt' ln' fi' ma' ki', qu_I n' c' ws wl wt' ln' fi' ma' ki' ∧
      (∀ post : Int32 → SX → Prop, post r (nI n', c', ws, wl, wt', ln') → wpX_settle post (nI n, c, ws, wl, wt, ln)) ∧
      (∀ post : Int32 → SY → Prop, post r (nI n', c', ln', fi', ma', ki', ou) → wpY_settle post (nI n, c, ln, fi, ma, ki, ou)) := by
  obtain ⟨r, n', c', wt', ln', fi', ma', ki', I', kX, kY⟩ := st_l 5 0 0 n c ws wl wt ln fi ma ki ou rfl I
  exact ⟨r, n', c', wt', ln', fi', ma', ki', I', fun post h => ⟨_, kX post h⟩, fun post h => ⟨_, kY post h⟩⟩
end
section
/-! leadsTo and circles; the tests of the arguments -/
theorem lt_i {post : Int32 → Prop} {J : Int32 → Int32 → Prop} {n : Nat} {c ws wl wt ln fi ma ki : Nat → Int32} (I : qu_I n c ws wl wt ln fi ma ki) (x2 ll : Int32) (st : Nat) : ∀ m p R, p + m = 5 → J (cs_g (wf_v c ws wl wt) m p R) (nI (st + 1)) → wX_leadsTo_14 post J x2 (nI st) ll c ws wl wt ln (m + 1) R (nI p) := by
  intro m
  induction m with
  | zero =>
    intro p R hp h
    exact br_t (nI_le (a := 5) (by omega) (by omega)) (nm_r (nI_1 st) h)
  | succ m ih =>
    intro p R hp h
    refine br_f (nI_ge (b := 5) (by omega) (by omega)) ?_
    have e : cs_g (wf_v c ws wl wt) (m + 1) p R = cs_g (wf_v c ws wl wt) m (p + 1) (if bt R p = true then R ||| wf_v c ws wl wt p else R) := rfl
    rw [e] at h
    by_cases z : bt R p = true
    · rw [if_pos z] at h
      refine br_f (fun w => ?_) (wf_x I (by omega) _ (nm_e (nm_r (nI_1 p) (ih (p + 1) _ (by omega) h))))
      rw [(rl_tX (by omega)).mp w] at z
      exact absurd z (by decide)
    · rw [if_neg z] at h
      refine br_t ((rl_tX (by omega)).mpr ?_) (nm_r (nI_1 p) (ih (p + 1) _ (by omega) h))
      cases w : bt R p
      · rfl
      · exact absurd w z
theorem lt_o {post : Int32 → Prop} {n : Nat} {c ws wl wt ln fi ma ki : Nat → Int32} (I : qu_I n c ws wl wt ln fi ma ki) {o : Nat} (ho : o < 5) (ll : Int32) : ∀ m st R, st + m = 5 → post (if bt (cs_it (cs_g (wf_v c ws wl wt) 5 0) m R) o = true then 1 else 0) → wX_leadsTo_5 post (nI o) ll c ws wl wt ln (m + 1) R (nI st) := by
  intro m
  induction m with
  | zero =>
    intro st R hs h
    refine br_t (nI_le (a := 5) (by omega) (by omega)) ?_
    have e : cs_it (cs_g (wf_v c ws wl wt) 5 0) 0 R = R := rfl
    rw [e] at h
    by_cases z : bt R o = true
    · rw [if_pos z] at h
      refine br_f (fun w => ?_) h
      rw [(rl_tX ho).mp w] at z
      exact absurd z (by decide)
    · rw [if_neg z] at h
      refine br_t ((rl_tX ho).mpr ?_) h
      cases w : bt R o
      · rfl
      · exact absurd w z
  | succ m ih =>
    intro st R hs h
    exact br_f (nI_ge (b := 5) (by omega) (by omega)) ⟨6, lt_i I _ _ st 5 0 R rfl (ih (st + 1) _ (by omega) h)⟩
theorem lt_v {post : Int32 → Prop} {n : Nat} {c ws wl wt ln fi ma ki : Nat → Int32} (I : qu_I n c ws wl wt ln fi ma ki) {o : Nat} (ho : o < 5) (ll B : Int32) (h : post (if bt (cs_it (cs_g (wf_v c ws wl wt) 5 0) 5 B) o = true then 1 else 0)) : wpX_leadsTo post (ll, c, ws, wl, wt, ln) B (nI o) :=
  ⟨6, lt_o I ho ll 5 0 B rfl h⟩
theorem cy_a7 : ∀ o, o < 5 → nI o &&& 7 = nI o := by decide +kernel
section
variable {q : Int32} {t wh fi ma ki ou : Nat → Int32} {E : Nat → Int32}
theorem cy_i {post : Int32 → SY → Prop} {J : Int32 → Int32 → Prop} (hE : ∀ p, p < 5 → ou p = E p) (x1 B : Int32) (st : Nat) : ∀ m p R, p + m = 5 → J (cs_j E B m p R) (nI (st + 1)) → wY_circles_148 post J x1 B (nI st) q t wh fi ma ki ou (m + 1) R (nI p) := by
  intro m
  induction m with
  | zero =>
    intro p R hp h
    exact br_t (nI_le (a := 5) (by omega) (by omega)) (nm_r (nI_1 st) h)
  | succ m ih =>
    intro p R hp h
    refine br_f (nI_ge (b := 5) (by omega) (by omega)) ?_
    have e : cs_j E B (m + 1) p R = cs_j E B m (p + 1) (if bt B p = true then R ||| E p else R) := rfl
    rw [e] at h
    by_cases z : bt B p = true
    · rw [if_pos z] at h
      exact br_t ((rl_tY (by omega)).mpr z) ⟨vp_in_nI (by omega) (by omega), nm_r (by rw [rl_cl5 (show p < 5 by omega), hE p (by omega)]) (nm_r (nI_1 p) (ih (p + 1) _ (by omega) h))⟩
    · rw [if_neg z] at h
      exact br_f (fun w => z ((rl_tY (by omega)).mp w)) (nm_r (nI_1 p) (ih (p + 1) _ (by omega) h))
theorem cy_o {post : Int32 → SY → Prop} (hE : ∀ p, p < 5 → ou p = E p) {o : Nat} (ho : o < 5) : ∀ m st R, st + m = 5 → post (if bt (cs_it (fun R => cs_j E R 5 0 R) m R) o = true then 1 else 0) (q, t, wh, fi, ma, ki, ou) → wY_circles_136 post (nI o) q t wh fi ma ki ou (m + 1) R (nI st) := by
  intro m
  induction m with
  | zero =>
    intro st R hs h
    refine br_t (nI_le (a := 5) (by omega) (by omega)) ?_
    have e : cs_it (fun R => cs_j E R 5 0 R) 0 R = R := rfl
    rw [e] at h
    by_cases z : bt R o = true
    · rw [if_pos z] at h
      exact br_t ((rl_tY ho).mpr z) h
    · rw [if_neg z] at h
      exact br_f (fun w => z ((rl_tY ho).mp w)) h
  | succ m ih =>
    intro st R hs h
    exact br_f (nI_ge (b := 5) (by omega) (by omega)) ⟨6, cy_i hE _ _ st 5 0 R rfl (ih (st + 1) _ (by omega) h)⟩
theorem cy_s {post : Int32 → SY → Prop} (hE : ∀ p, p < 5 → ou p = E p) {o : Nat} (B : Int32) {Q : Int32 → Prop} (hQ : ∀ R, Q R → ∃ k, wY_circles_136 post (nI o) q t wh fi ma ki ou k R 0) : ∀ m p R, p + m = 5 → Q (cs_j E B m p R) → wY_circles_101 post (nI o) B q t wh fi ma ki ou (m + 1) R (nI p) := by
  intro m
  induction m with
  | zero =>
    intro p R hp h
    exact br_t (nI_le (a := 5) (by omega) (by omega)) (hQ _ h)
  | succ m ih =>
    intro p R hp h
    refine br_f (nI_ge (b := 5) (by omega) (by omega)) ?_
    have e : cs_j E B (m + 1) p R = cs_j E B m (p + 1) (if bt B p = true then R ||| E p else R) := rfl
    rw [e] at h
    by_cases z : bt B p = true
    · rw [if_pos z] at h
      exact br_t ((rl_tY (by omega)).mpr z) ⟨vp_in_nI (by omega) (by omega), nm_r (by rw [rl_cl5 (show p < 5 by omega), hE p (by omega)]) (nm_r (nI_1 p) (ih (p + 1) _ (by omega) h))⟩
    · rw [if_neg z] at h
      exact br_f (fun w => z ((rl_tY (by omega)).mp w)) (nm_r (nI_1 p) (ih (p + 1) _ (by omega) h))
theorem cy_r {post : Int32 → SY → Prop} (hE : ∀ p, p < 5 → ou p = E p) {o : Nat} (ho : o < 5) (B : Int32) (h : post (if bt (cs_it (fun R => cs_j E R 5 0 R) 5 (cs_j E B 5 0 0)) o = true then 1 else 0) (q, t, wh, fi, ma, ki, ou)) : ∃ k, wY_circles_101 post (nI o) B q t wh fi ma ki ou k 0 0 :=
  ⟨6, cy_s hE B (Q := fun R => post (if bt (cs_it (fun R => cs_j E R 5 0 R) 5 R) o = true then 1 else 0) (q, t, wh, fi, ma, ki, ou)) (fun R hR => ⟨6, cy_o hE ho 5 0 R rfl hR⟩) 5 0 0 rfl h⟩
end
theorem cy_f {n : Nat} {c ws wl wt ln fi ma ki : Nat → Int32} (I : qu_I n c ws wl wt ln fi ma ki) (x1 x2 x3 : Int32) : ∀ m i ou, i + m = n → (∀ q, q < 5 → ((∃ k, k < i ∧ ln k = nI q) → ou q = wf_v c ws wl wt q) ∧ ((∀ k, k < i → ¬ ln k = nI q) → ou q = 0)) →
    ∃ ou' : Nat → Int32, (∀ q, q < 5 → ou' q = wf_v c ws wl wt q) ∧ ∀ post : Int32 → SY → Prop, (∃ k, wY_circles_101 post x1 x2 (nI n) c ln fi ma ki ou' k x3 0) → wY_circles_29 post x1 x2 x3 (nI n) (m + 1) (nI i) c ln fi ma ki ou := by
  have hn := I.1
  intro m
  induction m with
  | zero =>
    intro i ou hi hou
    have : i = n := by omega
    subst this
    refine ⟨ou, fun q hq => ?_, fun post h => br_t (nI_le (by omega) (by omega)) h⟩
    rcases I.2.2.2.2 q hq with z | z
    · rw [wf_0 z]
      exact (hou q hq).2 (fun k hk e => qu_on I hk hq e z)
    · exact (hou q hq).1 z
  | succ m ih =>
    intro i ou hi hou
    obtain ⟨o, E⟩ := I.2.2.1 i (by omega)
    have ho := E.1
    have ew := E.2.1
    obtain ⟨ou', h1, h2⟩ := ih (i + 1) (upd ou o (wf_v c ws wl wt o)) (by omega) (by
      intro q hq
      by_cases z : q = o
      · subst z
        rw [pk_us]
        exact ⟨fun _ => rfl, fun w => absurd ew (w i (by omega))⟩
      · rw [pk_un z]
        refine ⟨fun w => (hou q hq).1 ?_, fun w => (hou q hq).2 (fun k hk => w k (by omega))⟩
        obtain ⟨k, hk, ek⟩ := w
        by_cases y : k = i
        · subst y
          exact absurd (rl_inj (by omega) (by omega) (ek.symm.trans ew)) z
        · exact ⟨k, by omega, ek⟩)
    refine ⟨ou', h1, fun post h => ?_⟩
    have g3 : vp_in (nI i) 8 := vp_in_nI (by omega) (by omega)
    refine br_f (nI_ge (by omega) (by omega)) (br_f (nI_ge (b := 8) (by omega) (by omega)) ⟨g3, g3, g3, g3, g3, ?_⟩)
    rw [rl_cl8 (show i < 8 by omega)]
    refine wf_y E ?_
    rw [ew, cy_a7 o ho, rl_cl8 (show o < 8 by omega)]
    exact ⟨vp_in_nI (by omega) (by omega), nm_e (nm_r (nI_1 i) (h2 post h))⟩
theorem cy_z {q : Int32} {t wh fi ma ki : Nat → Int32} (x1 x2 x3 : Int32) : ∀ m i ou, i + m = 8 → (∀ k, k < i → ou k = 0) →
    ∃ ou' : Nat → Int32, (∀ k, k < 8 → ou' k = 0) ∧ ∀ post : Int32 → SY → Prop, (∃ k, wY_circles_29 post x1 x2 x3 q k 0 t wh fi ma ki ou') → wY_circles_5 post x1 x2 x3 q (m + 1) (nI i) t wh fi ma ki ou := by
  intro m
  induction m with
  | zero =>
    intro i ou hi hou
    exact ⟨ou, fun k hk => hou k (by omega), fun post h => br_t (nI_le (a := 8) (by omega) (by omega)) h⟩
  | succ m ih =>
    intro i ou hi hou
    obtain ⟨ou', h1, h2⟩ := ih (i + 1) (upd ou i 0) (by omega) (by
      intro k hk
      by_cases z : k = i
      · subst z; exact pk_us
      · rw [pk_un z]; exact hou k (by omega))
    exact ⟨ou', h1, fun post h => br_f (nI_ge (b := 8) (by omega) (by omega)) ⟨vp_in_nI (by omega) (by omega), nm_r (by rw [rl_cl8 (show i < 8 by omega)]) (nm_r (nI_1 i) (h2 post h))⟩⟩
/-- the reference's answer, whatever it leaves in its scratch -/
theorem cy_v {n : Nat} {c ws wl wt ln fi ma ki : Nat → Int32} (I : qu_I n c ws wl wt ln fi ma ki) (ou : Nat → Int32) {o : Nat} (ho : o < 5) (B : Int32) (hB : bt B o = false) :
    ∃ ou' : Nat → Int32, ∀ post : Int32 → SY → Prop, post (if bt (cs_it (cs_g (wf_v c ws wl wt) 5 0) 5 B) o = true then 1 else 0) (nI n, c, ln, fi, ma, ki, ou') → wpY_circles post (nI n, c, ln, fi, ma, ki, ou) (nI o) B := by
  obtain ⟨o1, a1, a2⟩ := cy_z (q := nI n) (t := c) (wh := ln) (fi := fi) (ma := ma) (ki := ki) (nI o) B 0 8 0 ou (by omega) (fun k hk => absurd hk (by omega))
  obtain ⟨o2, b1, b2⟩ := cy_f I (nI o) B 0 n 0 o1 (by omega) (fun q hq => ⟨fun ⟨k, hk, _⟩ => absurd hk (by omega), fun _ => a1 q (by omega)⟩)
  refine ⟨o2, fun post h => ⟨9, a2 post ⟨n + 1, b2 post (cy_r b1 ho B ?_)⟩⟩⟩
  have e := cs_same (wf_v c ws wl wt) B ho hB
  by_cases z : bt (cs_it (cs_g (wf_v c ws wl wt) 5 0) 5 B) o = true
  · rw [if_pos (e.mp z)]; rw [if_pos z] at h; exact h
  · rw [if_neg (fun w => z (e.mpr w))]; rw [if_neg z] at h; exact h
/-- from nobody one gets nowhere -/
theorem cy_0 (E : Nat → Int32) {o : Nat} (ho : o < 5) : ¬ bt (cs_it (cs_g E 5 0) 5 0) o = true := by
  intro h
  exact cs_it_m (cs_g_sw E) (S := fun _ => False) (fun p _ sp => sp.elim) 5 0 (fun q _ z => by rw [b_0] at z; exact absurd z (by decide)) o ho h
theorem ag_o (p0 : Int32) : ((∀ post : Int32 → Prop, post 0 → wpX_isOwner post p0) ∧ (∀ (post : Int32 → Prop) (v : SY), post 1 → wpY_bad post v p0)) ∨ ∃ o, o < 5 ∧ p0 = nI o ∧ (∀ post : Int32 → Prop, post 1 → wpX_isOwner post p0) ∧ (∀ (post : Int32 → Prop) (v : SY), post 0 → wpY_bad post v p0) := by
  rcases pk_ix p0 (n := 5) (by omega) with h | h | ⟨o, ho, rfl⟩
  · exact Or.inl ⟨fun post a => br_t h a, fun post v a => br_t h a⟩
  · have h0 : ¬ p0 < 0 := fun z => absurd (Int32.lt_of_le_of_lt h z) (by decide)
    have h4 : ¬ p0 ≤ 4 := fun z => absurd (Int32.le_trans h z) (by decide)
    exact Or.inl ⟨fun post a => br_f h0 (br_t h a), fun post v a => br_f h0 (br_f h4 a)⟩
  · exact Or.inr ⟨o, ho, rfl, fun post a => br_f (nI_pos (by omega)) (br_f (nI_ge (b := 5) ho (by omega)) a), fun post v a => br_f (nI_pos (by omega)) (br_t (nI_le (b := 4) (by omega) (by omega)) a)⟩
theorem ag_b (p0 : Int32) : ((∀ post : Int32 → Prop, post 0 → wpX_isByte post p0) ∧ (∀ (post : Int32 → Prop) (v : SY), post 1 → wpY_badByte post v p0)) ∨ ∃ o, o < 40 ∧ p0 = nI o ∧ (∀ post : Int32 → Prop, post 1 → wpX_isByte post p0) ∧ (∀ (post : Int32 → Prop) (v : SY), post 0 → wpY_badByte post v p0) := by
  rcases pk_ix p0 (n := 40) (by omega) with h | h | ⟨o, ho, rfl⟩
  · exact Or.inl ⟨fun post a => br_t h a, fun post v a => br_t h a⟩
  · have h0 : ¬ p0 < 0 := fun z => absurd (Int32.lt_of_le_of_lt h z) (by decide)
    have h4 : ¬ p0 ≤ 39 := fun z => absurd (Int32.le_trans h z) (by decide)
    exact Or.inl ⟨fun post a => br_f h0 (br_t h a), fun post v a => br_f h0 (br_f h4 a)⟩
  · exact Or.inr ⟨o, ho, rfl, fun post a => br_f (nI_pos (by omega)) (br_f (nI_ge (b := 40) ho (by omega)) a), fun post v a => br_f (nI_pos (by omega)) (br_t (nI_le (b := 39) (by omega) (by omega)) a)⟩
theorem ag_r (p0 p1 : Int32) : ((∀ post : Int32 → Prop, post 0 → wpX_isRange post p0 p1) ∧ (∀ (post : Int32 → Prop) (v : SY), post 1 → wpY_badRange post v p0 p1)) ∨ ∃ s l, s + l ≤ 40 ∧ p0 = nI s ∧ p1 = nI l ∧ (∀ post : Int32 → Prop, post 1 → wpX_isRange post p0 p1) ∧ (∀ (post : Int32 → Prop) (v : SY), post 0 → wpY_badRange post v p0 p1) := by
  by_cases h1 : p1 < 1
  · exact Or.inl ⟨fun post a => br_t h1 a, fun post v a => br_t h1 a⟩
  · by_cases h2 : 40 < p1
    · exact Or.inl ⟨fun post a => br_f h1 (br_t h2 a), fun post v a => br_f h1 (br_t h2 a)⟩
    · by_cases h3 : p0 < 0
      · exact Or.inl ⟨fun post a => br_f h1 (br_f h2 (br_t h3 a)), fun post v a => br_f h1 (br_f h2 (br_t h3 a))⟩
      · by_cases h4 : 40 - p1 < p0
        · have h5 : ¬ p0 ≤ 40 - p1 := fun z => Int32.lt_irrefl (Int32.lt_of_lt_of_le h4 z)
          exact Or.inl ⟨fun post a => br_f h1 (br_f h2 (br_f h3 (br_t h4 a))), fun post v a => br_f h1 (br_f h2 (br_f h3 (br_f h5 a)))⟩
        · have h5 : p0 ≤ 40 - p1 := Int32.not_lt.mp h4
          have h10 : ¬ p1 < 0 := fun z => h1 (Int32.lt_trans z (by decide))
          refine Or.inr ?_
          obtain ⟨s, hs, e1⟩ := nI_of h3
          obtain ⟨l, hl, e2⟩ := nI_of h10
          have hl40 : l ≤ 40 := by
            rw [e2, rl_40, nI_ltI (by omega) hl] at h2
            omega
          refine ⟨s, l, ?_, e1, e2, fun post a => br_f h1 (br_f h2 (br_f h3 (br_f h4 a))), fun post v a => br_f h1 (br_f h2 (br_f h3 (br_t h5 a)))⟩
          rw [e1, e2, rl_40, pk_sub hl40, nI_leI hs (by omega)] at h5
          omega
theorem ag_q (p0 p1 p2 p3 p4 : Int32) :
    ((∀ post : Int32 → Prop, post (-1) → wpX_requestFault post p0 p1 p2 p3 p4) ∧ (∀ (post : Int32 → Prop) (v : SY), post 1 → wpY_bad post v p0)) ∨
    ∃ o, o < 5 ∧ p0 = nI o ∧ (∀ (post : Int32 → Prop) (v : SY), post 0 → wpY_bad post v p0) ∧
      (((∀ post : Int32 → Prop, post (-2) → wpX_requestFault post p0 p1 p2 p3 p4) ∧ (∀ (post : Int32 → Prop) (v : SY), post 1 → wpY_badRange post v p1 p2)) ∨
      ∃ s l, s + l ≤ 40 ∧ p1 = nI s ∧ p2 = nI l ∧ (∀ (post : Int32 → Prop) (v : SY), post 0 → wpY_badRange post v p1 p2) ∧
        (((p3 < p4 ∨ ¬ p3 ≤ 2) ∧ ∀ post : Int32 → Prop, post (-3) → wpX_requestFault post p0 p1 p2 p3 p4) ∨
        (¬ p3 < p4 ∧ p3 ≤ 2 ∧ ∀ post : Int32 → Prop, post 0 → wpX_requestFault post p0 p1 p2 p3 p4))) := by
  rcases ag_o p0 with ⟨hX, hY⟩ | ⟨o, ho, e, hX, hY⟩
  · exact Or.inl ⟨fun post a => hX _ (br_t rfl a), hY⟩
  · refine Or.inr ⟨o, ho, e, hY, ?_⟩
    rcases ag_r p1 p2 with ⟨rX, rY⟩ | ⟨s, l, hsl, e1, e2, rX, rY⟩
    · exact Or.inl ⟨fun post a => hX _ (br_f (by decide) (rX _ (br_t rfl a))), rY⟩
    · refine Or.inr ⟨s, l, hsl, e1, e2, rY, ?_⟩
      by_cases h1 : p3 < p4
      · exact Or.inl ⟨Or.inl h1, fun post a => hX _ (br_f (by decide) (rX _ (br_f (by decide) (br_t h1 a))))⟩
      · by_cases h2 : p3 ≤ 2
        · exact Or.inr ⟨h1, h2, fun post a => hX _ (br_f (by decide) (rX _ (br_f (by decide) (br_f h1 (br_t h2 a)))))⟩
        · exact Or.inl ⟨Or.inr h2, fun post a => hX _ (br_f (by decide) (rX _ (br_f (by decide) (br_f h1 (br_f h2 a)))))⟩
end
section
/-! lock, await, cancel, close -/
theorem ag_t0 {x : Int32} (h : ¬ x < 0) (h2 : x ≤ 2) : rl_V x := by
  obtain ⟨j, hj, rfl⟩ := nI_of2 (n := 2) (M := 2) (by decide) h h2
  have : j = 0 ∨ j = 1 ∨ j = 2 := by omega
  rcases this with rfl | rfl | rfl
  · exact Or.inl rfl
  · exact Or.inr (Or.inl rfl)
  · exact Or.inr (Or.inr rfl)
theorem ag_t1 {x : Int32} (h : ¬ x < 1) (h2 : x ≤ 2) : x = 1 ∨ x = 2 := by
  rcases ag_t0 (fun z => h (Int32.lt_trans z (by decide))) h2 with rfl | z | z
  · exact absurd (by decide) h
  · exact Or.inl z
  · exact Or.inr z
theorem ag_tn {x : Int32} (h : x < 1 ∨ ¬ x ≤ 2) : ¬ x = 1 ∧ ¬ x = 2 := by
  constructor <;> intro e <;> subst e <;> rcases h with z | z <;> revert z <;> decide
theorem rl_mk {k n : Nat} {c ws wl wt ln fi ma ki : Nat → Int32} (J : qu_I n c ws wl wt ln fi ma ki) (ou : Nat → Int32) : i_Rel k (nI n, c, ws, wl, wt, ln) (nI n, c, ln, fi, ma, ki, ou) := ⟨n, c, ws, wl, wt, ln, fi, ma, ki, ou, rfl, rfl, J⟩
section
variable {ll : Int32} {c ws wl wt ln : Nat → Int32} {o : Nat}
theorem iw_0 {post : Int32 → Prop} (ho : o < 5) (h : wt o = 0) (a : post 0) : wpX_isWaiting post (ll, c, ws, wl, wt, ln) (nI o) := ⟨vp_in_nI ho (by omega), br_t (by rw [rl_cl5 ho]; exact h) a⟩
theorem iw_1 {post : Int32 → Prop} (ho : o < 5) (h : ¬ wt o = 0) (a : post 1) : wpX_isWaiting post (ll, c, ws, wl, wt, ln) (nI o) := ⟨vp_in_nI ho (by omega), br_f (by rw [rl_cl5 ho]; exact h) a⟩
theorem ar_f {post : Int32 → Prop} {r p0 p1 p2 p3 : Int32} (hr : ¬ r = 0) (hq : ∀ post : Int32 → Prop, post r → wpX_requestFault post p0 p1 p2 p3 1) (h : post r) : wpX_awaitRefusal post (ll, c, ws, wl, wt, ln) p0 p1 p2 p3 := by unfold wpX_awaitRefusal; exact hq _ (br_f hr h)
theorem ar_w {post : Int32 → Prop} {p1 p2 p3 : Int32} (ho : o < 5) (hw : ¬ wt o = 0) (hq : ∀ post : Int32 → Prop, post 0 → wpX_requestFault post (nI o) p1 p2 p3 1) (h : post (-4)) : wpX_awaitRefusal post (ll, c, ws, wl, wt, ln) (nI o) p1 p2 p3 := by unfold wpX_awaitRefusal; exact hq _ (br_t rfl (iw_1 ho hw (br_f (by decide) h)))
end
/-- waiting would close a circle -/
def ar_C (c ws wl wt : Nat → Int32) (ty : Int32) (o s l : Nat) : Prop := bt (cs_it (cs_g (wf_v c ws wl wt) 5 0) 5 (op_v c ty o s l)) o = true
theorem ar_v {post : Int32 → Prop} {n : Nat} {c ws wl wt ln fi ma ki : Nat → Int32} (J : qu_I n c ws wl wt ln fi ma ki) {ty : Int32} {o s l : Nat} (ho : o < 5) (hsl : s + l ≤ 40) (ht : ty = 1 ∨ ty = 2) (hw : wt o = 0) (hq : ∀ post : Int32 → Prop, post 0 → wpX_requestFault post (nI o) (nI s) (nI l) ty 1) (h1 : ar_C c ws wl wt ty o s l → post (-5)) (h0 : ¬ ar_C c ws wl wt ty o s l → post 0) : wpX_awaitRefusal post (nI n, c, ws, wl, wt, ln) (nI o) (nI s) (nI l) ty := by
  unfold wpX_awaitRefusal
  refine hq _ (br_t rfl (iw_0 ho hw (br_t rfl (ox_v ho hsl (rl_V12 ht) J.2.1 (lt_v J ho _ _ ?_)))))
  by_cases z : ar_C c ws wl wt ty o s l
  · rw [if_pos (show bt (cs_it (cs_g (wf_v c ws wl wt) 5 0) 5 (op_v c ty o s l)) o = true from z)]; exact br_f (by decide) (h1 z)
  · rw [if_neg (show ¬ bt (cs_it (cs_g (wf_v c ws wl wt) 5 0) 5 (op_v c ty o s l)) o = true from z)]; exact br_t rfl (h0 z)
theorem i_vc_lock {k : Nat} {u : SX} {v : SY} (I : i_Rel k u v) (hk : k + 5 ≤ 2560) (v1 : Int32) (v2 : Int32) (v3 : Int32) (v4 : Int32) : wpX_lock (fun r u' => wpY_lock (fun r' v' => r' = r ∧ i_Rel (k + 5) u' v') v v1 v2 v3 v4) u v1 v2 v3 v4 := by
  obtain ⟨n, c, ws, wl, wt, ln, fi, ma, ki, ou, rfl, rfl, J⟩ := I
  unfold wpX_lock wpY_lock
  dsimp only
  rcases ag_q v1 v2 v3 v4 0 with ⟨hX, hY⟩ | ⟨o, ho, rfl, hY, hr⟩
  · exact hX _ (br_f (by decide) (hY _ _ (br_f (by decide) ⟨rfl, rl_mk J ou⟩)))
  rcases hr with ⟨hX, rY⟩ | ⟨s, l, hsl, rfl, rfl, rY, ht⟩
  · exact hX _ (br_f (by decide) (hY _ _ (br_t rfl (rY _ _ (br_f (by decide) ⟨rfl, rl_mk J ou⟩)))))
  rcases ht with ⟨ht, hX⟩ | ⟨t1, t2, hX⟩
  · refine hX _ (br_f (by decide) (hY _ _ (br_t rfl (rY _ _ (br_t rfl ?_)))))
    by_cases z : v4 < 0
    · exact br_t z ⟨rfl, rl_mk J ou⟩
    · exact br_f z (br_f (ht.elim (fun w => absurd w z) id) ⟨rfl, rl_mk J ou⟩)
  have hV := ag_t0 t1 t2
  rcases pl_v J ou ho with ⟨j, hj, ej, _, hw, hP⟩ | ⟨_, hw, hP⟩
  · refine hX _ (br_t rfl (iw_1 ho hw (br_f (by decide) ?_)))
    exact hY _ _ (br_t rfl (rY _ _ (br_t rfl (br_f t1 (br_t t2 (hP _ (br_f (nI_pos (by have := J.1; omega)) ⟨rfl, rl_mk J ou⟩)))))))
  · by_cases z : op_v c v4 o s l = 0
    · obtain ⟨r, n', c', wt', ln', fi', ma', ki', J', kX, kY⟩ := st_v (qu_put J (pt_V hV l (o * 40 + s) c J.2.1)) ou
      refine hX _ (br_t rfl (iw_0 ho hw (br_t rfl (ox_v ho hsl hV J.2.1 (br_t z (px_v ho hsl (kX _ ?_)))))))
      exact hY _ _ (br_t rfl (rY _ _ (br_t rfl (br_f t1 (br_t t2 (hP _ (br_t (by decide) (oy_v ho hsl (br_t z (py_v ho hsl (kY _ ⟨rfl, rl_mk J' ou⟩)))))))))))
    · refine hX _ (br_t rfl (iw_0 ho hw (br_t rfl (ox_v ho hsl hV J.2.1 (br_f z ?_)))))
      exact hY _ _ (br_t rfl (rY _ _ (br_t rfl (br_f t1 (br_t t2 (hP _ (br_t (by decide) (oy_v ho hsl (br_f z ⟨rfl, rl_mk J ou⟩)))))))))
theorem aw_t {A B : Prop} {ty : Int32} (ht : ty = 1 ∨ ty = 2) (h : A) : (ty = 1 → A) ∧ (¬ ty = 1 → ((ty = 2 → A) ∧ (¬ ty = 2 → B))) := by
  rcases ht with e | e
  · exact br_t e h
  · by_cases e1 : ty = 1
    · exact br_t e1 h
    · exact br_f e1 (br_t e h)
theorem i_vc_await {k : Nat} {u : SX} {v : SY} (I : i_Rel k u v) (hk : k + 5 ≤ 2560) (v1 : Int32) (v2 : Int32) (v3 : Int32) (v4 : Int32) : wpX_await (fun r u' => wpY_await (fun r' v' => r' = r ∧ i_Rel (k + 5) u' v') v v1 v2 v3 v4) u v1 v2 v3 v4 := by
  obtain ⟨n, c, ws, wl, wt, ln, fi, ma, ki, ou, rfl, rfl, J⟩ := I
  unfold wpX_await wpY_await
  dsimp only
  rcases ag_q v1 v2 v3 v4 1 with ⟨hX, hY⟩ | ⟨o, ho, rfl, hY, hr⟩
  · exact ar_f (by decide) hX (br_f (by decide) (hY _ _ (br_f (by decide) ⟨rfl, rl_mk J ou⟩)))
  rcases hr with ⟨hX, rY⟩ | ⟨s, l, hsl, rfl, rfl, rY, ht⟩
  · exact ar_f (by decide) hX (br_f (by decide) (hY _ _ (br_t rfl (rY _ _ (br_f (by decide) ⟨rfl, rl_mk J ou⟩)))))
  rcases ht with ⟨ht, hX⟩ | ⟨t1, t2, hX⟩
  · obtain ⟨n1, n2⟩ := ag_tn ht
    exact ar_f (by decide) hX (br_f (by decide) (hY _ _ (br_t rfl (rY _ _ (br_t rfl (br_f n1 (br_f n2 ⟨rfl, rl_mk J ou⟩)))))))
  have ht := ag_t1 t1 t2
  have hV := rl_V12 ht
  rcases pl_v J ou ho with ⟨j, hj, ej, _, hw, hP⟩ | ⟨_, hw, hP⟩
  · refine ar_w ho hw hX (br_f (by decide) (hY _ _ (br_t rfl (rY _ _ (br_t rfl (aw_t ht ?_))))))
    exact hP _ (br_f (nI_pos (by have := J.1; omega)) ⟨rfl, rl_mk J ou⟩)
  · by_cases z : op_v c v4 o s l = 0
    · have hC : ¬ ar_C c ws wl wt v4 o s l := by unfold ar_C; rw [z]; exact cy_0 _ ho
      obtain ⟨r, n', c', wt', ln', fi', ma', ki', J', kX, kY⟩ := st_v (qu_put J (pt_V hV l (o * 40 + s) c J.2.1)) ou
      refine ar_v J ho hsl ht hw hX (fun w => absurd w hC) (fun _ => br_t rfl (ox_v ho hsl hV J.2.1 (br_t z (px_v ho hsl (kX _ ?_)))))
      refine hY _ _ (br_t rfl (rY _ _ (br_t rfl (aw_t ht ?_))))
      exact hP _ (br_t (by decide) (oy_v ho hsl (br_t z (py_v ho hsl (kY _ ⟨rfl, rl_mk J' ou⟩)))))
    · obtain ⟨ou', hcy⟩ := cy_v J ou ho (op_v c v4 o s l) (op_vb c v4 s l ho)
      refine ar_v J ho hsl ht hw hX (fun w => ?_) (fun w => br_t rfl (ox_v ho hsl hV J.2.1 (br_f z ?_)))
      · refine br_f (by decide) (hY _ _ (br_t rfl (rY _ _ (br_t rfl (aw_t ht ?_)))))
        refine hP _ (br_t (by decide) (oy_v ho hsl (br_f z (hcy _ ?_))))
        rw [if_pos (show bt (cs_it (cs_g (wf_v c ws wl wt) 5 0) 5 (op_v c v4 o s l)) o = true from w)]
        exact br_f (by decide) ⟨rfl, rl_mk J ou'⟩
      · have hn := qu_room J ho hw
        have a5 : vp_in (nI n) 5 := vp_in_nI hn (by omega)
        have a8 : vp_in (nI n) 8 := vp_in_nI (by omega) (by omega)
        have b5 : vp_in (nI o) 5 := vp_in_nI ho (by omega)
        have J' := qu_add J ho hw hsl ht
        refine br_f (nI_ge (b := 5) hn (by omega)) ⟨a5, ?_⟩
        rw [rl_cl5 hn, rl_cl5 ho]
        refine nm_e (nm_r (nI_1 n) ⟨b5, nm_e ⟨b5, nm_e ⟨b5, nm_e ?_⟩⟩⟩)
        refine hY _ _ (br_t rfl (rY _ _ (br_t rfl (aw_t ht ?_))))
        refine hP _ (br_t (by decide) (oy_v ho hsl (br_f z (hcy _ ?_))))
        rw [if_neg (show ¬ bt (cs_it (cs_g (wf_v c ws wl wt) 5 0) 5 (op_v c v4 o s l)) o = true from w)]
        refine br_t rfl (br_f (nI_ge (b := 8) (by omega) (by omega)) ⟨a8, ?_⟩)
        rw [rl_cl5 hn]
        exact nm_e ⟨a8, nm_e ⟨a8, nm_e ⟨a8, nm_e (nm_r (nI_1 n) ⟨rfl, rl_mk J' ou'⟩)⟩⟩⟩
theorem i_vc_cancel {k : Nat} {u : SX} {v : SY} (I : i_Rel k u v) (hk : k + 5 ≤ 2560) (v1 : Int32) : wpX_cancel (fun r u' => wpY_cancel (fun r' v' => r' = r ∧ i_Rel (k + 5) u' v') v v1) u v1 := by
  obtain ⟨n, c, ws, wl, wt, ln, fi, ma, ki, ou, rfl, rfl, J⟩ := I
  unfold wpX_cancel wpY_cancel
  dsimp only
  rcases ag_o v1 with ⟨hX, hY⟩ | ⟨o, ho, rfl, hX, hY⟩
  · exact hX _ (br_t rfl (hY _ _ (br_f (by decide) ⟨rfl, rl_mk J ou⟩)))
  rcases pl_v J ou ho with ⟨j, hj, ej, _, hw, hP⟩ | ⟨_, hw, hP⟩
  · obtain ⟨m, rfl⟩ : ∃ m, n = m + 1 := ⟨n - 1, by omega⟩
    have hm : m < 5 := by have := J.1; omega
    refine hX _ (br_f (by decide) (iw_1 ho hw (br_f (by decide) (sx_in J hj ho ej _ ?_))))
    exact hY _ _ (br_t rfl (hP _ (br_t (nI_pos' (by omega)) (sy_v hm hj ⟨rfl, rl_mk (qu_rem J hj ho ej) ou⟩))))
  · exact hX _ (br_f (by decide) (iw_0 ho hw (br_t rfl (hY _ _ (br_t rfl (hP _ (br_f (by decide) ⟨rfl, rl_mk J ou⟩)))))))
def cz_f (c : Nat → Int32) (o : Nat) (ty : Int32) : Nat → Nat → Nat
  | 0, _ => 0
  | m + 1, a => (if c (o * 40 + a) = ty then 1 else 0) + cz_f c o ty m (a + 1)
theorem cz_le (c : Nat → Int32) (o : Nat) (ty : Int32) : ∀ m a, cz_f c o ty m a ≤ m := by
  intro m
  induction m with
  | zero => intro a; exact Nat.le_refl _
  | succ m ih =>
    intro a
    have := ih (a + 1)
    show _ + _ ≤ _
    by_cases z : c (o * 40 + a) = ty
    · rw [if_pos z]; omega
    · rw [if_neg z]; omega
theorem cz_x {post : Int32 → Prop} {ll ty : Int32} {c ws wl wt ln : Nat → Int32} {o : Nat} (ho : o < 5) : ∀ m a z, a + m = 40 → post (nI (z + cz_f c o ty m a)) → wX_bytesWith_5 post (nI o) ty ll c ws wl wt ln (m + 1) (nI z) (nI a) := by
  intro m
  induction m with
  | zero => intro a z ha h; exact br_t (nI_le (a := 40) (by omega) (by omega)) h
  | succ m ih =>
    intro a z ha h
    refine br_f (nI_ge (b := 40) (by omega) (by omega)) ⟨rl_in1 ho (by omega), ?_⟩
    rw [rl_c1 ho (by omega)]
    have e : cz_f c o ty (m + 1) a = (if c (o * 40 + a) = ty then 1 else 0) + cz_f c o ty m (a + 1) := rfl
    rw [e] at h
    by_cases w : c (o * 40 + a) = ty
    · rw [if_pos w, ← Nat.add_assoc] at h
      exact br_t w (nm_r (nI_1 z) (nm_r (nI_1 a) (ih (a + 1) (z + 1) (by omega) h)))
    · rw [if_neg w, Nat.zero_add] at h
      exact br_f w (nm_r (nI_1 a) (ih (a + 1) z (by omega) h))
theorem cz_y {post : Int32 → SY → Prop} {q : Int32} {t wh fi ma ki ou : Nat → Int32} {o : Nat} (ho : o < 5) : ∀ m a z, a + m = 40 → wY_close_14 post (nI o) q t wh fi ma ki ou 1 (nI (z + (m - cz_f t o 0 m a))) (nI 40) → wY_close_14 post (nI o) q t wh fi ma ki ou (m + 1) (nI z) (nI a) := by
  intro m
  induction m with
  | zero =>
    intro a z ha h
    have : a = 40 := by omega
    subst this
    exact h
  | succ m ih =>
    intro a z ha h
    refine br_f (nI_ge (b := 40) (by omega) (by omega)) ⟨rl_in2 ho (by omega), ?_⟩
    rw [rl_c2 ho (by omega)]
    have e : cz_f t o 0 (m + 1) a = (if t (o * 40 + a) = 0 then 1 else 0) + cz_f t o 0 m (a + 1) := rfl
    have hle := cz_le t o 0 m (a + 1)
    rw [e] at h
    by_cases w : t (o * 40 + a) = 0
    · rw [if_pos w, show m + 1 - (1 + cz_f t o 0 m (a + 1)) = m - cz_f t o 0 m (a + 1) from by omega] at h
      exact br_t w (nm_r (nI_1 a) (ih (a + 1) z (by omega) h))
    · rw [if_neg w, show z + (m + 1 - (0 + cz_f t o 0 m (a + 1))) = z + 1 + (m - cz_f t o 0 m (a + 1)) from by omega] at h
      exact br_f w (nm_r (nI_1 z) (nm_r (nI_1 a) (ih (a + 1) (z + 1) (by omega) h)))
theorem i_vc_close {k : Nat} {u : SX} {v : SY} (I : i_Rel k u v) (hk : k + 5 ≤ 2560) (v1 : Int32) : wpX_close (fun r u' => wpY_close (fun r' v' => r' = r ∧ i_Rel (k + 5) u' v') v v1) u v1 := by
  obtain ⟨n, c, ws, wl, wt, ln, fi, ma, ki, ou, rfl, rfl, J⟩ := I
  unfold wpX_close wpY_close
  dsimp only
  rcases ag_o v1 with ⟨hX, hY⟩ | ⟨o, ho, rfl, hX, hY⟩
  · exact hX _ (br_t rfl (hY _ _ (br_f (by decide) ⟨rfl, rl_mk J ou⟩)))
  have hle := cz_le c o 0 40 0
  have e : 40 - nI (0 + cz_f c o 0 40 0) = nI (0 + (40 - cz_f c o 0 40 0)) := by
    rw [rl_40, pk_sub (by omega), Nat.zero_add, Nat.zero_add]
  have Jp := qu_put J (pt_V (Or.inl rfl) 40 (o * 40 + 0) c J.2.1)
  rcases pl_v J ou ho with ⟨j, hj, ej, _, hw, hP⟩ | ⟨_, hw, hP⟩
  · obtain ⟨m, rfl⟩ : ∃ m, n = m + 1 := ⟨n - 1, by omega⟩
    have hm : m < 5 := by have := J.1; omega
    obtain ⟨r, n', c', wt', ln', fi', ma', ki', J', kX, kY⟩ := st_v (qu_rem Jp hj ho ej) ou
    refine hX _ (br_f (by decide) ⟨41, cz_x ho 40 0 0 (by omega) (nm_r e (px_v (s := 0) (l := 40) ho (by omega) (sx_in J hj ho ej _ (kX _ ?_))))⟩)
    refine hY _ _ (br_t rfl ⟨41, cz_y ho 40 0 0 (by omega) (br_t (nI_le (a := 40) (by omega) (by omega)) (hP _ (br_f (nI_pos (by omega)) (sy_v hm hj ?_))))⟩)
    exact py_v (s := 0) (l := 40) ho (by omega) (kY _ ⟨rfl, rl_mk J' ou⟩)
  · obtain ⟨r, n', c', wt', ln', fi', ma', ki', J', kX, kY⟩ := st_v Jp ou
    refine hX _ (br_f (by decide) ⟨41, cz_x ho 40 0 0 (by omega) (nm_r e (px_v (s := 0) (l := 40) ho (by omega) (sx_no J ho hw _ (kX _ ?_))))⟩)
    refine hY _ _ (br_t rfl ⟨41, cz_y ho 40 0 0 (by omega) (br_t (nI_le (a := 40) (by omega) (by omega)) (hP _ (br_t (by decide) ?_)))⟩)
    exact py_v (s := 0) (l := 40) ho (by omega) (kY _ ⟨rfl, rl_mk J' ou⟩)
end
section
/-! the questions -/
section
variable {ll q : Int32} {c ws wl wt ln wh fi ma ki ou : Nat → Int32}
theorem hs_l {a : Nat} (ha : a < 40) : ∀ m p f, p + m = 5 → ∃ r : Int32, (∀ post : Int32 → Prop, post r → wX_holderSet_4 post (nI a) ll c ws wl wt ln (m + 1) f (nI p)) ∧ (∀ post : Int32 → Prop, post r → wY_holders_14 post (nI a) q c wh fi ma ki ou (m + 1) f (nI p)) := by
  intro m
  induction m with
  | zero =>
    intro p f hp
    have h5 : (5 : Int32) ≤ nI p := nI_le (a := 5) (by omega) (by omega)
    exact ⟨f, fun post h => br_t h5 h, fun post h => br_t h5 h⟩
  | succ m ih =>
    intro p f hp
    have h5 : ¬ (5 : Int32) ≤ nI p := nI_ge (b := 5) (by omega) (by omega)
    have hp5 : p < 5 := by omega
    by_cases z : c (p * 40 + a) = 0
    · obtain ⟨r, hX, hY⟩ := ih (p + 1) f (by omega)
      exact ⟨r, fun post h => br_f h5 ⟨rl_in1 hp5 ha, br_t (by rw [rl_c1 hp5 ha]; exact z) (nm_r (nI_1 p) (hX post h))⟩, fun post h => br_f h5 ⟨rl_in2 hp5 ha, br_t (by rw [rl_c2 hp5 ha]; exact z) (nm_r (nI_1 p) (hY post h))⟩⟩
    · obtain ⟨r, hX, hY⟩ := ih (p + 1) _ (by omega)
      exact ⟨r, fun post h => br_f h5 ⟨rl_in1 hp5 ha, br_f (by rw [rl_c1 hp5 ha]; exact z) (nm_e (nm_r (nI_1 p) (hX post h)))⟩, fun post h => br_f h5 ⟨rl_in2 hp5 ha, br_f (by rw [rl_c2 hp5 ha]; exact z) (nm_e (nm_r (nI_1 p) (hY post h)))⟩⟩
theorem hs_v {a : Nat} (ha : a < 40) : ∃ r : Int32, (∀ post : Int32 → Prop, post r → wpX_holderSet post (ll, c, ws, wl, wt, ln) (nI a)) ∧ (∀ post : Int32 → Prop, post r → wpY_holders post (q, c, wh, fi, ma, ki, ou) (nI a)) := by
  obtain ⟨r, hX, hY⟩ := hs_l (ll := ll) (q := q) (c := c) (ws := ws) (wl := wl) (wt := wt) (ln := ln) (wh := wh) (fi := fi) (ma := ma) (ki := ki) (ou := ou) ha 5 0 0 (by omega)
  refine ⟨r, fun post h => ⟨6, hX post h⟩, fun post h => ?_⟩
  unfold wpY_holders
  exact br_f (nI_pos (by omega)) (br_t (nI_le (b := 39) (by omega) (by omega)) (br_t rfl ⟨6, hY post h⟩))
theorem fr_l : ∀ m a z, a + m = 40 → ∃ r : Int32, (∀ post : Int32 → Prop, post r → wX_free_4 post ll c ws wl wt ln (m + 1) z (nI a)) ∧ (∀ post : Int32 → Prop, post r → wY_free_4 post q c wh fi ma ki ou (m + 1) z (nI a)) := by
  intro m
  induction m with
  | zero =>
    intro a z ha
    have h : (40 : Int32) ≤ nI a := nI_le (a := 40) (by omega) (by omega)
    exact ⟨z, fun post x => br_t h x, fun post x => br_t h x⟩
  | succ m ih =>
    intro a z ha
    have h : ¬ (40 : Int32) ≤ nI a := nI_ge (b := 40) (by omega) (by omega)
    obtain ⟨s, sX, sY⟩ := hs_v (ll := ll) (q := q) (c := c) (ws := ws) (wl := wl) (wt := wt) (ln := ln) (wh := wh) (fi := fi) (ma := ma) (ki := ki) (ou := ou) (show a < 40 by omega)
    by_cases w : s = 0
    · obtain ⟨r, hX, hY⟩ := ih (a + 1) (z + 1) (by omega)
      exact ⟨r, fun post x => br_f h (sX _ (br_t w (nm_e (nm_r (nI_1 a) (hX post x))))), fun post x => br_f h (sY _ (br_t w (nm_e (nm_r (nI_1 a) (hY post x)))))⟩
    · obtain ⟨r, hX, hY⟩ := ih (a + 1) z (by omega)
      exact ⟨r, fun post x => br_f h (sX _ (br_f w (nm_r (nI_1 a) (hX post x)))), fun post x => br_f h (sY _ (br_f w (nm_r (nI_1 a) (hY post x))))⟩
theorem bg_v {o a : Nat} (ho : o < 5) (ha : a < 40) : ∃ r : Int32, (∀ post : Int32 → Prop, post r → wpX_beginsPiece post (ll, c, ws, wl, wt, ln) (nI o) (nI a)) ∧ (∀ post : Int32 → Prop, post r → wpY_begins post (q, c, wh, fi, ma, ki, ou) (nI o) (nI a)) := by
  have x1 := rl_in1 ho ha
  have x2 := rl_in2 ho ha
  have y1 := rl_c1 ho ha
  have y2 := rl_c2 ho ha
  by_cases z : c (o * 40 + a) = 0
  · exact ⟨0, fun post h => ⟨x1, nm_r (by rw [y1]) (br_t z h)⟩, fun post h => ⟨x2, br_t (by rw [y2]; exact z) h⟩⟩
  · by_cases w : a = 0
    · subst w
      exact ⟨1, fun post h => ⟨x1, nm_r (by rw [y1]) (br_f z (br_t rfl h))⟩, fun post h => ⟨x2, br_f (by rw [y2]; exact z) (br_t rfl h)⟩⟩
    · obtain ⟨b, rfl⟩ : ∃ b, a = b + 1 := ⟨a - 1, by omega⟩
      have n0 : ¬ nI (b + 1) = 0 := nI_ne0 (by omega) (by omega)
      have e1 : nI o * 40 + nI (b + 1) - 1 = nI (o * 40 + b) := by rw [rl_ix1]; exact nI_pred (o * 40 + b)
      have e2 : 40 * nI o + nI (b + 1) - 1 = nI (o * 40 + b) := by rw [rl_ix2]; exact nI_pred (o * 40 + b)
      have ee : (nI (o * 40 + b)).toNatClampNeg = o * 40 + b := nI_clamp (by omega)
      have v : vp_in (nI (o * 40 + b)) 200 := vp_in_nI (by omega) (by omega)
      by_cases y : c (o * 40 + b) = c (o * 40 + (b + 1))
      · refine ⟨0, fun post h => ⟨x1, nm_r (by rw [y1]) (br_f z (br_f n0 ?_))⟩, fun post h => ⟨x2, br_f (by rw [y2]; exact z) (br_f n0 ?_)⟩⟩
        · rw [e1, ee]; exact ⟨v, br_t y h⟩
        · rw [e2, ee, y2]; exact ⟨v, x2, br_t y h⟩
      · refine ⟨1, fun post h => ⟨x1, nm_r (by rw [y1]) (br_f z (br_f n0 ?_))⟩, fun post h => ⟨x2, br_f (by rw [y2]; exact z) (br_f n0 ?_)⟩⟩
        · rw [e1, ee]; exact ⟨v, br_f y h⟩
        · rw [e2, ee, y2]; exact ⟨v, x2, br_f y h⟩
theorem pc_l {o : Nat} (ho : o < 5) : ∀ m a z, a + m = 40 → ∃ r : Int32, (∀ post : Int32 → Prop, post r → wX_pieces_13 post (nI o) ll c ws wl wt ln (m + 1) z (nI a)) ∧ (∀ post : Int32 → Prop, post r → wY_pieces_14 post (nI o) q c wh fi ma ki ou (m + 1) z (nI a)) := by
  intro m
  induction m with
  | zero =>
    intro a z ha
    have h : (40 : Int32) ≤ nI a := nI_le (a := 40) (by omega) (by omega)
    exact ⟨z, fun post x => br_t h x, fun post x => br_t h x⟩
  | succ m ih =>
    intro a z ha
    have h : ¬ (40 : Int32) ≤ nI a := nI_ge (b := 40) (by omega) (by omega)
    obtain ⟨s, sX, sY⟩ := bg_v (ll := ll) (q := q) (c := c) (ws := ws) (wl := wl) (wt := wt) (ln := ln) (wh := wh) (fi := fi) (ma := ma) (ki := ki) (ou := ou) ho (show a < 40 by omega)
    by_cases w : s = 0
    · obtain ⟨r, hX, hY⟩ := ih (a + 1) z (by omega)
      exact ⟨r, fun post x => br_f h (sX _ (br_t w (nm_r (nI_1 a) (hX post x)))), fun post x => br_f h (sY _ (br_t w (nm_r (nI_1 a) (hY post x))))⟩
    · obtain ⟨r, hX, hY⟩ := ih (a + 1) (z + 1) (by omega)
      exact ⟨r, fun post x => br_f h (sX _ (br_f w (nm_e (nm_r (nI_1 a) (hX post x))))), fun post x => br_f h (sY _ (br_f w (nm_e (nm_r (nI_1 a) (hY post x)))))⟩
theorem fb_l {o : Nat} (ho : o < 5) (pc : Int32) : ∀ m a z, a + m = 40 → ∃ r : Int32, (r = -2 ∨ ∃ b, b < 40 ∧ r = nI b) ∧ (∀ post : Int32 → Prop, post r → wX_firstByte_5 post (nI o) pc ll c ws wl wt ln (m + 1) z (nI a)) ∧ (∀ post : Int32 → Prop, post r → wY_startOf_5 post (nI o) pc q c wh fi ma ki ou (m + 1) z (nI a)) := by
  intro m
  induction m with
  | zero =>
    intro a z ha
    have h : (40 : Int32) ≤ nI a := nI_le (a := 40) (by omega) (by omega)
    exact ⟨-2, Or.inl rfl, fun post x => br_t h x, fun post x => br_t h x⟩
  | succ m ih =>
    intro a z ha
    have h : ¬ (40 : Int32) ≤ nI a := nI_ge (b := 40) (by omega) (by omega)
    obtain ⟨s, sX, sY⟩ := bg_v (ll := ll) (q := q) (c := c) (ws := ws) (wl := wl) (wt := wt) (ln := ln) (wh := wh) (fi := fi) (ma := ma) (ki := ki) (ou := ou) ho (show a < 40 by omega)
    by_cases w : s = 0
    · obtain ⟨r, hr, hX, hY⟩ := ih (a + 1) z (by omega)
      exact ⟨r, hr, fun post x => br_f h (sX _ (br_t w (nm_r (nI_1 a) (hX post x)))), fun post x => br_f h (sY _ (br_t w (nm_r (nI_1 a) (hY post x))))⟩
    · by_cases y : z = pc
      · exact ⟨nI a, Or.inr ⟨a, by omega, rfl⟩, fun post x => br_f h (sX _ (br_f w (br_t y x))), fun post x => br_f h (sY _ (br_f w (br_t y x)))⟩
      · obtain ⟨r, hr, hX, hY⟩ := ih (a + 1) (z + 1) (by omega)
        exact ⟨r, hr, fun post x => br_f h (sX _ (br_f w (br_f y (nm_e (nm_r (nI_1 a) (hX post x)))))), fun post x => br_f h (sY _ (br_f w (br_f y (nm_e (nm_r (nI_1 a) (hY post x))))))⟩
theorem fb_v {o : Nat} (ho : o < 5) (pc : Int32) : ∃ r : Int32, (r = -2 ∨ ∃ b, b < 40 ∧ r = nI b) ∧ (∀ post : Int32 → Prop, post r → wpX_firstByte post (ll, c, ws, wl, wt, ln) (nI o) pc) ∧ (∀ post : Int32 → Prop, post r → wpY_startOf post (q, c, wh, fi, ma, ki, ou) (nI o) pc) := by
  obtain ⟨r, hr, hX, hY⟩ := fb_l (ll := ll) (q := q) (c := c) (ws := ws) (wl := wl) (wt := wt) (ln := ln) (wh := wh) (fi := fi) (ma := ma) (ki := ki) (ou := ou) ho pc 40 0 0 (by omega)
  exact ⟨r, hr, fun post h => ⟨41, hX post h⟩, fun post h => ⟨41, hY post h⟩⟩
theorem pe_l {o b : Nat} (ho : o < 5) (hb : b < 40) : ∀ m a, a + m = 39 → c (o * 40 + a) = c (o * 40 + b) → ∃ r : Int32, (∀ post : Int32 → Prop, post r → wX_pieceEnd_31 post (nI o) (nI b) ll c ws wl wt ln (m + 1) (nI a) (nI (a + 1))) ∧ (∀ post : Int32 → Prop, post r → wY_pieceEnd_24 post (nI o) q c wh fi ma ki ou (m + 1) (nI a)) := by
  intro m
  induction m with
  | zero =>
    intro a ha _
    have h1 : (40 : Int32) ≤ nI (a + 1) := nI_le (a := 40) (by omega) (by omega)
    have h2 : (39 : Int32) ≤ nI a := nI_le (a := 39) (by omega) (by omega)
    exact ⟨nI a, fun post x => br_t h1 x, fun post x => br_t h2 x⟩
  | succ m ih =>
    intro a ha hc
    have h1 : ¬ (40 : Int32) ≤ nI (a + 1) := nI_ge (b := 40) (by omega) (by omega)
    have h2 : ¬ (39 : Int32) ≤ nI a := nI_ge (b := 39) (by omega) (by omega)
    have i1 := rl_in1 ho (show a + 1 < 40 by omega)
    have i2 := rl_in1 ho hb
    have y1 := rl_c1 ho (show a + 1 < 40 by omega)
    have y2 := rl_c1 ho hb
    have e : 40 * nI o + nI a + 1 = nI (o * 40 + (a + 1)) := by rw [rl_ix2]; exact nI_1 (o * 40 + a)
    have j1 : vp_in (40 * nI o + nI a + 1) 200 := by rw [e]; exact vp_in_nI (by omega) (by omega)
    have j2 := rl_in2 ho (show a < 40 by omega)
    have w1 : (40 * nI o + nI a + 1).toNatClampNeg = o * 40 + (a + 1) := by rw [e]; exact nI_clamp (by omega)
    have w2 := rl_c2 ho (show a < 40 by omega)
    by_cases z : c (o * 40 + (a + 1)) = c (o * 40 + b)
    · obtain ⟨r, hX, hY⟩ := ih (a + 1) (by omega) z
      exact ⟨r, fun post x => br_f h1 ⟨i1, i2, br_t (by rw [y1, y2]; exact z) (nm_r (nI_1 (a + 1)) (hX post x))⟩, fun post x => br_f h2 ⟨j1, j2, br_t (by rw [w1, w2, hc]; exact z) (nm_r (nI_1 a) (hY post x))⟩⟩
    · exact ⟨nI a, fun post x => br_f h1 ⟨i1, i2, br_f (by rw [y1, y2]; exact z) x⟩, fun post x => br_f h2 ⟨j1, j2, br_f (by rw [w1, w2, hc]; exact z) x⟩⟩
theorem cz_c {post : Int32 → Prop} {ty : Int32} {o : Nat} (ho : o < 5) : ∀ m a z, a + m = 40 → post (nI (z + cz_f c o ty m a)) → wY_count_27 post (nI o) ty q c wh fi ma ki ou (m + 1) (nI z) (nI a) := by
  intro m
  induction m with
  | zero => intro a z ha h; exact br_t (nI_le (a := 40) (by omega) (by omega)) h
  | succ m ih =>
    intro a z ha h
    refine br_f (nI_ge (b := 40) (by omega) (by omega)) ⟨rl_in2 ho (by omega), ?_⟩
    rw [rl_c2 ho (by omega)]
    have e : cz_f c o ty (m + 1) a = (if c (o * 40 + a) = ty then 1 else 0) + cz_f c o ty m (a + 1) := rfl
    rw [e] at h
    by_cases w : c (o * 40 + a) = ty
    · rw [if_pos w, ← Nat.add_assoc] at h
      exact br_t w (nm_r (nI_1 z) (nm_r (nI_1 a) (ih (a + 1) (z + 1) (by omega) h)))
    · rw [if_neg w, Nat.zero_add] at h
      exact br_f w (nm_r (nI_1 a) (ih (a + 1) z (by omega) h))
theorem ob_l {o s l : Nat} {ty : Int32} (ho : o < 5) (hsl : s + l ≤ 40) (ht : rl_V ty) (hc : ∀ j, rl_V (c j)) : ∀ m a, a + m = s + l → ∃ r : Int32, (∀ post : Int32 → Prop, post r → wX_obstacle_27 post (nI o) ty (nI (s + l)) ll c ws wl wt ln (m + 1) (nI a)) ∧ (∀ post : Int32 → Prop, post r → wY_obstacle_40 post (nI o) (nI s) (nI l) ty q c wh fi ma ki ou (m + 1) (nI a)) := by
  intro m
  induction m with
  | zero =>
    intro a ha
    have h : nI (s + l) ≤ nI a := nI_le (by omega) (by omega)
    exact ⟨-4, fun post x => br_t h x, fun post x => br_t (by rw [nI_add]; exact h) x⟩
  | succ m ih =>
    intro a ha
    have h : ¬ nI (s + l) ≤ nI a := nI_ge (by omega) (by omega)
    have hY : ¬ nI s + nI l ≤ nI a := by rw [nI_add]; exact h
    by_cases z : op_v c ty o a 1 = 0
    · obtain ⟨r, kX, kY⟩ := ih (a + 1) (by omega)
      exact ⟨r, fun post x => br_f h (ox_v (s := a) (l := 1) ho (by omega) ht hc (br_t z (nm_r (nI_1 a) (kX post x)))), fun post x => br_f hY (oy_v (s := a) (l := 1) ho (by omega) (br_t z (nm_r (nI_1 a) (kY post x))))⟩
    · exact ⟨nI a, fun post x => br_f h (ox_v (s := a) (l := 1) ho (by omega) ht hc (br_f z x)), fun post x => br_f hY (oy_v (s := a) (l := 1) ho (by omega) (br_f z x))⟩
theorem ah_f {post : Int32 → Prop} {n j : Nat} {o : Int32} (hn : n ≤ 5) (hj : j < n) (ej : ln j = o) (hf : ∀ k, k < j → ¬ ln k = o) (h : post (nI j)) : ∀ m i, i + m = j → wX_ahead_11 post o (nI n) c ws wl wt ln (m + 1) (nI i) := by
  intro m
  induction m with
  | zero =>
    intro i hi
    have : i = j := by omega
    subst this
    exact br_f (nI_ge (by omega) (by omega)) ⟨vp_in_nI (by omega) (by omega), br_t (by rw [rl_cl5 (show i < 5 by omega)]; exact ej) h⟩
  | succ m ih =>
    intro i hi
    exact br_f (nI_ge (by omega) (by omega)) ⟨vp_in_nI (by omega) (by omega), br_f (by rw [rl_cl5 (show i < 5 by omega)]; exact hf i (by omega)) (nm_r (nI_1 i) (ih (i + 1) (by omega)))⟩
theorem ah_n {post : Int32 → Prop} {n : Nat} {o : Int32} (hn : n ≤ 5) (hf : ∀ k, k < n → ¬ ln k = o) (h : post (-2)) : ∀ m i, i + m = n → wX_ahead_11 post o (nI n) c ws wl wt ln (m + 1) (nI i) := by
  intro m
  induction m with
  | zero => intro i hi; exact br_t (nI_le (by omega) (by omega)) h
  | succ m ih =>
    intro i hi
    exact br_f (nI_ge (by omega) (by omega)) ⟨vp_in_nI (by omega) (by omega), br_f (by rw [rl_cl5 (show i < 5 by omega)]; exact hf i (by omega)) (nm_r (nI_1 i) (ih (i + 1) (by omega)))⟩
end
end
section
/-! the owed statements of the questions -/
theorem i_vc_lockAt {k : Nat} {u : SX} {v : SY} (I : i_Rel k u v) (hk : k + 5 ≤ 2560) (v1 : Int32) (v2 : Int32) : wpX_lockAt (fun r => wpY_lockAt (fun r' => r' = r ∧ i_Rel (k + 5) u v) v v1 v2) u v1 v2 := by
  obtain ⟨n, c, ws, wl, wt, ln, fi, ma, ki, ou, rfl, rfl, J⟩ := I
  unfold wpX_lockAt wpY_lockAt
  dsimp only
  rcases ag_o v1 with ⟨hX, hY⟩ | ⟨o, ho, rfl, hX, hY⟩
  · exact hX _ (br_t rfl (hY _ _ (br_f (by decide) ⟨rfl, rl_mk J ou⟩)))
  rcases ag_b v2 with ⟨bX, bY⟩ | ⟨a, ha, rfl, bX, bY⟩
  · exact hX _ (br_f (by decide) (bX _ (br_t rfl (hY _ _ (br_t rfl (bY _ _ (br_f (by decide) ⟨rfl, rl_mk J ou⟩)))))))
  · refine hX _ (br_f (by decide) (bX _ (br_f (by decide) ⟨rl_in1 ho ha, hY _ _ (br_t rfl (bY _ _ (br_t rfl ⟨rl_in2 ho ha, ?_, rl_mk J ou⟩)))⟩)))
    rw [rl_c1 ho ha, rl_c2 ho ha]
theorem i_vc_holders {k : Nat} {u : SX} {v : SY} (I : i_Rel k u v) (hk : k + 5 ≤ 2560) (v1 : Int32) : wpX_holders (fun r => wpY_holders (fun r' => r' = r ∧ i_Rel (k + 5) u v) v v1) u v1 := by
  obtain ⟨n, c, ws, wl, wt, ln, fi, ma, ki, ou, rfl, rfl, J⟩ := I
  unfold wpX_holders
  dsimp only
  rcases ag_b v1 with ⟨bX, bY⟩ | ⟨a, ha, rfl, bX, bY⟩
  · unfold wpY_holders
    dsimp only
    exact bX _ (br_t rfl (bY _ _ (br_f (by decide) ⟨rfl, rl_mk J ou⟩)))
  · obtain ⟨r, hX, hY⟩ := hs_v (ll := nI n) (q := nI n) (c := c) (ws := ws) (wl := wl) (wt := wt) (ln := ln) (wh := ln) (fi := fi) (ma := ma) (ki := ki) (ou := ou) ha
    exact bX _ (br_f (by decide) (hX _ (hY _ ⟨rfl, rl_mk J ou⟩)))
theorem i_vc_obstacle {k : Nat} {u : SX} {v : SY} (I : i_Rel k u v) (hk : k + 5 ≤ 2560) (v1 : Int32) (v2 : Int32) (v3 : Int32) (v4 : Int32) : wpX_obstacle (fun r => wpY_obstacle (fun r' => r' = r ∧ i_Rel (k + 5) u v) v v1 v2 v3 v4) u v1 v2 v3 v4 := by
  obtain ⟨n, c, ws, wl, wt, ln, fi, ma, ki, ou, rfl, rfl, J⟩ := I
  unfold wpX_obstacle wpY_obstacle
  dsimp only
  rcases ag_q v1 v2 v3 v4 1 with ⟨hX, hY⟩ | ⟨o, ho, rfl, hY, hr⟩
  · exact hX _ (br_f (by decide) (hY _ _ (br_f (by decide) ⟨rfl, rl_mk J ou⟩)))
  rcases hr with ⟨hX, rY⟩ | ⟨s, l, hsl, rfl, rfl, rY, ht⟩
  · exact hX _ (br_f (by decide) (hY _ _ (br_t rfl (rY _ _ (br_f (by decide) ⟨rfl, rl_mk J ou⟩)))))
  rcases ht with ⟨ht, hX⟩ | ⟨t1, t2, hX⟩
  · obtain ⟨n1, n2⟩ := ag_tn ht
    exact hX _ (br_f (by decide) (hY _ _ (br_t rfl (rY _ _ (br_t rfl (br_f n1 (br_f n2 ⟨rfl, rl_mk J ou⟩)))))))
  have ht := ag_t1 t1 t2
  obtain ⟨r, kX, kY⟩ := ob_l (ll := nI n) (q := nI n) (c := c) (ws := ws) (wl := wl) (wt := wt) (ln := ln) (wh := ln) (fi := fi) (ma := ma) (ki := ki) (ou := ou) ho hsl (rl_V12 ht) J.2.1 l s rfl
  exact hX _ (br_t rfl (nm_r (nI_add s l) ⟨_, kX _ (hY _ _ (br_t rfl (rY _ _ (br_t rfl (aw_t ht ⟨_, kY _ ⟨rfl, rl_mk J ou⟩⟩)))))⟩))
theorem i_vc_wouldCircle {k : Nat} {u : SX} {v : SY} (I : i_Rel k u v) (hk : k + 5 ≤ 2560) (v1 : Int32) (v2 : Int32) (v3 : Int32) (v4 : Int32) : wpX_wouldCircle (fun r => wpY_wouldCircle (fun r' v' => r' = r ∧ i_Rel (k + 5) u v') v v1 v2 v3 v4) u v1 v2 v3 v4 := by
  obtain ⟨n, c, ws, wl, wt, ln, fi, ma, ki, ou, rfl, rfl, J⟩ := I
  unfold wpX_wouldCircle wpY_wouldCircle
  dsimp only
  rcases ag_q v1 v2 v3 v4 1 with ⟨hX, hY⟩ | ⟨o, ho, rfl, hY, hr⟩
  · exact ar_f (by decide) hX (br_f (by decide) (hY _ _ (br_f (by decide) ⟨rfl, rl_mk J ou⟩)))
  rcases hr with ⟨hX, rY⟩ | ⟨s, l, hsl, rfl, rfl, rY, ht⟩
  · exact ar_f (by decide) hX (br_f (by decide) (hY _ _ (br_t rfl (rY _ _ (br_f (by decide) ⟨rfl, rl_mk J ou⟩)))))
  rcases ht with ⟨ht, hX⟩ | ⟨t1, t2, hX⟩
  · obtain ⟨n1, n2⟩ := ag_tn ht
    exact ar_f (by decide) hX (br_f (by decide) (hY _ _ (br_t rfl (rY _ _ (br_t rfl (br_f n1 (br_f n2 ⟨rfl, rl_mk J ou⟩)))))))
  have ht := ag_t1 t1 t2
  rcases pl_v J ou ho with ⟨j, hj, ej, _, hw, hP⟩ | ⟨_, hw, hP⟩
  · refine ar_w ho hw hX (br_f (by decide) (hY _ _ (br_t rfl (rY _ _ (br_t rfl (aw_t ht ?_))))))
    exact hP _ (br_f (nI_pos (by have := J.1; omega)) ⟨rfl, rl_mk J ou⟩)
  · by_cases z : op_v c v4 o s l = 0
    · have hC : ¬ ar_C c ws wl wt v4 o s l := by unfold ar_C; rw [z]; exact cy_0 _ ho
      refine ar_v J ho hsl ht hw hX (fun w => absurd w hC) (fun _ => br_f (by decide) (hY _ _ (br_t rfl (rY _ _ (br_t rfl (aw_t ht ?_))))))
      exact hP _ (br_t (by decide) (oy_v ho hsl (br_t z ⟨rfl, rl_mk J ou⟩)))
    · obtain ⟨ou', hcy⟩ := cy_v J ou ho (op_v c v4 o s l) (op_vb c v4 s l ho)
      refine ar_v J ho hsl ht hw hX (fun w => br_t rfl ?_) (fun w => br_f (by decide) ?_)
      · refine hY _ _ (br_t rfl (rY _ _ (br_t rfl (aw_t ht ?_))))
        refine hP _ (br_t (by decide) (oy_v ho hsl (br_f z (hcy _ ?_))))
        rw [if_pos (show bt (cs_it (cs_g (wf_v c ws wl wt) 5 0) 5 (op_v c v4 o s l)) o = true from w)]
        exact br_f (by decide) ⟨rfl, rl_mk J ou'⟩
      · refine hY _ _ (br_t rfl (rY _ _ (br_t rfl (aw_t ht ?_))))
        refine hP _ (br_t (by decide) (oy_v ho hsl (br_f z (hcy _ ?_))))
        rw [if_neg (show ¬ bt (cs_it (cs_g (wf_v c ws wl wt) 5 0) 5 (op_v c v4 o s l)) o = true from w)]
        exact br_t rfl ⟨rfl, rl_mk J ou'⟩
theorem i_vc_waiting {k : Nat} {u : SX} {v : SY} (I : i_Rel k u v) (hk : k + 5 ≤ 2560) (v1 : Int32) : wpX_waiting (fun r => wpY_waiting (fun r' => r' = r ∧ i_Rel (k + 5) u v) v v1) u v1 := by
  obtain ⟨n, c, ws, wl, wt, ln, fi, ma, ki, ou, rfl, rfl, J⟩ := I
  unfold wpX_waiting wpY_waiting
  dsimp only
  rcases ag_o v1 with ⟨hX, hY⟩ | ⟨o, ho, rfl, hX, hY⟩
  · exact hX _ (br_t rfl (hY _ _ (br_f (by decide) ⟨rfl, rl_mk J ou⟩)))
  rcases pl_v J ou ho with ⟨j, hj, ej, _, hw, hP⟩ | ⟨_, hw, hP⟩
  · exact hX _ (br_f (by decide) (iw_1 ho hw (br_f (by decide) (hY _ _ (br_t rfl (hP _ (br_f (nI_pos (by have := J.1; omega)) ⟨rfl, rl_mk J ou⟩)))))))
  · exact hX _ (br_f (by decide) (iw_0 ho hw (br_t rfl (hY _ _ (br_t rfl (hP _ (br_t (by decide) ⟨rfl, rl_mk J ou⟩)))))))
theorem i_vc_waitsFor {k : Nat} {u : SX} {v : SY} (I : i_Rel k u v) (hk : k + 5 ≤ 2560) (v1 : Int32) : wpX_waitsFor (fun r => wpY_waitsFor (fun r' => r' = r ∧ i_Rel (k + 5) u v) v v1) u v1 := by
  obtain ⟨n, c, ws, wl, wt, ln, fi, ma, ki, ou, rfl, rfl, J⟩ := I
  unfold wpX_waitsFor wpY_waitsFor
  dsimp only
  rcases ag_o v1 with ⟨hX, hY⟩ | ⟨o, ho, rfl, hX, hY⟩
  · exact hX _ (br_t rfl (hY _ _ (br_f (by decide) ⟨rfl, rl_mk J ou⟩)))
  rcases pl_v J ou ho with ⟨j, hj, ej, _, hw, hP⟩ | ⟨_, hw, hP⟩
  · have hn := J.1
    obtain ⟨o', E⟩ := J.2.2.1 j hj
    have eo : o' = o := rl_inj (by have := E.1; omega) (by omega) (E.2.1.symm.trans ej)
    subst eo
    have a8 : vp_in (nI j) 8 := vp_in_nI (by omega) (by omega)
    refine hX _ (br_f (by decide) (wf_x J ho _ (hY _ _ (br_t rfl (hP _ (br_t (nI_pos' (by omega)) ⟨a8, a8, a8, ?_⟩))))))
    rw [rl_cl8 (show j < 8 by omega)]
    have g := wf_y (c := c) (q := nI n) (wh := ln) (fi' := fi) (ma' := ma) (ki' := ki) (ou := ou) (post := fun r' => r' = wf_v c ws wl wt o' ∧ i_Rel (k + 5) (nI n, c, ws, wl, wt, ln) (nI n, c, ln, fi, ma, ki, ou)) E ⟨rfl, rl_mk J ou⟩
    rw [ej] at g
    exact g
  · refine hX _ (br_f (by decide) (wf_x J ho _ (hY _ _ (br_t rfl (hP _ (br_f (by decide) ⟨?_, rl_mk J ou⟩))))))
    exact (wf_0 hw).symm
theorem i_vc_ahead {k : Nat} {u : SX} {v : SY} (I : i_Rel k u v) (hk : k + 5 ≤ 2560) (v1 : Int32) : wpX_ahead (fun r => wpY_ahead (fun r' => r' = r ∧ i_Rel (k + 5) u v) v v1) u v1 := by
  obtain ⟨n, c, ws, wl, wt, ln, fi, ma, ki, ou, rfl, rfl, J⟩ := I
  unfold wpX_ahead wpY_ahead
  dsimp only
  rcases ag_o v1 with ⟨hX, hY⟩ | ⟨o, ho, rfl, hX, hY⟩
  · exact hX _ (br_t rfl (hY _ _ (br_f (by decide) ⟨rfl, rl_mk J ou⟩)))
  rcases pl_v J ou ho with ⟨j, hj, ej, hf, hw, hP⟩ | ⟨hf, hw, hP⟩
  · exact hX _ (br_f (by decide) ⟨_, ah_f J.1 hj ej hf (hY _ _ (br_t rfl (hP _ (br_t (nI_pos' (by have := J.1; omega)) ⟨rfl, rl_mk J ou⟩)))) j 0 (by omega)⟩)
  · exact hX _ (br_f (by decide) ⟨_, ah_n J.1 hf (hY _ _ (br_t rfl (hP _ (br_f (by decide) ⟨rfl, rl_mk J ou⟩)))) n 0 (by omega)⟩)
theorem i_vc_pieces {k : Nat} {u : SX} {v : SY} (I : i_Rel k u v) (hk : k + 5 ≤ 2560) (v1 : Int32) : wpX_pieces (fun r => wpY_pieces (fun r' => r' = r ∧ i_Rel (k + 5) u v) v v1) u v1 := by
  obtain ⟨n, c, ws, wl, wt, ln, fi, ma, ki, ou, rfl, rfl, J⟩ := I
  unfold wpX_pieces wpY_pieces
  dsimp only
  rcases ag_o v1 with ⟨hX, hY⟩ | ⟨o, ho, rfl, hX, hY⟩
  · exact hX _ (br_t rfl (hY _ _ (br_f (by decide) ⟨rfl, rl_mk J ou⟩)))
  obtain ⟨r, kX, kY⟩ := pc_l (ll := nI n) (q := nI n) (c := c) (ws := ws) (wl := wl) (wt := wt) (ln := ln) (wh := ln) (fi := fi) (ma := ma) (ki := ki) (ou := ou) ho 40 0 0 (by omega)
  exact hX _ (br_f (by decide) ⟨_, kX _ (hY _ _ (br_t rfl ⟨_, kY _ ⟨rfl, rl_mk J ou⟩⟩))⟩)
theorem i_vc_pieceStart {k : Nat} {u : SX} {v : SY} (I : i_Rel k u v) (hk : k + 5 ≤ 2560) (v1 : Int32) (v2 : Int32) : wpX_pieceStart (fun r => wpY_pieceStart (fun r' => r' = r ∧ i_Rel (k + 5) u v) v v1 v2) u v1 v2 := by
  obtain ⟨n, c, ws, wl, wt, ln, fi, ma, ki, ou, rfl, rfl, J⟩ := I
  unfold wpX_pieceStart wpY_pieceStart
  dsimp only
  rcases ag_o v1 with ⟨hX, hY⟩ | ⟨o, ho, rfl, hX, hY⟩
  · exact hX _ (br_t rfl (hY _ _ (br_f (by decide) ⟨rfl, rl_mk J ou⟩)))
  obtain ⟨r, _, kX, kY⟩ := fb_v (ll := nI n) (q := nI n) (c := c) (ws := ws) (wl := wl) (wt := wt) (ln := ln) (wh := ln) (fi := fi) (ma := ma) (ki := ki) (ou := ou) ho v2
  exact hX _ (br_f (by decide) (kX _ (hY _ _ (br_t rfl (kY _ ⟨rfl, rl_mk J ou⟩)))))
theorem i_vc_pieceEnd {k : Nat} {u : SX} {v : SY} (I : i_Rel k u v) (hk : k + 5 ≤ 2560) (v1 : Int32) (v2 : Int32) : wpX_pieceEnd (fun r => wpY_pieceEnd (fun r' => r' = r ∧ i_Rel (k + 5) u v) v v1 v2) u v1 v2 := by
  obtain ⟨n, c, ws, wl, wt, ln, fi, ma, ki, ou, rfl, rfl, J⟩ := I
  unfold wpX_pieceEnd wpY_pieceEnd
  dsimp only
  rcases ag_o v1 with ⟨hX, hY⟩ | ⟨o, ho, rfl, hX, hY⟩
  · exact hX _ (br_t rfl (hY _ _ (br_f (by decide) ⟨rfl, rl_mk J ou⟩)))
  obtain ⟨r, hr, kX, kY⟩ := fb_v (ll := nI n) (q := nI n) (c := c) (ws := ws) (wl := wl) (wt := wt) (ln := ln) (wh := ln) (fi := fi) (ma := ma) (ki := ki) (ou := ou) ho v2
  rcases hr with rfl | ⟨b, hb, rfl⟩
  · exact hX _ (br_f (by decide) (kX _ (br_f (by decide) (hY _ _ (br_t rfl (kY _ (br_f (by decide) ⟨rfl, rl_mk J ou⟩)))))))
  · obtain ⟨r, pX, pY⟩ := pe_l (ll := nI n) (q := nI n) (c := c) (ws := ws) (wl := wl) (wt := wt) (ln := ln) (wh := ln) (fi := fi) (ma := ma) (ki := ki) (ou := ou) ho hb (39 - b) b (by omega) rfl
    have h0 : (0 : Int32) ≤ nI b := nI_pos' (by omega)
    exact hX _ (br_f (by decide) (kX _ (br_t h0 (nm_r (nI_1 b) ⟨_, pX _ (hY _ _ (br_t rfl (kY _ (br_t h0 ⟨_, pY _ ⟨rfl, rl_mk J ou⟩⟩))))⟩))))
theorem i_vc_pieceType {k : Nat} {u : SX} {v : SY} (I : i_Rel k u v) (hk : k + 5 ≤ 2560) (v1 : Int32) (v2 : Int32) : wpX_pieceType (fun r => wpY_pieceType (fun r' => r' = r ∧ i_Rel (k + 5) u v) v v1 v2) u v1 v2 := by
  obtain ⟨n, c, ws, wl, wt, ln, fi, ma, ki, ou, rfl, rfl, J⟩ := I
  unfold wpX_pieceType wpY_pieceType
  dsimp only
  rcases ag_o v1 with ⟨hX, hY⟩ | ⟨o, ho, rfl, hX, hY⟩
  · exact hX _ (br_t rfl (hY _ _ (br_f (by decide) ⟨rfl, rl_mk J ou⟩)))
  obtain ⟨r, hr, kX, kY⟩ := fb_v (ll := nI n) (q := nI n) (c := c) (ws := ws) (wl := wl) (wt := wt) (ln := ln) (wh := ln) (fi := fi) (ma := ma) (ki := ki) (ou := ou) ho v2
  rcases hr with rfl | ⟨b, hb, rfl⟩
  · exact hX _ (br_f (by decide) (kX _ (br_f (by decide) (hY _ _ (br_t rfl (kY _ (br_f (by decide) ⟨rfl, rl_mk J ou⟩)))))))
  · have h0 : (0 : Int32) ≤ nI b := nI_pos' (by omega)
    refine hX _ (br_f (by decide) (kX _ (br_t h0 ⟨rl_in1 ho hb, hY _ _ (br_t rfl (kY _ (br_t h0 ⟨rl_in2 ho hb, ?_, rl_mk J ou⟩)))⟩)))
    rw [rl_c1 ho hb, rl_c2 ho hb]
theorem i_vc_count {k : Nat} {u : SX} {v : SY} (I : i_Rel k u v) (hk : k + 5 ≤ 2560) (v1 : Int32) (v2 : Int32) : wpX_count (fun r => wpY_count (fun r' => r' = r ∧ i_Rel (k + 5) u v) v v1 v2) u v1 v2 := by
  obtain ⟨n, c, ws, wl, wt, ln, fi, ma, ki, ou, rfl, rfl, J⟩ := I
  unfold wpX_count wpY_count
  dsimp only
  rcases ag_o v1 with ⟨hX, hY⟩ | ⟨o, ho, rfl, hX, hY⟩
  · exact hX _ (br_t rfl (hY _ _ (br_f (by decide) ⟨rfl, rl_mk J ou⟩)))
  by_cases h1 : v2 < 0
  · exact hX _ (br_f (by decide) (br_t h1 (hY _ _ (br_t rfl (br_t h1 ⟨rfl, rl_mk J ou⟩)))))
  by_cases h2 : v2 ≤ 2
  · exact hX _ (br_f (by decide) (br_f h1 (br_t h2 ⟨_, cz_x ho 40 0 0 (by omega) (hY _ _ (br_t rfl (br_f h1 (br_t h2 ⟨_, cz_c ho 40 0 0 (by omega) ⟨rfl, rl_mk J ou⟩⟩))))⟩)))
  · exact hX _ (br_f (by decide) (br_f h1 (br_f h2 (hY _ _ (br_t rfl (br_f h1 (br_f h2 ⟨rfl, rl_mk J ou⟩)))))))
theorem i_vc_free {k : Nat} {u : SX} {v : SY} (I : i_Rel k u v) (hk : k + 5 ≤ 2560) : wpX_free (fun r => wpY_free (fun r' => r' = r ∧ i_Rel (k + 5) u v) v) u := by
  obtain ⟨n, c, ws, wl, wt, ln, fi, ma, ki, ou, rfl, rfl, J⟩ := I
  obtain ⟨r, kX, kY⟩ := fr_l (ll := nI n) (q := nI n) (c := c) (ws := ws) (wl := wl) (wt := wt) (ln := ln) (wh := ln) (fi := fi) (ma := ma) (ki := ki) (ou := ou) 40 0 0 (by omega)
  exact ⟨_, kX _ ⟨_, kY _ ⟨rfl, rl_mk J ou⟩⟩⟩
end
