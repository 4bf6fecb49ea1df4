/-! closed sets over five nodes: E p is the set of the nodes to which one gets from p -/
def cs_cl (E : Nat → Int32) (S : Nat → Prop) : Prop := ∀ p, p < 5 → S p → ∀ q, q < 5 → bt (E p) q = true → S q
def cs_sw (E : Nat → Int32) (R R' : Int32) : Prop :=
  (∀ q, q < 5 → bt R q = true → bt R' q = true) ∧ (∀ p, p < 5 → bt R p = true → ∀ q, q < 5 → bt (E p) q = true → bt R' q = true) ∧
  (∀ S, cs_cl E S → (∀ q, q < 5 → bt R q = true → S q) → ∀ q, q < 5 → bt R' q = true → S q)
def cs_n (R : Int32) : Nat := (bt R 0).toNat + (bt R 1).toNat + (bt R 2).toNat + (bt R 3).toNat + (bt R 4).toNat
theorem cs_b {a b : Bool} (h : a = true → b = true) : a.toNat ≤ b.toNat := by
  cases a
  · exact Nat.zero_le _
  · rw [h rfl]; exact Nat.le_refl _
theorem cs_t {a : Bool} (h : 1 ≤ a.toNat) : a = true := by
  cases a
  · exact absurd h (by decide)
  · rfl
theorem cs_le1 (a : Bool) : a.toNat ≤ 1 := by cases a <;> decide
theorem cs_f {a b : Bool} (h : a = true → b = true) (e : a.toNat = b.toNat) : b = true → a = true := by
  intro z
  rw [z] at e
  exact cs_t (by rw [e]; decide)
theorem cs_step {E : Nat → Int32} {R R' : Int32} {k : Nat} (h : cs_sw E R R') (hk : cs_cl E (fun q => bt R q = true) ∨ k ≤ cs_n R) : cs_cl E (fun q => bt R' q = true) ∨ k + 1 ≤ cs_n R' := by
  obtain ⟨h1, h2, h3⟩ := h
  have l0 := cs_b (h1 0 (by decide))
  have l1 := cs_b (h1 1 (by decide))
  have l2 := cs_b (h1 2 (by decide))
  have l3 := cs_b (h1 3 (by decide))
  have l4 := cs_b (h1 4 (by decide))
  rcases hk with hc | hk
  · refine Or.inl (fun p hp sp q hq hb => ?_)
    have := h3 _ hc (fun q _ z => z) p hp sp
    exact h2 p hp this q hq hb
  · by_cases e : cs_n R' = cs_n R
    · refine Or.inl (fun p hp sp q hq hb => ?_)
      refine h2 p hp ?_ q hq hb
      unfold cs_n at e
      have hp' : p = 0 ∨ p = 1 ∨ p = 2 ∨ p = 3 ∨ p = 4 := by omega
      rcases hp' with rfl | rfl | rfl | rfl | rfl
      · exact cs_f (h1 0 (by decide)) (by omega) sp
      · exact cs_f (h1 1 (by decide)) (by omega) sp
      · exact cs_f (h1 2 (by decide)) (by omega) sp
      · exact cs_f (h1 3 (by decide)) (by omega) sp
      · exact cs_f (h1 4 (by decide)) (by omega) sp
    · right
      unfold cs_n at e hk ⊢
      omega
theorem cs_full {E : Nat → Int32} {R : Int32} (h : 5 ≤ cs_n R) : cs_cl E (fun q => bt R q = true) := by
  intro p _ _ q hq _
  unfold cs_n at h
  have l0 := cs_le1 (bt R 0)
  have l1 := cs_le1 (bt R 1)
  have l2 := cs_le1 (bt R 2)
  have l3 := cs_le1 (bt R 3)
  have l4 := cs_le1 (bt R 4)
  have hq' : q = 0 ∨ q = 1 ∨ q = 2 ∨ q = 3 ∨ q = 4 := by omega
  rcases hq' with rfl | rfl | rfl | rfl | rfl <;> exact cs_t (by omega)
def cs_it (F : Int32 → Int32) : Nat → Int32 → Int32
  | 0, R => R
  | m + 1, R => cs_it F m (F R)
theorem cs_it_n {E : Nat → Int32} {F : Int32 → Int32} (hF : ∀ R, cs_sw E R (F R)) : ∀ m k R, (cs_cl E (fun q => bt R q = true) ∨ k ≤ cs_n R) → (cs_cl E (fun q => bt (cs_it F m R) q = true) ∨ k + m ≤ cs_n (cs_it F m R)) := by
  intro m
  induction m with
  | zero => intro k R h; exact h
  | succ m ih =>
    intro k R h
    have := ih (k + 1) (F R) (cs_step (hF R) h)
    rw [show k + (m + 1) = k + 1 + m from by omega]
    exact this
theorem cs_it_c {E : Nat → Int32} {F : Int32 → Int32} (hF : ∀ R, cs_sw E R (F R)) (R : Int32) : cs_cl E (fun q => bt (cs_it F 5 R) q = true) := by
  rcases cs_it_n hF 5 0 R (Or.inr (Nat.zero_le _)) with h | h
  · exact h
  · exact cs_full (by omega)
theorem cs_it_s {E : Nat → Int32} {F : Int32 → Int32} (hF : ∀ R, cs_sw E R (F R)) : ∀ m R q, q < 5 → bt R q = true → bt (cs_it F m R) q = true := by
  intro m
  induction m with
  | zero => intro R q _ h; exact h
  | succ m ih => intro R q hq h; exact ih (F R) q hq ((hF R).1 q hq h)
theorem cs_it_m {E : Nat → Int32} {F : Int32 → Int32} (hF : ∀ R, cs_sw E R (F R)) {S : Nat → Prop} (hS : cs_cl E S) : ∀ m R, (∀ q, q < 5 → bt R q = true → S q) → ∀ q, q < 5 → bt (cs_it F m R) q = true → S q := by
  intro m
  induction m with
  | zero => intro R h; exact h
  | succ m ih => intro R h; exact ih (F R) ((hF R).2.2 S hS h)
/-- the class's sweep -/
def cs_g (E : Nat → Int32) : Nat → Nat → Int32 → Int32
  | 0, _, R => R
  | m + 1, p, R => cs_g E m (p + 1) (if bt R p = true then R ||| E p else R)
/-- the reference's sweep -/
def cs_j (E : Nat → Int32) (B : Int32) : Nat → Nat → Int32 → Int32
  | 0, _, R => R
  | m + 1, p, R => cs_j E B m (p + 1) (if bt B p = true then R ||| E p else R)
theorem cs_or1 {x y : Int32} {q : Nat} (h : bt x q = true) : bt (x ||| y) q = true := by rw [b_or, h]; rfl
theorem cs_or2 {x y : Int32} {q : Nat} (h : bt y q = true) : bt (x ||| y) q = true := by rw [b_or, h]; exact Bool.or_true _
theorem cs_or3 {x y : Int32} {q : Nat} (h : bt (x ||| y) q = true) : bt x q = true ∨ bt y q = true := by rw [b_or] at h; simpa using h
theorem cs_g_1 (E : Nat → Int32) : ∀ m p R q, bt R q = true → bt (cs_g E m p R) q = true := by
  intro m
  induction m with
  | zero => intro p R q h; exact h
  | succ m ih =>
    intro p R q h
    refine ih (p + 1) _ q ?_
    by_cases z : bt R p = true
    · rw [if_pos z]; exact cs_or1 h
    · rw [if_neg z]; exact h
theorem cs_g_2 (E : Nat → Int32) : ∀ m p R p', p ≤ p' → p' < p + m → bt R p' = true → ∀ q, bt (E p') q = true → bt (cs_g E m p R) q = true := by
  intro m
  induction m with
  | zero => intro p R p' h1 h2; omega
  | succ m ih =>
    intro p R p' h1 h2 hb q hq
    by_cases e : p' = p
    · subst e
      show bt (cs_g E m (p' + 1) _) q = true
      rw [if_pos hb]
      exact cs_g_1 E m _ _ q (cs_or2 hq)
    · refine ih (p + 1) _ p' (by omega) (by omega) ?_ q hq
      by_cases z : bt R p = true
      · rw [if_pos z]; exact cs_or1 hb
      · rw [if_neg z]; exact hb
theorem cs_g_3 {E : Nat → Int32} {S : Nat → Prop} (hS : cs_cl E S) : ∀ m p R, p + m ≤ 5 → (∀ q, q < 5 → bt R q = true → S q) → ∀ q, q < 5 → bt (cs_g E m p R) q = true → S q := by
  intro m
  induction m with
  | zero => intro p R _ h; exact h
  | succ m ih =>
    intro p R hp h
    refine ih (p + 1) _ (by omega) ?_
    intro q hq hb
    by_cases z : bt R p = true
    · rw [if_pos z] at hb
      rcases cs_or3 hb with hb | hb
      · exact h q hq hb
      · exact hS p (by omega) (h p (by omega) z) q hq hb
    · rw [if_neg z] at hb; exact h q hq hb
theorem cs_g_sw (E : Nat → Int32) (R : Int32) : cs_sw E R (cs_g E 5 0 R) :=
  ⟨fun q _ h => cs_g_1 E 5 0 R q h, fun p hp h q _ hb => cs_g_2 E 5 0 R p (Nat.zero_le _) (by omega) h q hb, fun S hS h => cs_g_3 hS 5 0 R (by omega) h⟩
theorem cs_j_1 (E : Nat → Int32) (B : Int32) : ∀ m p R q, bt R q = true → bt (cs_j E B m p R) q = true := by
  intro m
  induction m with
  | zero => intro p R q h; exact h
  | succ m ih =>
    intro p R q h
    refine ih (p + 1) _ q ?_
    by_cases z : bt B p = true
    · rw [if_pos z]; exact cs_or1 h
    · rw [if_neg z]; exact h
theorem cs_j_2 (E : Nat → Int32) (B : Int32) : ∀ m p R p', p ≤ p' → p' < p + m → bt B p' = true → ∀ q, bt (E p') q = true → bt (cs_j E B m p R) q = true := by
  intro m
  induction m with
  | zero => intro p R p' h1 h2; omega
  | succ m ih =>
    intro p R p' h1 h2 hb q hq
    by_cases e : p' = p
    · subst e
      show bt (cs_j E B m (p' + 1) _) q = true
      rw [if_pos hb]
      exact cs_j_1 E B m _ _ q (cs_or2 hq)
    · exact ih (p + 1) _ p' (by omega) (by omega) hb q hq
theorem cs_j_3 {E : Nat → Int32} {B : Int32} {S : Nat → Prop} (hS : cs_cl E S) (hB : ∀ q, q < 5 → bt B q = true → S q) : ∀ m p R, p + m ≤ 5 → (∀ q, q < 5 → bt R q = true → S q) → ∀ q, q < 5 → bt (cs_j E B m p R) q = true → S q := by
  intro m
  induction m with
  | zero => intro p R _ h; exact h
  | succ m ih =>
    intro p R hp h
    refine ih (p + 1) _ (by omega) ?_
    intro q hq hb
    by_cases z : bt B p = true
    · rw [if_pos z] at hb
      rcases cs_or3 hb with hb | hb
      · exact h q hq hb
      · exact hS p (by omega) (hB p (by omega) z) q hq hb
    · rw [if_neg z] at hb; exact h q hq hb
theorem cs_j_sw (E : Nat → Int32) (R : Int32) : cs_sw E R (cs_j E R 5 0 R) :=
  ⟨fun q _ h => cs_j_1 E R 5 0 R q h, fun p hp h q _ hb => cs_j_2 E R 5 0 R p (Nat.zero_le _) (by omega) h q hb, fun S hS h => cs_j_3 hS h 5 0 R (by omega) h⟩
/-- what the class reaches from B, and what the reference reaches from B in one or more steps, agree on each node outside B -/
theorem cs_same (E : Nat → Int32) (B : Int32) {o : Nat} (ho : o < 5) (hB : bt B o = false) : bt (cs_it (cs_g E 5 0) 5 B) o = true ↔ bt (cs_it (fun R => cs_j E R 5 0 R) 5 (cs_j E B 5 0 0)) o = true := by
  have hX := cs_it_c (cs_g_sw E) B
  have hY := cs_it_c (F := fun R => cs_j E R 5 0 R) (cs_j_sw E) (cs_j E B 5 0 0)
  constructor
  · intro h
    have hS : cs_cl E (fun q => bt B q = true ∨ bt (cs_it (fun R => cs_j E R 5 0 R) 5 (cs_j E B 5 0 0)) q = true) := by
      intro p hp sp q hq hb
      rcases sp with sp | sp
      · exact Or.inr (cs_it_s (cs_j_sw E) 5 _ q hq (cs_j_2 E B 5 0 0 p (Nat.zero_le _) (by omega) sp q hb))
      · exact Or.inr (hY p hp sp q hq hb)
    rcases cs_it_m (cs_g_sw E) hS 5 B (fun q _ z => Or.inl z) o ho h with z | z
    · rw [hB] at z; exact absurd z (by decide)
    · exact z
  · intro h
    have hBX : ∀ q, q < 5 → bt B q = true → bt (cs_it (cs_g E 5 0) 5 B) q = true := cs_it_s (cs_g_sw E) 5 B
    refine cs_it_m (F := fun R => cs_j E R 5 0 R) (cs_j_sw E) hX 5 _ ?_ o ho h
    refine cs_j_3 hX hBX 5 0 0 (by omega) ?_
    intro q _ z
    rw [b_0] at z
    exact absurd z (by decide)
