/-! opponents (class) and against (reference): one pure value -/
def op_h (ty x : Int32) : Bool := decide ((ty = 2 ∧ ¬ x = 0) ∨ (ty = 1 ∧ x = 2))
def op_i (c : Nat → Int32) (ty : Int32) (p : Nat) : Nat → Nat → Int32 → Int32
  | 0, _, f => f
  | m + 1, a, f => op_i c ty p m (a + 1) (if op_h ty (c (p * 40 + a)) = true then f ||| ((1 : Int32) <<< (nI p &&& 31)) else f)
def op_o (c : Nat → Int32) (ty : Int32) (o s l : Nat) : Nat → Nat → Int32 → Int32
  | 0, _, f => f
  | r + 1, p, f => op_o c ty o s l r (p + 1) (if p = o then f else op_i c ty p l s f)
def op_v (c : Nat → Int32) (ty : Int32) (o s l : Nat) : Int32 := op_o c ty o s l 5 0 0
theorem op_h0 (x : Int32) : op_h 0 x = false := decide_eq_false (by
  rintro (⟨h, _⟩ | ⟨h, _⟩)
  · exact absurd h (by decide)
  · exact absurd h (by decide))
theorem op_h1 {x : Int32} (h : rl_V x) : (x < 2 ↔ op_h 1 x = false) := by
  rcases h with rfl | rfl | rfl <;> decide
theorem op_h2 {x : Int32} (h : rl_V x) : (x < 1 ↔ op_h 2 x = false) := by
  rcases h with rfl | rfl | rfl <;> decide
theorem op_i0 (c : Nat → Int32) (p : Nat) : ∀ m a f, op_i c 0 p m a f = f := by
  intro m
  induction m with
  | zero => intro a f; rfl
  | succ m ih =>
    intro a f
    show op_i c 0 p m (a + 1) _ = f
    rw [op_h0, if_neg (by decide)]
    exact ih _ _
theorem op_o0 (c : Nat → Int32) (o s l : Nat) : ∀ r p f, op_o c 0 o s l r p f = f := by
  intro r
  induction r with
  | zero => intro p f; rfl
  | succ r ih =>
    intro p f
    show op_o c 0 o s l r (p + 1) _ = f
    rw [op_i0, ite_self]
    exact ih _ _
theorem op_v0 (c : Nat → Int32) (o s l : Nat) : op_v c 0 o s l = 0 := op_o0 c o s l 5 0 0
/-- the owner itself is never among its opponents -/
theorem op_ib (c : Nat → Int32) (ty : Int32) {p q : Nat} (hp : p < 5) (hq : q < 5) (hn : q ≠ p) : ∀ m a f, bt f q = false → bt (op_i c ty p m a f) q = false := by
  intro m
  induction m with
  | zero => intro a f h; exact h
  | succ m ih =>
    intro a f h
    refine ih _ _ ?_
    by_cases z : op_h ty (c (p * 40 + a)) = true
    · rw [if_pos z, b_or, h, rl_tw p hp q (by omega), decide_eq_false hn]; rfl
    · rw [if_neg z]; exact h
theorem op_ob (c : Nat → Int32) (ty : Int32) {o : Nat} (s l : Nat) (ho : o < 5) : ∀ r p f, p + r = 5 → bt f o = false → bt (op_o c ty o s l r p f) o = false := by
  intro r
  induction r with
  | zero => intro p f _ h; exact h
  | succ r ih =>
    intro p f hp h
    refine ih _ _ (by omega) ?_
    by_cases z : p = o
    · rw [if_pos z]; exact h
    · rw [if_neg z]; exact op_ib c ty (by omega) ho (fun e => z e.symm) _ _ _ h
theorem op_vb (c : Nat → Int32) (ty : Int32) {o : Nat} (s l : Nat) (ho : o < 5) : bt (op_v c ty o s l) o = false := op_ob c ty s l ho 5 0 0 rfl (b_0 o)
theorem ox_i {post : Int32 → Prop} {J : Int32 → Int32 → Prop} {ty lo : Int32} {o p e : Nat} (hp : p < 5) (ho : o < 5) (he : e ≤ 40) (x2 : Int32) (hl : ∀ x, rl_V x → (x < lo ↔ op_h ty x = false)) {ll : Int32} {c ws wl wt ln : Nat → Int32} (hc : ∀ j, rl_V (c j)) :
    ∀ m a f, a + m = e → J (if p = o then f else op_i c ty p m a f) (nI (p + 1)) → wX_opponents_40 post J (nI o) x2 lo (nI e) (nI p) ll c ws wl wt ln (m + 1) f (nI a) := by
  intro m
  induction m with
  | zero =>
    intro a f ha h
    refine br_t (nI_le (by omega) (by omega)) (nm_r (nI_1 p) ?_)
    rw [show op_i c ty p 0 a f = f from rfl, ite_self] at h
    exact h
  | succ m ih =>
    intro a f ha h
    refine br_f (nI_ge (by omega) (by omega)) ?_
    by_cases z : p = o
    · refine br_t (congrArg nI z) (nm_r (nI_1 a) (ih (a + 1) f (by omega) ?_))
      rw [if_pos z] at h ⊢
      exact h
    · refine br_f (rl_ne (by omega) (by omega) z) ⟨rl_in1 hp (by omega), ?_⟩
      rw [if_neg z] at h
      rw [rl_c1 hp (by omega)]
      by_cases y : c (p * 40 + a) < lo
      · refine br_t y (nm_r (nI_1 a) (ih (a + 1) f (by omega) ?_))
        rw [if_neg z]
        have e : op_i c ty p (m + 1) a f = op_i c ty p m (a + 1) f := by
          show op_i c ty p m (a + 1) _ = _
          rw [(hl _ (hc _)).mp y, if_neg (by decide)]
        rw [e] at h
        exact h
      · refine br_f y (nm_e (nm_r (nI_1 a) (ih (a + 1) _ (by omega) ?_)))
        rw [if_neg z]
        have e : op_i c ty p (m + 1) a f = op_i c ty p m (a + 1) (f ||| ((1 : Int32) <<< (nI p &&& 31))) := by
          show op_i c ty p m (a + 1) _ = _
          rw [if_pos]
          cases w : op_h ty (c (p * 40 + a))
          · exact absurd ((hl _ (hc _)).mpr w) y
          · rfl
        rw [e] at h
        exact h
theorem ox_o {post : Int32 → Prop} {ty lo : Int32} {o s l : Nat} (ho : o < 5) (he : s + l ≤ 40) (hl : ∀ x, rl_V x → (x < lo ↔ op_h ty x = false)) {ll : Int32} {c ws wl wt ln : Nat → Int32} (hc : ∀ j, rl_V (c j)) :
    ∀ r p f, p + r = 5 → post (op_o c ty o s l r p f) → wX_opponents_31 post (nI o) (nI s) lo (nI (s + l)) ll c ws wl wt ln (r + 1) f (nI p) := by
  intro r
  induction r with
  | zero =>
    intro p f hp h
    exact br_t (nI_le (a := 5) (by omega) (by omega)) h
  | succ r ih =>
    intro p f hp h
    exact br_f (nI_ge (b := 5) (by omega) (by omega)) ⟨l + 1, ox_i (by omega) ho he _ hl hc l s f rfl (ih (p + 1) _ (by omega) h)⟩
theorem ox_0 {post : Int32 → Prop} (u : SX) (p0 p1 p2 : Int32) (h : post 0) : wpX_opponents post u p0 p1 p2 0 := by
  obtain ⟨ll, c, ws, wl, wt, ln⟩ := u
  exact br_t rfl h
theorem ox_v {post : Int32 → Prop} {ty : Int32} {o s l : Nat} (ho : o < 5) (he : s + l ≤ 40) (hty : rl_V ty) {ll : Int32} {c ws wl wt ln : Nat → Int32} (hc : ∀ j, rl_V (c j)) (h : post (op_v c ty o s l)) : wpX_opponents post (ll, c, ws, wl, wt, ln) (nI o) (nI s) (nI l) ty := by
  rcases hty with rfl | rfl | rfl
  · rw [op_v0] at h
    exact ox_0 _ _ _ _ h
  · exact br_f (by decide) (br_t rfl (nm_r (nI_add s l) ⟨6, ox_o ho he (fun x hx => op_h1 hx) hc 5 0 0 rfl h⟩))
  · exact br_f (by decide) (br_f (by decide) (nm_r (nI_add s l) ⟨6, ox_o ho he (fun x hx => op_h2 hx) hc 5 0 0 rfl h⟩))
theorem oy_c {post : Int32 → Prop} {q : Int32} {t wh fi ma ki ou : Nat → Int32} (ty x : Int32) (h : post (if op_h ty x = true then 1 else 0)) : wpY_clash post (q, t, wh, fi, ma, ki, ou) ty x := by
  have h9 : ¬ (ty = 2 ∧ ¬ x = 0) → wY_clash_9 post ty x q t wh fi ma ki ou := by
    intro n
    by_cases y : ty = 1
    · refine br_t y ?_
      by_cases z : x = 2
      · rw [show op_h ty x = true from decide_eq_true (Or.inr ⟨y, z⟩), if_pos rfl] at h
        exact br_t z h
      · rw [show op_h ty x = false from decide_eq_false (fun w => w.elim n (fun w => z w.2)), if_neg (by decide)] at h
        exact br_f z h
    · rw [show op_h ty x = false from decide_eq_false (fun w => w.elim n (fun w => y w.1)), if_neg (by decide)] at h
      exact br_f y h
  by_cases y : ty = 2
  · refine br_t y ?_
    by_cases z : x = 0
    · exact br_t z (h9 (fun w => w.2 z))
    · rw [show op_h ty x = true from decide_eq_true (Or.inl ⟨y, z⟩), if_pos rfl] at h
      exact br_f z h
  · exact br_f y (h9 (fun w => y w.1))
theorem oy_i {post : Int32 → Prop} {J : Int32 → Int32 → Prop} {ty : Int32} {o p s l : Nat} (hp : p < 5) (ho : o < 5) (he : s + l ≤ 40) {q : Int32} {t wh fi ma ki ou : Nat → Int32} :
    ∀ m a f, a + m = s + l → J (if p = o then f else op_i t ty p m a f) (nI (p + 1)) → wY_against_15 post J (nI o) (nI s) (nI l) ty (nI p) q t wh fi ma ki ou (m + 1) f (nI a) := by
  intro m
  induction m with
  | zero =>
    intro a f ha h
    refine br_t (by rw [nI_add]; exact nI_le (by omega) (by omega)) (nm_r (nI_1 p) ?_)
    rw [show op_i t ty p 0 a f = f from rfl, ite_self] at h
    exact h
  | succ m ih =>
    intro a f ha h
    refine br_f (by rw [nI_add]; exact nI_ge (by omega) (by omega)) ?_
    by_cases z : p = o
    · refine br_t (congrArg nI z) (nm_r (nI_1 a) (ih (a + 1) f (by omega) ?_))
      rw [if_pos z] at h ⊢
      exact h
    · refine br_f (rl_ne (by omega) (by omega) z) ⟨rl_in2 hp (by omega), ?_⟩
      rw [if_neg z] at h
      rw [rl_c2 hp (by omega)]
      refine oy_c ty _ ?_
      cases w : op_h ty (t (p * 40 + a))
      · rw [if_neg (by decide)]
        refine br_t rfl (nm_r (nI_1 a) (ih (a + 1) f (by omega) ?_))
        rw [if_neg z]
        have e : op_i t ty p (m + 1) a f = op_i t ty p m (a + 1) f := by
          show op_i t ty p m (a + 1) _ = _
          rw [w, if_neg (by decide)]
        rw [e] at h
        exact h
      · rw [if_pos rfl]
        refine br_f (by decide) (nm_e (nm_r (nI_1 a) (ih (a + 1) _ (by omega) ?_)))
        rw [if_neg z]
        have e : op_i t ty p (m + 1) a f = op_i t ty p m (a + 1) (f ||| ((1 : Int32) <<< (nI p &&& 31))) := by
          show op_i t ty p m (a + 1) _ = _
          rw [w, if_pos rfl]
        rw [e] at h
        exact h
theorem oy_o {post : Int32 → Prop} {ty : Int32} {o s l : Nat} (ho : o < 5) (he : s + l ≤ 40) {q : Int32} {t wh fi ma ki ou : Nat → Int32} :
    ∀ r p f, p + r = 5 → post (op_o t ty o s l r p f) → wY_against_6 post (nI o) (nI s) (nI l) ty q t wh fi ma ki ou (r + 1) f (nI p) := by
  intro r
  induction r with
  | zero =>
    intro p f hp h
    exact br_t (nI_le (a := 5) (by omega) (by omega)) h
  | succ r ih =>
    intro p f hp h
    exact br_f (nI_ge (b := 5) (by omega) (by omega)) ⟨l + 1, oy_i (by omega) ho he l s f rfl (ih (p + 1) _ (by omega) h)⟩
theorem oy_v {post : Int32 → Prop} {ty : Int32} {o s l : Nat} (ho : o < 5) (he : s + l ≤ 40) {q : Int32} {t wh fi ma ki ou : Nat → Int32} (h : post (op_v t ty o s l)) : wpY_against post (q, t, wh, fi, ma, ki, ou) (nI o) (nI s) (nI l) ty :=
  ⟨6, oy_o ho he 5 0 0 rfl h⟩
