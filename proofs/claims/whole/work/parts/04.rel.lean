/-! the relation, and what keeps it -/
def qu_E (ws wl wt ln fi ma ki : Nat → Int32) (i o : Nat) : Prop :=
  o < 5 ∧ ln i = nI o ∧ (∃ s l : Nat, ws o = nI s ∧ wl o = nI l ∧ s + l ≤ 40) ∧ (wt o = 1 ∨ wt o = 2) ∧ fi i = ws o ∧ ma i = wl o ∧ ki i = wt o
def qu_I (n : Nat) (c ws wl wt ln fi ma ki : Nat → Int32) : Prop :=
  n ≤ 5 ∧ (∀ j, rl_V (c j)) ∧ (∀ i, i < n → ∃ o, qu_E ws wl wt ln fi ma ki i o) ∧ (∀ i j, i < j → j < n → ¬ ln i = ln j) ∧ (∀ o, o < 5 → wt o = 0 ∨ ∃ i, i < n ∧ ln i = nI o)
def i_Rel (_ : Nat) (u : SX) (v : SY) : Prop :=
  ∃ (n : Nat) (c ws wl wt ln fi ma ki ou : Nat → Int32), u = (nI n, c, ws, wl, wt, ln) ∧ v = (nI n, c, ln, fi, ma, ki, ou) ∧ qu_I n c ws wl wt ln fi ma ki
theorem i_up {k : Nat} {u : SX} {v : SY} (h : i_Rel k u v) : i_Rel (k + 5) u v := h
theorem qu_0 : qu_I 0 (fun _ => 0) (fun _ => 0) (fun _ => 0) (fun _ => 0) (fun _ => 0) (fun _ => 0) (fun _ => 0) (fun _ => 0) :=
  ⟨by omega, fun _ => Or.inl rfl, fun i hi => absurd hi (by omega), fun i j _ hj => absurd hj (by omega), fun _ _ => Or.inl rfl⟩
theorem i_vc0 : wpX_init (fun u => wpY_init (fun v => i_Rel 0 u v)) :=
  ⟨0, _, _, _, _, _, _, _, _, _, rfl, rfl, qu_0⟩
section
variable {n : Nat} {c ws wl wt ln fi ma ki : Nat → Int32}
theorem qu_w (h : qu_I n c ws wl wt ln fi ma ki) {o : Nat} (ho : o < 5) : wt o = 0 ∨ ((∃ s l : Nat, ws o = nI s ∧ wl o = nI l ∧ s + l ≤ 40) ∧ (wt o = 1 ∨ wt o = 2)) := by
  obtain ⟨_, _, h3, _, h5⟩ := h
  rcases h5 o ho with z | ⟨i, hi, e⟩
  · exact Or.inl z
  · obtain ⟨o', h1, h2, h3, h4, _⟩ := h3 i hi
    have : o = o' := rl_inj (by omega) (by omega) (e.symm.trans h2)
    subst this
    exact Or.inr ⟨h3, h4⟩
/-- an owner with a wanted type stands in the line, and one without does not -/
theorem qu_on (h : qu_I n c ws wl wt ln fi ma ki) {i o : Nat} (hi : i < n) (ho : o < 5) (e : ln i = nI o) : ¬ wt o = 0 := by
  obtain ⟨o', h1, h2, _, h4, _⟩ := h.2.2.1 i hi
  have : o = o' := rl_inj (by omega) (by omega) (e.symm.trans h2)
  subst this
  rcases h4 with z | z <;> rw [z] <;> decide
theorem qu_put (h : qu_I n c ws wl wt ln fi ma ki) {c' : Nat → Int32} (hc : ∀ j, rl_V (c' j)) : qu_I n c' ws wl wt ln fi ma ki := ⟨h.1, hc, h.2.2⟩
end
def pt_f (ty : Int32) : Nat → Nat → (Nat → Int32) → (Nat → Int32)
  | 0, _, f => f
  | m + 1, k, f => pt_f ty m (k + 1) (upd f k ty)
theorem pt_V {ty : Int32} (ht : rl_V ty) : ∀ m k f, (∀ j, rl_V (f j)) → ∀ j, rl_V (pt_f ty m k f j) := by
  intro m
  induction m with
  | zero => intro k f h; exact h
  | succ m ih =>
    intro k f h
    refine ih (k + 1) _ (fun j => ?_)
    by_cases e : j = k
    · subst e; rw [pk_us]; exact ht
    · rw [pk_un e]; exact h j
theorem px_l {post : SX → Prop} {ty ll : Int32} {o e : Nat} (ho : o < 5) (he : e ≤ 40) {ws wl wt ln : Nat → Int32} : ∀ m a c, a + m = e → post (ll, pt_f ty m (o * 40 + a) c, ws, wl, wt, ln) → wX_put_8 post (nI o) ty (nI e) ll (m + 1) (nI a) c ws wl wt ln := by
  intro m
  induction m with
  | zero => intro a c ha h; exact br_t (nI_le (by omega) (by omega)) h
  | succ m ih =>
    intro a c ha h
    exact br_f (nI_ge (by omega) (by omega)) ⟨rl_in1 ho (by omega), nm_r (by rw [rl_c1 ho (by omega)]) (nm_r (nI_1 a) (ih (a + 1) _ (by omega) h))⟩
theorem px_v {post : SX → Prop} {ty ll : Int32} {o s l : Nat} (ho : o < 5) (he : s + l ≤ 40) {c ws wl wt ln : Nat → Int32} (h : post (ll, pt_f ty l (o * 40 + s) c, ws, wl, wt, ln)) : wpX_put post (ll, c, ws, wl, wt, ln) (nI o) (nI s) (nI l) ty :=
  nm_r (nI_add s l) ⟨l + 1, px_l ho he l s c rfl h⟩
theorem py_l {post : SY → Prop} {ty q : Int32} {o s l : Nat} (ho : o < 5) (he : s + l ≤ 40) {wh fi ma ki ou : Nat → Int32} : ∀ m a t, a + m = s + l → post (q, pt_f ty m (o * 40 + a) t, wh, fi, ma, ki, ou) → wY_grant_3 post (nI o) (nI s) (nI l) ty q (m + 1) (nI a) t wh fi ma ki ou := by
  intro m
  induction m with
  | zero => intro a t ha h; exact br_t (by rw [nI_add]; exact nI_le (by omega) (by omega)) h
  | succ m ih =>
    intro a t ha h
    exact br_f (by rw [nI_add]; exact nI_ge (by omega) (by omega)) ⟨rl_in2 ho (by omega), nm_r (by rw [rl_c2 ho (by omega)]) (nm_r (nI_1 a) (ih (a + 1) _ (by omega) h))⟩
theorem py_v {post : SY → Prop} {ty q : Int32} {o s l : Nat} (ho : o < 5) (he : s + l ≤ 40) {t wh fi ma ki ou : Nat → Int32} (h : post (q, pt_f ty l (o * 40 + s) t, wh, fi, ma, ki, ou)) : wpY_grant post (q, t, wh, fi, ma, ki, ou) (nI o) (nI s) (nI l) ty :=
  ⟨l + 1, py_l ho he l s t rfl h⟩
/-- an array's entries behind place i move down by one -/
def sh_f : Nat → Nat → (Nat → Int32) → (Nat → Int32)
  | 0, _, f => f
  | m + 1, i, f => sh_f m (i + 1) (upd f i (f (i + 1)))
theorem sh_lo : ∀ m i f j, j < i → sh_f m i f j = f j := by
  intro m
  induction m with
  | zero => intro i f j _; rfl
  | succ m ih =>
    intro i f j h
    rw [show sh_f (m + 1) i f = sh_f m (i + 1) (upd f i (f (i + 1))) from rfl, ih (i + 1) _ j (by omega), pk_un (by omega)]
theorem sh_hi : ∀ m i f j, i ≤ j → j < i + m → sh_f m i f j = f (j + 1) := by
  intro m
  induction m with
  | zero => intro i f j h1 h2; omega
  | succ m ih =>
    intro i f j h1 h2
    rw [show sh_f (m + 1) i f = sh_f m (i + 1) (upd f i (f (i + 1))) from rfl]
    by_cases e : j = i
    · subst e; rw [sh_lo _ _ _ _ (by omega), pk_us]
    · rw [ih (i + 1) _ j (by omega) (by omega), pk_un (by omega)]
def sh_g (i j : Nat) : Nat := if j < i then j else j + 1
theorem sh_at {n i : Nat} (f : Nat → Int32) {j : Nat} (hj : j < n) (hi : i < n + 1) : sh_f (n - i) i f j = f (sh_g i j) := by
  unfold sh_g
  by_cases e : j < i
  · rw [if_pos e, sh_lo _ _ _ _ e]
  · rw [if_neg e, sh_hi _ _ _ _ (by omega) (by omega)]
theorem sh_g1 {n i j : Nat} (hj : j < n) (hi : i < n + 1) : sh_g i j < n + 1 ∧ sh_g i j ≠ i := by
  unfold sh_g
  by_cases e : j < i
  · rw [if_pos e]; omega
  · rw [if_neg e]; omega
theorem sh_g2 {i j k : Nat} (h : j < k) : sh_g i j < sh_g i k := by
  unfold sh_g
  by_cases e : j < i
  · by_cases e2 : k < i
    · rw [if_pos e, if_pos e2]; omega
    · rw [if_pos e, if_neg e2]; omega
  · rw [if_neg e, if_neg (by omega)]; omega
theorem qu_dis {n : Nat} {ln : Nat → Int32} (h : ∀ i j, i < j → j < n → ¬ ln i = ln j) {i j : Nat} (hi : i < n) (hj : j < n) (hn : i ≠ j) : ¬ ln i = ln j := by
  rcases Nat.lt_or_gt_of_ne hn with z | z
  · exact h i j z hj
  · exact fun e => h j i z hi e.symm
theorem qu_rem {n : Nat} {c ws wl wt ln fi ma ki : Nat → Int32} {i o : Nat} (h : qu_I (n + 1) c ws wl wt ln fi ma ki) (hi : i < n + 1) (ho : o < 5) (hl : ln i = nI o) :
    qu_I n c ws wl (upd wt o 0) (sh_f (n - i) i ln) (sh_f (n - i) i fi) (sh_f (n - i) i ma) (sh_f (n - i) i ki) := by
  obtain ⟨h1, h2, h3, h4, h5⟩ := h
  refine ⟨by omega, h2, ?_, ?_, ?_⟩
  · intro j hj
    obtain ⟨g1, g2⟩ := sh_g1 hj hi
    obtain ⟨o', e1, e2, e3, e4, e5, e6, e7⟩ := h3 _ g1
    have hne : o' ≠ o := by
      intro e
      subst e
      exact qu_dis h4 g1 hi g2 (e2.trans hl.symm)
    refine ⟨o', e1, ?_, e3, ?_, ?_, ?_, ?_⟩
    · rw [sh_at ln hj hi]; exact e2
    · rw [pk_un hne]; exact e4
    · rw [sh_at fi hj hi]; exact e5
    · rw [sh_at ma hj hi]; exact e6
    · rw [sh_at ki hj hi, pk_un hne]; exact e7
  · intro j k hjk hk
    rw [sh_at ln (by omega) hi, sh_at ln hk hi]
    exact h4 _ _ (sh_g2 hjk) (sh_g1 hk hi).1
  · intro o' ho'
    by_cases e : o' = o
    · subst e; exact Or.inl pk_us
    · rw [pk_un e]
      rcases h5 o' ho' with z | ⟨k, hk, ek⟩
      · exact Or.inl z
      · refine Or.inr ?_
        have hki : k ≠ i := by
          intro w
          subst w
          exact e (rl_inj (by omega) (by omega) (ek.symm.trans hl))
        by_cases w : k < i
        · refine ⟨k, by omega, ?_⟩
          rw [sh_at ln (by omega) hi, show sh_g i k = k from if_pos w]
          exact ek
        · refine ⟨k - 1, by omega, ?_⟩
          rw [sh_at ln (by omega) hi, show sh_g i (k - 1) = k from by unfold sh_g; rw [if_neg (by omega)]; omega]
          exact ek
/-- the line holds fewer than five as long as some owner isn't in it -/
def ct_f (ln : Nat → Int32) (o : Nat) : Nat → Nat
  | 0 => 0
  | n + 1 => ct_f ln o n + (if ln n = nI o then 1 else 0)
theorem ct_no {ln : Nat → Int32} {o : Nat} : ∀ n, (∀ i, i < n → ¬ ln i = nI o) → ct_f ln o n = 0 := by
  intro n
  induction n with
  | zero => intro _; rfl
  | succ n ih =>
    intro h
    show ct_f ln o n + _ = 0
    rw [ih (fun i hi => h i (by omega)), if_neg (h n (by omega))]
theorem ct_1 {ln : Nat → Int32} (o : Nat) : ∀ n, (∀ i j, i < j → j < n → ¬ ln i = ln j) → ct_f ln o n ≤ 1 := by
  intro n
  induction n with
  | zero => intro _; exact Nat.zero_le _
  | succ n ih =>
    intro h
    show ct_f ln o n + _ ≤ 1
    by_cases e : ln n = nI o
    · rw [ct_no n (fun i hi z => h i n hi (by omega) (z.trans e.symm)), if_pos e]
      omega
    · rw [if_neg e]
      exact ih (fun i j hij hj => h i j hij (by omega))
theorem ct_sum {ln : Nat → Int32} : ∀ n, (∀ i, i < n → ∃ o, o < 5 ∧ ln i = nI o) → ct_f ln 0 n + ct_f ln 1 n + ct_f ln 2 n + ct_f ln 3 n + ct_f ln 4 n = n := by
  intro n
  induction n with
  | zero => intro _; rfl
  | succ n ih =>
    intro h
    have s := ih (fun i hi => h i (by omega))
    obtain ⟨o, ho, e⟩ := h n (by omega)
    have hs : ∀ p, p < 5 → ct_f ln p (n + 1) = ct_f ln p n + (if o = p then 1 else 0) := by
      intro p hp
      show ct_f ln p n + _ = _
      rw [e]
      by_cases z : o = p
      · rw [if_pos z, if_pos (congrArg nI z)]
      · rw [if_neg z, if_neg (rl_ne (by omega) (by omega) z)]
    rw [hs 0 (by omega), hs 1 (by omega), hs 2 (by omega), hs 3 (by omega), hs 4 (by omega)]
    have ho' : o = 0 ∨ o = 1 ∨ o = 2 ∨ o = 3 ∨ o = 4 := by omega
    rcases ho' with rfl | rfl | rfl | rfl | rfl <;> simp <;> omega
theorem qu_room {n : Nat} {c ws wl wt ln fi ma ki : Nat → Int32} (h : qu_I n c ws wl wt ln fi ma ki) {o : Nat} (ho : o < 5) (hw : wt o = 0) : n < 5 := by
  have hno : ct_f ln o n = 0 := ct_no n (fun i hi e => qu_on h hi ho e hw)
  obtain ⟨h1, h2, h3, h4, h5⟩ := h
  have s := ct_sum n (fun i hi => by obtain ⟨o', e1, e2, _⟩ := h3 i hi; exact ⟨o', e1, e2⟩)
  have l0 := ct_1 0 n h4
  have l1 := ct_1 1 n h4
  have l2 := ct_1 2 n h4
  have l3 := ct_1 3 n h4
  have l4 := ct_1 4 n h4
  have ho' : o = 0 ∨ o = 1 ∨ o = 2 ∨ o = 3 ∨ o = 4 := by omega
  rcases ho' with rfl | rfl | rfl | rfl | rfl <;> omega
theorem qu_add {n : Nat} {c ws wl wt ln fi ma ki : Nat → Int32} (h : qu_I n c ws wl wt ln fi ma ki) {o s l : Nat} {ty : Int32} (ho : o < 5) (hw : wt o = 0) (hr : s + l ≤ 40) (ht : ty = 1 ∨ ty = 2) :
    qu_I (n + 1) c (upd ws o (nI s)) (upd wl o (nI l)) (upd wt o ty) (upd ln n (nI o)) (upd fi n (nI s)) (upd ma n (nI l)) (upd ki n ty) := by
  have hn := qu_room h ho hw
  have hon := fun i (hi : i < n) => qu_on h hi ho
  obtain ⟨h1, h2, h3, h4, h5⟩ := h
  refine ⟨by omega, h2, ?_, ?_, ?_⟩
  · intro i hi
    by_cases e : i = n
    · subst e
      exact ⟨o, ho, pk_us, ⟨s, l, pk_us, pk_us, hr⟩, by rw [pk_us]; exact ht, by rw [pk_us, pk_us], by rw [pk_us, pk_us], by rw [pk_us, pk_us]⟩
    · obtain ⟨o', e1, e2, e3, e4, e5, e6, e7⟩ := h3 i (by omega)
      have hne : o' ≠ o := by
        intro w
        subst w
        exact hon i (by omega) e2 hw
      exact ⟨o', e1, by rw [pk_un e]; exact e2, by rw [pk_un hne, pk_un hne]; exact e3, by rw [pk_un hne]; exact e4, by rw [pk_un e, pk_un hne]; exact e5, by rw [pk_un e, pk_un hne]; exact e6, by rw [pk_un e, pk_un hne]; exact e7⟩
  · intro i j hij hj
    rw [pk_un (show i ≠ n by omega)]
    by_cases e : j = n
    · subst e; rw [pk_us]; exact fun z => hon i hij z hw
    · rw [pk_un e]; exact h4 i j hij (by omega)
  · intro o' ho'
    by_cases e : o' = o
    · subst e; exact Or.inr ⟨n, by omega, pk_us⟩
    · rw [pk_un e]
      rcases h5 o' ho' with z | ⟨i, hi, ei⟩
      · exact Or.inl z
      · exact Or.inr ⟨i, by omega, by rw [pk_un (by omega)]; exact ei⟩
