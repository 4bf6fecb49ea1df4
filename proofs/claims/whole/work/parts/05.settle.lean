/-! stopWaiting and leave, firstGrantable and ready, settle -/
theorem sx_e {post : SX → Prop} {o n : Nat} (ho : o < 5) {m : Nat} {x2 : Int32} {c ws wl wt ln : Nat → Int32} (h : post (x2, c, ws, wl, upd wt o 0, ln)) : wX_stopWaiting_4 post (nI o) (nI n) (m + 1) x2 (nI n) c ws wl wt ln :=
  br_t (Int32.le_refl _) ⟨vp_in_nI ho (by omega), nm_r (by rw [rl_cl5 ho]) h⟩
theorem sx_2 {post : SX → Prop} {o n : Nat} (ho : o < 5) (hn : n < 5) {c ws wl wt : Nat → Int32} : ∀ m k f, k + m = n → (∀ j, k < j → j < n + 1 → ¬ f j = nI o) → post (nI n, c, ws, wl, upd wt o 0, sh_f m k f) → wX_stopWaiting_4 post (nI o) (nI (n + 1)) (m + 1) (nI k) (nI (k + 1)) c ws wl wt f := by
  intro m
  induction m with
  | zero =>
    intro k f hk _ h
    have : k = n := by omega
    subst this
    exact sx_e ho h
  | succ m ih =>
    intro k f hk hf h
    refine br_f (nI_ge (by omega) (by omega)) ⟨vp_in_nI (by omega) (by omega), ?_⟩
    rw [rl_cl5 (show k + 1 < 5 by omega), rl_cl5 (show k < 5 by omega)]
    refine br_f (hf (k + 1) (by omega) (by omega)) ⟨vp_in_nI (by omega) (by omega), vp_in_nI (by omega) (by omega), nm_e (nm_r (nI_1 k) (nm_r (nI_1 (k + 1)) (ih (k + 1) _ (by omega) ?_ h)))⟩
    intro j h1 h2
    rw [pk_un (by omega)]
    exact hf j (by omega) h2
/-- the owner stands at place i -/
theorem sx_1 {post : SX → Prop} {o n i : Nat} (ho : o < 5) (hn : n < 5) (hi : i < n + 1) {c ws wl wt ln : Nat → Int32} (he : ln i = nI o) (hf : ∀ j, j < n + 1 → j ≠ i → ¬ ln j = nI o) (h : post (nI n, c, ws, wl, upd wt o 0, sh_f (n - i) i ln)) : ∀ m k, k + m = i → wX_stopWaiting_4 post (nI o) (nI (n + 1)) (m + (n - i + 1) + 1) (nI k) (nI k) c ws wl wt ln := by
  intro m
  induction m with
  | zero =>
    intro k hk
    have : k = i := by omega
    subst this
    rw [show 0 + (n - k + 1) + 1 = (n - k + 1) + 1 from by omega]
    refine br_f (nI_ge (by omega) (by omega)) ⟨vp_in_nI (by omega) (by omega), ?_⟩
    rw [rl_cl5 (show k < 5 by omega)]
    exact br_t he (nm_r (nI_1 k) (sx_2 ho hn (n - k) k ln (by omega) (fun j h1 h2 => hf j h2 (by omega)) h))
  | succ m ih =>
    intro k hk
    rw [show m + 1 + (n - i + 1) + 1 = (m + (n - i + 1) + 1) + 1 from by omega]
    refine br_f (nI_ge (by omega) (by omega)) ⟨vp_in_nI (by omega) (by omega), ?_⟩
    rw [rl_cl5 (show k < 5 by omega)]
    exact br_f (hf k (by omega) (by omega)) ⟨vp_in_nI (by omega) (by omega), vp_in_nI (by omega) (by omega), nm_r (rl_upd_id ln k) (nm_r (nI_1 k) (nm_r (nI_1 k) (ih (k + 1) (by omega))))⟩
/-- the owner isn't in the line -/
theorem sx_0 {post : SX → Prop} {o n : Nat} (ho : o < 5) (hn : n ≤ 5) {c ws wl wt ln : Nat → Int32} (hf : ∀ j, j < n → ¬ ln j = nI o) (h : post (nI n, c, ws, wl, upd wt o 0, ln)) : ∀ m k, k + m = n → wX_stopWaiting_4 post (nI o) (nI n) (m + 1) (nI k) (nI k) c ws wl wt ln := by
  intro m
  induction m with
  | zero =>
    intro k hk
    have : k = n := by omega
    subst this
    exact sx_e ho h
  | succ m ih =>
    intro k hk
    refine br_f (nI_ge (by omega) (by omega)) ⟨vp_in_nI (by omega) (by omega), ?_⟩
    rw [rl_cl5 (show k < 5 by omega)]
    exact br_f (hf k (by omega)) ⟨vp_in_nI (by omega) (by omega), vp_in_nI (by omega) (by omega), nm_r (rl_upd_id ln k) (nm_r (nI_1 k) (nm_r (nI_1 k) (ih (k + 1) (by omega))))⟩
theorem sx_in {post : SX → Prop} {n : Nat} {c ws wl wt ln fi ma ki : Nat → Int32} (I : qu_I (n + 1) c ws wl wt ln fi ma ki) {i o : Nat} (hi : i < n + 1) (ho : o < 5) (he : ln i = nI o) (c' : Nat → Int32) (h : post (nI n, c', ws, wl, upd wt o 0, sh_f (n - i) i ln)) : wpX_stopWaiting post (nI (n + 1), c', ws, wl, wt, ln) (nI o) :=
  ⟨_, sx_1 ho (by have := I.1; omega) hi he (fun j hj hn e => qu_dis I.2.2.2.1 hj hi hn (e.trans he.symm)) h i 0 (by omega)⟩
theorem sx_no {post : SX → Prop} {n : Nat} {c ws wl wt ln fi ma ki : Nat → Int32} (I : qu_I n c ws wl wt ln fi ma ki) {o : Nat} (ho : o < 5) (hw : wt o = 0) (c' : Nat → Int32) (h : post (nI n, c', ws, wl, wt, ln)) : wpX_stopWaiting post (nI n, c', ws, wl, wt, ln) (nI o) :=
  ⟨_, sx_0 ho I.1 (fun j hj e => qu_on I hj ho e hw) (by rw [rl_upd_id' hw]; exact h) n 0 (by omega)⟩
theorem sy_l {post : SY → Prop} {n : Nat} (hn : n < 5) {t ou : Nat → Int32} : ∀ m i wh fi ma ki, i + m = n → post (nI n, t, sh_f m i wh, sh_f m i fi, sh_f m i ma, sh_f m i ki, ou) → wY_leave_2 post (nI (n + 1)) (m + 1) (nI i) t wh fi ma ki ou := by
  intro m
  induction m with
  | zero =>
    intro i wh fi ma ki hi h
    exact br_t (by rw [nI_pred]; exact nI_le (by omega) (by omega)) (nm_r (nI_pred n) h)
  | succ m ih =>
    intro i wh fi ma ki hi h
    refine br_f (by rw [nI_pred]; exact nI_ge (by omega) (by omega)) (br_f (nI_ge (b := 7) (by omega) (by omega)) ?_)
    rw [nI_1 i, rl_cl8 (show i < 8 by omega), rl_cl8 (show i + 1 < 8 by omega)]
    have a1 : vp_in (nI (i + 1)) 8 := vp_in_nI (by omega) (by omega)
    have a0 : vp_in (nI i) 8 := vp_in_nI (by omega) (by omega)
    exact ⟨a1, a0, nm_e ⟨a1, a0, nm_e ⟨a1, a0, nm_e ⟨a1, a0, nm_e (nm_e (ih (i + 1) _ _ _ _ (by omega) h))⟩⟩⟩⟩
theorem sy_v {post : SY → Prop} {n i : Nat} (hn : n < 5) (hi : i < n + 1) {t wh fi ma ki ou : Nat → Int32} (h : post (nI n, t, sh_f (n - i) i wh, sh_f (n - i) i fi, sh_f (n - i) i ma, sh_f (n - i) i ki, ou)) : wpY_leave post (nI (n + 1), t, wh, fi, ma, ki, ou) (nI i) :=
  ⟨_, sy_l hn (n - i) i wh fi ma ki (by omega) h⟩
/-- whom the owner waits for -/
def wf_v (c ws wl wt : Nat → Int32) (o : Nat) : Int32 := op_v c (wt o) o (ws o).toNatClampNeg (wl o).toNatClampNeg
theorem wf_0 {c ws wl wt : Nat → Int32} {o : Nat} (h : wt o = 0) : wf_v c ws wl wt o = 0 := by unfold wf_v; rw [h, op_v0]
theorem wf_s {c ws wl wt : Nat → Int32} {o s l : Nat} (h1 : ws o = nI s) (h2 : wl o = nI l) (h : s + l ≤ 40) : wf_v c ws wl wt o = op_v c (wt o) o s l := by
  unfold wf_v
  rw [h1, h2, nI_clamp (by omega), nI_clamp (by omega)]
theorem rl_V12 {x : Int32} (h : x = 1 ∨ x = 2) : rl_V x := Or.inr h
theorem wf_x {post : Int32 → Prop} {n : Nat} {c ws wl wt ln fi ma ki : Nat → Int32} (I : qu_I n c ws wl wt ln fi ma ki) {o : Nat} (ho : o < 5) (ll : Int32) (h : post (wf_v c ws wl wt o)) : wpX_waitedFor post (ll, c, ws, wl, wt, ln) (nI o) := by
  have a : vp_in (nI o) 5 := vp_in_nI ho (by omega)
  refine ⟨a, a, a, ?_⟩
  rw [rl_cl5 ho]
  rcases qu_w I ho with z | ⟨⟨s, l, h1, h2, h3⟩, h4⟩
  · rw [wf_0 z] at h
    rw [z]
    exact ox_0 _ _ _ _ h
  · rw [wf_s h1 h2 h3] at h
    rw [h1, h2]
    exact ox_v ho h3 (rl_V12 h4) I.2.1 h
theorem wf_y {post : Int32 → Prop} {c ws wl wt ln fi ma ki : Nat → Int32} {i o : Nat} (E : qu_E ws wl wt ln fi ma ki i o) {q : Int32} {wh fi' ma' ki' ou : Nat → Int32} (h : post (wf_v c ws wl wt o)) : wpY_against post (q, c, wh, fi', ma', ki', ou) (ln i) (fi i) (ma i) (ki i) := by
  obtain ⟨e1, e2, ⟨s, l, h1, h2, h3⟩, e4, e5, e6, e7⟩ := E
  rw [wf_s h1 h2 h3] at h
  rw [e2, e5, e6, e7, h1, h2]
  exact oy_v e1 h3 h
/-- the place of an owner -/
theorem pl_l {n : Nat} (hn : n ≤ 5) {c ln fi ma ki ou : Nat → Int32} (o : Int32) : ∀ m i, i + m = n →
    (∃ j, i ≤ j ∧ j < n ∧ ln j = o ∧ (∀ k, i ≤ k → k < j → ¬ ln k = o) ∧ ∀ post : Int32 → Prop, post (nI j) → wY_placeOf_2 post o (nI n) c ln fi ma ki ou (m + 1) (nI i)) ∨
    ((∀ j, i ≤ j → j < n → ¬ ln j = o) ∧ ∀ post : Int32 → Prop, post (-1) → wY_placeOf_2 post o (nI n) c ln fi ma ki ou (m + 1) (nI i)) := by
  intro m
  induction m with
  | zero =>
    intro i hi
    exact Or.inr ⟨fun j h1 h2 => absurd h2 (by omega), fun post h => br_t (nI_le (by omega) (by omega)) h⟩
  | succ m ih =>
    intro i hi
    have g1 : ¬ nI n ≤ nI i := nI_ge (by omega) (by omega)
    have g2 : ¬ (8 : Int32) ≤ nI i := nI_ge (b := 8) (by omega) (by omega)
    have g3 : vp_in (nI i) 8 := vp_in_nI (by omega) (by omega)
    have g4 : (nI i).toNatClampNeg = i := rl_cl8 (by omega)
    by_cases e : ln i = o
    · exact Or.inl ⟨i, Nat.le_refl _, by omega, e, fun k h1 h2 => absurd h2 (by omega), fun post h => br_f g1 (br_f g2 ⟨g3, br_t (by rw [g4]; exact e) h⟩)⟩
    · rcases ih (i + 1) (by omega) with ⟨j, h1, h2, h3, h4, h5⟩ | ⟨h1, h2⟩
      · refine Or.inl ⟨j, by omega, h2, h3, ?_, fun post h => br_f g1 (br_f g2 ⟨g3, br_f (by rw [g4]; exact e) (nm_r (nI_1 i) (h5 post h))⟩)⟩
        intro k k1 k2
        by_cases w : k = i
        · subst w; exact e
        · exact h4 k (by omega) k2
      · refine Or.inr ⟨?_, fun post h => br_f g1 (br_f g2 ⟨g3, br_f (by rw [g4]; exact e) (nm_r (nI_1 i) (h2 post h))⟩)⟩
        intro k k1 k2
        by_cases w : k = i
        · subst w; exact e
        · exact h1 k (by omega) k2
theorem pl_v {n : Nat} {c ws wl wt ln fi ma ki : Nat → Int32} (I : qu_I n c ws wl wt ln fi ma ki) (ou : Nat → Int32) {o : Nat} (ho : o < 5) :
    (∃ j, j < n ∧ ln j = nI o ∧ (∀ k, k < j → ¬ ln k = nI o) ∧ ¬ wt o = 0 ∧ ∀ post : Int32 → Prop, post (nI j) → wpY_placeOf post (nI n, c, ln, fi, ma, ki, ou) (nI o)) ∨
    ((∀ j, j < n → ¬ ln j = nI o) ∧ wt o = 0 ∧ ∀ post : Int32 → Prop, post (-1) → wpY_placeOf post (nI n, c, ln, fi, ma, ki, ou) (nI o)) := by
  rcases pl_l I.1 (c := c) (ln := ln) (fi := fi) (ma := ma) (ki := ki) (ou := ou) (nI o) n 0 (by omega) with ⟨j, h1, h2, h3, h4, h5⟩ | ⟨h1, h2⟩
  · exact Or.inl ⟨j, h2, h3, fun k hk => h4 k (by omega) hk, qu_on I h2 ho h3, fun post h => ⟨_, h5 post h⟩⟩
  · refine Or.inr ⟨fun j hj => h1 j (by omega) hj, ?_, fun post h => ⟨_, h2 post h⟩⟩
    rcases I.2.2.2.2 o ho with z | ⟨i, hi, e⟩
    · exact z
    · exact absurd e (h1 i (by omega) hi)
theorem fg_l {n : Nat} {c ws wl wt ln fi ma ki : Nat → Int32} (I : qu_I n c ws wl wt ln fi ma ki) (ou : Nat → Int32) : ∀ m i, i + m = n →
    (∃ j o, j < n ∧ qu_E ws wl wt ln fi ma ki j o ∧ (∀ post : Int32 → Prop, post (nI o) → wX_firstGrantable_2 post (nI n) c ws wl wt ln (m + 1) (nI i)) ∧ (∀ post : Int32 → Prop, post (nI j) → wY_ready_2 post (nI n) c ln fi ma ki ou (m + 1) (nI i))) ∨
    ((∀ post : Int32 → Prop, post (-1) → wX_firstGrantable_2 post (nI n) c ws wl wt ln (m + 1) (nI i)) ∧ (∀ post : Int32 → Prop, post (-1) → wY_ready_2 post (nI n) c ln fi ma ki ou (m + 1) (nI i))) := by
  have hn := I.1
  intro m
  induction m with
  | zero =>
    intro i hi
    have g : nI n ≤ nI i := nI_le (by omega) (by omega)
    exact Or.inr ⟨fun post h => br_t g h, fun post h => br_t g h⟩
  | succ m ih =>
    intro i hi
    have g1 : ¬ nI n ≤ nI i := nI_ge (by omega) (by omega)
    have g2 : ¬ (8 : Int32) ≤ nI i := nI_ge (b := 8) (by omega) (by omega)
    have g3 : vp_in (nI i) 8 := vp_in_nI (by omega) (by omega)
    have g5 : vp_in (nI i) 5 := vp_in_nI (by omega) (by omega)
    have g4 : (nI i).toNatClampNeg = i := rl_cl8 (by omega)
    obtain ⟨o, E⟩ := I.2.2.1 i (by omega)
    have ho := E.1
    have ew := E.2.1
    by_cases e : wf_v c ws wl wt o = 0
    · refine Or.inl ⟨i, o, by omega, E, fun post h => br_f g1 ⟨g5, ?_⟩, fun post h => br_f g1 (br_f g2 ⟨g3, g3, g3, g3, ?_⟩)⟩
      · rw [g4, ew]
        exact wf_x I ho _ (br_t e ⟨g5, h⟩)
      · rw [g4]
        exact wf_y E (br_t e h)
    · rcases ih (i + 1) (by omega) with ⟨j, o', h1, h2, h3, h4⟩ | ⟨h1, h2⟩
      · refine Or.inl ⟨j, o', h1, h2, fun post h => br_f g1 ⟨g5, ?_⟩, fun post h => br_f g1 (br_f g2 ⟨g3, g3, g3, g3, ?_⟩)⟩
        · rw [g4, ew]
          exact wf_x I ho _ (br_f e (nm_r (nI_1 i) (h3 post h)))
        · rw [g4]
          exact wf_y E (br_f e (nm_r (nI_1 i) (h4 post h)))
      · refine Or.inr ⟨fun post h => br_f g1 ⟨g5, ?_⟩, fun post h => br_f g1 (br_f g2 ⟨g3, g3, g3, g3, ?_⟩)⟩
        · rw [g4, ew]
          exact wf_x I ho _ (br_f e (nm_r (nI_1 i) (h1 post h)))
        · rw [g4]
          exact wf_y E (br_f e (nm_r (nI_1 i) (h2 post h)))
/-- the reference's rounds in which nothing is ready -/
theorem st_idle {n : Nat} {c ln fi ma ki ou : Nat → Int32} (hr : ∀ post : Int32 → Prop, post (-1) → wpY_ready post (nI n, c, ln, fi, ma, ki, ou)) {post : Int32 → SY → Prop} {g : Int32} (h : post g (nI n, c, ln, fi, ma, ki, ou)) : ∀ m rd, rd + m = 5 → wY_settle_4 post (m + 1) g (nI rd) (nI n) c ln fi ma ki ou := by
  intro m
  induction m with
  | zero => intro rd hd; exact br_t (nI_le (a := 5) (by omega) (by omega)) h
  | succ m ih =>
    intro rd hd
    refine br_f (nI_ge (b := 5) (by omega) (by omega)) (hr _ ?_)
    exact br_t (by decide) (nm_r (nI_1 rd) (ih (rd + 1) (by omega)))
theorem st_l : ∀ m rd g n c ws wl wt ln fi ma ki ou, rd + m = 5 → qu_I n c ws wl wt ln fi ma ki →
    ∃ r n' c' wt' ln' fi' ma' ki', qu_I n' c' ws wl wt' ln' fi' ma' ki' ∧
      (∀ post : Int32 → SX → Prop, post r (nI n', c', ws, wl, wt', ln') → wX_settle_4 post (m + 1) g (nI rd) (nI n) c ws wl wt ln) ∧
      (∀ post : Int32 → SY → Prop, post r (nI n', c', ln', fi', ma', ki', ou) → wY_settle_4 post (m + 1) g (nI rd) (nI n) c ln fi ma ki ou) := by
  intro m
  induction m with
  | zero =>
    intro rd g n c ws wl wt ln fi ma ki ou hd I
    have h5 : (5 : Int32) ≤ nI rd := nI_le (a := 5) (by omega) (by omega)
    exact ⟨g, n, c, wt, ln, fi, ma, ki, I, fun post h => br_t h5 h, fun post h => br_t h5 h⟩
  | succ m ih =>
    intro rd g n c ws wl wt ln fi ma ki ou hd I
    have h5 : ¬ (5 : Int32) ≤ nI rd := nI_ge (b := 5) (by omega) (by omega)
    rcases fg_l I ou n 0 (by omega) with ⟨j, o, hj, E, hX, hY⟩ | ⟨hX, hY⟩
    · obtain ⟨k, rfl⟩ : ∃ k, n = k + 1 := ⟨n - 1, by omega⟩
      obtain ⟨e1, e2, ⟨s, l, w1, w2, w3⟩, e4, e5, e6, e7⟩ := id E
      have I1 := qu_rem (qu_put I (pt_V (rl_V12 e4) l (o * 40 + s) c I.2.1)) hj e1 e2
      have hk : k < 5 := by have := I.1; omega
      obtain ⟨r, n', c', wt', ln', fi', ma', ki', I', kX, kY⟩ := ih (rd + 1) (g + 1) k _ ws wl _ _ _ _ _ ou (by omega) I1
      refine ⟨r, n', c', wt', ln', fi', ma', ki', I', fun post h => br_f h5 ⟨_, hX _ ?_⟩, fun post h => br_f h5 ⟨_, hY _ ?_⟩⟩
      · have a : vp_in (nI o) 5 := vp_in_nI e1 (by omega)
        refine br_t (nI_pos' (by omega)) ⟨a, a, a, ?_⟩
        rw [rl_cl5 e1, w1, w2]
        refine px_v e1 w3 ?_
        refine sx_in I hj e1 e2 _ ?_
        exact nm_e (nm_r (nI_1 rd) (kX post h))
      · have a : vp_in (nI j) 8 := vp_in_nI (by omega) (by omega)
        refine br_f (nI_pos (by omega)) ⟨a, a, a, a, ?_⟩
        rw [rl_cl8 (show j < 8 by omega), e2, e5, e6, e7, w1, w2]
        refine py_v e1 w3 ?_
        refine sy_v hk hj ?_
        exact nm_e (nm_r (nI_1 rd) (kY post h))
    · refine ⟨g, n, c, wt, ln, fi, ma, ki, I, fun post h => br_f h5 ⟨_, hX _ ?_⟩, fun post h => st_idle (fun post h => ⟨_, hY post h⟩) h (m + 1) rd hd⟩
      exact br_f (by decide) h
theorem st_v {n : Nat} {c ws wl wt ln fi ma ki : Nat → Int32} (I : qu_I n c ws wl wt ln fi ma ki) (ou : Nat → Int32) :
    ∃ r n' c' wt' ln' fi' ma' ki', qu_I n' c' ws wl wt' ln' fi' ma' ki' ∧
      (∀ post : Int32 → SX → Prop, post r (nI n', c', ws, wl, wt', ln') → wpX_settle post (nI n, c, ws, wl, wt, ln)) ∧
      (∀ post : Int32 → SY → Prop, post r (nI n', c', ln', fi', ma', ki', ou) → wpY_settle post (nI n, c, ln, fi, ma, ki, ou)) := by
  obtain ⟨r, n', c', wt', ln', fi', ma', ki', I', kX, kY⟩ := st_l 5 0 0 n c ws wl wt ln fi ma ki ou rfl I
  exact ⟨r, n', c', wt', ln', fi', ma', ki', I', fun post h => ⟨_, kX post h⟩, fun post h => ⟨_, kY post h⟩⟩
