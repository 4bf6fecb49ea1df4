/-! leadsTo and circles; the tests of the arguments -/
theorem lt_i {post : Int32 → Prop} {J : Int32 → Int32 → Prop} {n : Nat} {c ws wl wt ln fi ma ki : Nat → Int32} (I : qu_I n c ws wl wt ln fi ma ki) (x2 ll : Int32) (st : Nat) : ∀ m p R, p + m = 5 → J (cs_g (wf_v c ws wl wt) m p R) (nI (st + 1)) → wX_leadsTo_14 post J x2 (nI st) ll c ws wl wt ln (m + 1) R (nI p) := by
  intro m
  induction m with
  | zero =>
    intro p R hp h
    exact br_t (nI_le (a := 5) (by omega) (by omega)) (nm_r (nI_1 st) h)
  | succ m ih =>
    intro p R hp h
    refine br_f (nI_ge (b := 5) (by omega) (by omega)) ?_
    have e : cs_g (wf_v c ws wl wt) (m + 1) p R = cs_g (wf_v c ws wl wt) m (p + 1) (if bt R p = true then R ||| wf_v c ws wl wt p else R) := rfl
    rw [e] at h
    by_cases z : bt R p = true
    · rw [if_pos z] at h
      refine br_f (fun w => ?_) (wf_x I (by omega) _ (nm_e (nm_r (nI_1 p) (ih (p + 1) _ (by omega) h))))
      rw [(rl_tX (by omega)).mp w] at z
      exact absurd z (by decide)
    · rw [if_neg z] at h
      refine br_t ((rl_tX (by omega)).mpr ?_) (nm_r (nI_1 p) (ih (p + 1) _ (by omega) h))
      cases w : bt R p
      · rfl
      · exact absurd w z
theorem lt_o {post : Int32 → Prop} {n : Nat} {c ws wl wt ln fi ma ki : Nat → Int32} (I : qu_I n c ws wl wt ln fi ma ki) {o : Nat} (ho : o < 5) (ll : Int32) : ∀ m st R, st + m = 5 → post (if bt (cs_it (cs_g (wf_v c ws wl wt) 5 0) m R) o = true then 1 else 0) → wX_leadsTo_5 post (nI o) ll c ws wl wt ln (m + 1) R (nI st) := by
  intro m
  induction m with
  | zero =>
    intro st R hs h
    refine br_t (nI_le (a := 5) (by omega) (by omega)) ?_
    have e : cs_it (cs_g (wf_v c ws wl wt) 5 0) 0 R = R := rfl
    rw [e] at h
    by_cases z : bt R o = true
    · rw [if_pos z] at h
      refine br_f (fun w => ?_) h
      rw [(rl_tX ho).mp w] at z
      exact absurd z (by decide)
    · rw [if_neg z] at h
      refine br_t ((rl_tX ho).mpr ?_) h
      cases w : bt R o
      · rfl
      · exact absurd w z
  | succ m ih =>
    intro st R hs h
    exact br_f (nI_ge (b := 5) (by omega) (by omega)) ⟨6, lt_i I _ _ st 5 0 R rfl (ih (st + 1) _ (by omega) h)⟩
theorem lt_v {post : Int32 → Prop} {n : Nat} {c ws wl wt ln fi ma ki : Nat → Int32} (I : qu_I n c ws wl wt ln fi ma ki) {o : Nat} (ho : o < 5) (ll B : Int32) (h : post (if bt (cs_it (cs_g (wf_v c ws wl wt) 5 0) 5 B) o = true then 1 else 0)) : wpX_leadsTo post (ll, c, ws, wl, wt, ln) B (nI o) :=
  ⟨6, lt_o I ho ll 5 0 B rfl h⟩
theorem cy_a7 : ∀ o, o < 5 → nI o &&& 7 = nI o := by decide +kernel
section
variable {q : Int32} {t wh fi ma ki ou : Nat → Int32} {E : Nat → Int32}
theorem cy_i {post : Int32 → SY → Prop} {J : Int32 → Int32 → Prop} (hE : ∀ p, p < 5 → ou p = E p) (x1 B : Int32) (st : Nat) : ∀ m p R, p + m = 5 → J (cs_j E B m p R) (nI (st + 1)) → wY_circles_148 post J x1 B (nI st) q t wh fi ma ki ou (m + 1) R (nI p) := by
  intro m
  induction m with
  | zero =>
    intro p R hp h
    exact br_t (nI_le (a := 5) (by omega) (by omega)) (nm_r (nI_1 st) h)
  | succ m ih =>
    intro p R hp h
    refine br_f (nI_ge (b := 5) (by omega) (by omega)) ?_
    have e : cs_j E B (m + 1) p R = cs_j E B m (p + 1) (if bt B p = true then R ||| E p else R) := rfl
    rw [e] at h
    by_cases z : bt B p = true
    · rw [if_pos z] at h
      exact br_t ((rl_tY (by omega)).mpr z) ⟨vp_in_nI (by omega) (by omega), nm_r (by rw [rl_cl5 (show p < 5 by omega), hE p (by omega)]) (nm_r (nI_1 p) (ih (p + 1) _ (by omega) h))⟩
    · rw [if_neg z] at h
      exact br_f (fun w => z ((rl_tY (by omega)).mp w)) (nm_r (nI_1 p) (ih (p + 1) _ (by omega) h))
theorem cy_o {post : Int32 → SY → Prop} (hE : ∀ p, p < 5 → ou p = E p) {o : Nat} (ho : o < 5) : ∀ m st R, st + m = 5 → post (if bt (cs_it (fun R => cs_j E R 5 0 R) m R) o = true then 1 else 0) (q, t, wh, fi, ma, ki, ou) → wY_circles_136 post (nI o) q t wh fi ma ki ou (m + 1) R (nI st) := by
  intro m
  induction m with
  | zero =>
    intro st R hs h
    refine br_t (nI_le (a := 5) (by omega) (by omega)) ?_
    have e : cs_it (fun R => cs_j E R 5 0 R) 0 R = R := rfl
    rw [e] at h
    by_cases z : bt R o = true
    · rw [if_pos z] at h
      exact br_t ((rl_tY ho).mpr z) h
    · rw [if_neg z] at h
      exact br_f (fun w => z ((rl_tY ho).mp w)) h
  | succ m ih =>
    intro st R hs h
    exact br_f (nI_ge (b := 5) (by omega) (by omega)) ⟨6, cy_i hE _ _ st 5 0 R rfl (ih (st + 1) _ (by omega) h)⟩
theorem cy_s {post : Int32 → SY → Prop} (hE : ∀ p, p < 5 → ou p = E p) {o : Nat} (B : Int32) {Q : Int32 → Prop} (hQ : ∀ R, Q R → ∃ k, wY_circles_136 post (nI o) q t wh fi ma ki ou k R 0) : ∀ m p R, p + m = 5 → Q (cs_j E B m p R) → wY_circles_101 post (nI o) B q t wh fi ma ki ou (m + 1) R (nI p) := by
  intro m
  induction m with
  | zero =>
    intro p R hp h
    exact br_t (nI_le (a := 5) (by omega) (by omega)) (hQ _ h)
  | succ m ih =>
    intro p R hp h
    refine br_f (nI_ge (b := 5) (by omega) (by omega)) ?_
    have e : cs_j E B (m + 1) p R = cs_j E B m (p + 1) (if bt B p = true then R ||| E p else R) := rfl
    rw [e] at h
    by_cases z : bt B p = true
    · rw [if_pos z] at h
      exact br_t ((rl_tY (by omega)).mpr z) ⟨vp_in_nI (by omega) (by omega), nm_r (by rw [rl_cl5 (show p < 5 by omega), hE p (by omega)]) (nm_r (nI_1 p) (ih (p + 1) _ (by omega) h))⟩
    · rw [if_neg z] at h
      exact br_f (fun w => z ((rl_tY (by omega)).mp w)) (nm_r (nI_1 p) (ih (p + 1) _ (by omega) h))
theorem cy_r {post : Int32 → SY → Prop} (hE : ∀ p, p < 5 → ou p = E p) {o : Nat} (ho : o < 5) (B : Int32) (h : post (if bt (cs_it (fun R => cs_j E R 5 0 R) 5 (cs_j E B 5 0 0)) o = true then 1 else 0) (q, t, wh, fi, ma, ki, ou)) : ∃ k, wY_circles_101 post (nI o) B q t wh fi ma ki ou k 0 0 :=
  ⟨6, cy_s hE B (Q := fun R => post (if bt (cs_it (fun R => cs_j E R 5 0 R) 5 R) o = true then 1 else 0) (q, t, wh, fi, ma, ki, ou)) (fun R hR => ⟨6, cy_o hE ho 5 0 R rfl hR⟩) 5 0 0 rfl h⟩
end
theorem cy_f {n : Nat} {c ws wl wt ln fi ma ki : Nat → Int32} (I : qu_I n c ws wl wt ln fi ma ki) (x1 x2 x3 : Int32) : ∀ m i ou, i + m = n → (∀ q, q < 5 → ((∃ k, k < i ∧ ln k = nI q) → ou q = wf_v c ws wl wt q) ∧ ((∀ k, k < i → ¬ ln k = nI q) → ou q = 0)) →
    ∃ ou' : Nat → Int32, (∀ q, q < 5 → ou' q = wf_v c ws wl wt q) ∧ ∀ post : Int32 → SY → Prop, (∃ k, wY_circles_101 post x1 x2 (nI n) c ln fi ma ki ou' k x3 0) → wY_circles_29 post x1 x2 x3 (nI n) (m + 1) (nI i) c ln fi ma ki ou := by
  have hn := I.1
  intro m
  induction m with
  | zero =>
    intro i ou hi hou
    have : i = n := by omega
    subst this
    refine ⟨ou, fun q hq => ?_, fun post h => br_t (nI_le (by omega) (by omega)) h⟩
    rcases I.2.2.2.2 q hq with z | z
    · rw [wf_0 z]
      exact (hou q hq).2 (fun k hk e => qu_on I hk hq e z)
    · exact (hou q hq).1 z
  | succ m ih =>
    intro i ou hi hou
    obtain ⟨o, E⟩ := I.2.2.1 i (by omega)
    have ho := E.1
    have ew := E.2.1
    obtain ⟨ou', h1, h2⟩ := ih (i + 1) (upd ou o (wf_v c ws wl wt o)) (by omega) (by
      intro q hq
      by_cases z : q = o
      · subst z
        rw [pk_us]
        exact ⟨fun _ => rfl, fun w => absurd ew (w i (by omega))⟩
      · rw [pk_un z]
        refine ⟨fun w => (hou q hq).1 ?_, fun w => (hou q hq).2 (fun k hk => w k (by omega))⟩
        obtain ⟨k, hk, ek⟩ := w
        by_cases y : k = i
        · subst y
          exact absurd (rl_inj (by omega) (by omega) (ek.symm.trans ew)) z
        · exact ⟨k, by omega, ek⟩)
    refine ⟨ou', h1, fun post h => ?_⟩
    have g3 : vp_in (nI i) 8 := vp_in_nI (by omega) (by omega)
    refine br_f (nI_ge (by omega) (by omega)) (br_f (nI_ge (b := 8) (by omega) (by omega)) ⟨g3, g3, g3, g3, g3, ?_⟩)
    rw [rl_cl8 (show i < 8 by omega)]
    refine wf_y E ?_
    rw [ew, cy_a7 o ho, rl_cl8 (show o < 8 by omega)]
    exact ⟨vp_in_nI (by omega) (by omega), nm_e (nm_r (nI_1 i) (h2 post h))⟩
theorem cy_z {q : Int32} {t wh fi ma ki : Nat → Int32} (x1 x2 x3 : Int32) : ∀ m i ou, i + m = 8 → (∀ k, k < i → ou k = 0) →
    ∃ ou' : Nat → Int32, (∀ k, k < 8 → ou' k = 0) ∧ ∀ post : Int32 → SY → Prop, (∃ k, wY_circles_29 post x1 x2 x3 q k 0 t wh fi ma ki ou') → wY_circles_5 post x1 x2 x3 q (m + 1) (nI i) t wh fi ma ki ou := by
  intro m
  induction m with
  | zero =>
    intro i ou hi hou
    exact ⟨ou, fun k hk => hou k (by omega), fun post h => br_t (nI_le (a := 8) (by omega) (by omega)) h⟩
  | succ m ih =>
    intro i ou hi hou
    obtain ⟨ou', h1, h2⟩ := ih (i + 1) (upd ou i 0) (by omega) (by
      intro k hk
      by_cases z : k = i
      · subst z; exact pk_us
      · rw [pk_un z]; exact hou k (by omega))
    exact ⟨ou', h1, fun post h => br_f (nI_ge (b := 8) (by omega) (by omega)) ⟨vp_in_nI (by omega) (by omega), nm_r (by rw [rl_cl8 (show i < 8 by omega)]) (nm_r (nI_1 i) (h2 post h))⟩⟩
/-- the reference's answer, whatever it leaves in its scratch -/
theorem cy_v {n : Nat} {c ws wl wt ln fi ma ki : Nat → Int32} (I : qu_I n c ws wl wt ln fi ma ki) (ou : Nat → Int32) {o : Nat} (ho : o < 5) (B : Int32) (hB : bt B o = false) :
    ∃ ou' : Nat → Int32, ∀ post : Int32 → SY → Prop, post (if bt (cs_it (cs_g (wf_v c ws wl wt) 5 0) 5 B) o = true then 1 else 0) (nI n, c, ln, fi, ma, ki, ou') → wpY_circles post (nI n, c, ln, fi, ma, ki, ou) (nI o) B := by
  obtain ⟨o1, a1, a2⟩ := cy_z (q := nI n) (t := c) (wh := ln) (fi := fi) (ma := ma) (ki := ki) (nI o) B 0 8 0 ou (by omega) (fun k hk => absurd hk (by omega))
  obtain ⟨o2, b1, b2⟩ := cy_f I (nI o) B 0 n 0 o1 (by omega) (fun q hq => ⟨fun ⟨k, hk, _⟩ => absurd hk (by omega), fun _ => a1 q (by omega)⟩)
  refine ⟨o2, fun post h => ⟨9, a2 post ⟨n + 1, b2 post (cy_r b1 ho B ?_)⟩⟩⟩
  have e := cs_same (wf_v c ws wl wt) B ho hB
  by_cases z : bt (cs_it (cs_g (wf_v c ws wl wt) 5 0) 5 B) o = true
  · rw [if_pos (e.mp z)]; rw [if_pos z] at h; exact h
  · rw [if_neg (fun w => z (e.mpr w))]; rw [if_neg z] at h; exact h
/-- from nobody one gets nowhere -/
theorem cy_0 (E : Nat → Int32) {o : Nat} (ho : o < 5) : ¬ bt (cs_it (cs_g E 5 0) 5 0) o = true := by
  intro h
  exact cs_it_m (cs_g_sw E) (S := fun _ => False) (fun p _ sp => sp.elim) 5 0 (fun q _ z => by rw [b_0] at z; exact absurd z (by decide)) o ho h
theorem ag_o (p0 : Int32) : ((∀ post : Int32 → Prop, post 0 → wpX_isOwner post p0) ∧ (∀ (post : Int32 → Prop) (v : SY), post 1 → wpY_bad post v p0)) ∨ ∃ o, o < 5 ∧ p0 = nI o ∧ (∀ post : Int32 → Prop, post 1 → wpX_isOwner post p0) ∧ (∀ (post : Int32 → Prop) (v : SY), post 0 → wpY_bad post v p0) := by
  rcases pk_ix p0 (n := 5) (by omega) with h | h | ⟨o, ho, rfl⟩
  · exact Or.inl ⟨fun post a => br_t h a, fun post v a => br_t h a⟩
  · have h0 : ¬ p0 < 0 := fun z => absurd (Int32.lt_of_le_of_lt h z) (by decide)
    have h4 : ¬ p0 ≤ 4 := fun z => absurd (Int32.le_trans h z) (by decide)
    exact Or.inl ⟨fun post a => br_f h0 (br_t h a), fun post v a => br_f h0 (br_f h4 a)⟩
  · exact Or.inr ⟨o, ho, rfl, fun post a => br_f (nI_pos (by omega)) (br_f (nI_ge (b := 5) ho (by omega)) a), fun post v a => br_f (nI_pos (by omega)) (br_t (nI_le (b := 4) (by omega) (by omega)) a)⟩
theorem ag_b (p0 : Int32) : ((∀ post : Int32 → Prop, post 0 → wpX_isByte post p0) ∧ (∀ (post : Int32 → Prop) (v : SY), post 1 → wpY_badByte post v p0)) ∨ ∃ o, o < 40 ∧ p0 = nI o ∧ (∀ post : Int32 → Prop, post 1 → wpX_isByte post p0) ∧ (∀ (post : Int32 → Prop) (v : SY), post 0 → wpY_badByte post v p0) := by
  rcases pk_ix p0 (n := 40) (by omega) with h | h | ⟨o, ho, rfl⟩
  · exact Or.inl ⟨fun post a => br_t h a, fun post v a => br_t h a⟩
  · have h0 : ¬ p0 < 0 := fun z => absurd (Int32.lt_of_le_of_lt h z) (by decide)
    have h4 : ¬ p0 ≤ 39 := fun z => absurd (Int32.le_trans h z) (by decide)
    exact Or.inl ⟨fun post a => br_f h0 (br_t h a), fun post v a => br_f h0 (br_f h4 a)⟩
  · exact Or.inr ⟨o, ho, rfl, fun post a => br_f (nI_pos (by omega)) (br_f (nI_ge (b := 40) ho (by omega)) a), fun post v a => br_f (nI_pos (by omega)) (br_t (nI_le (b := 39) (by omega) (by omega)) a)⟩
theorem ag_r (p0 p1 : Int32) : ((∀ post : Int32 → Prop, post 0 → wpX_isRange post p0 p1) ∧ (∀ (post : Int32 → Prop) (v : SY), post 1 → wpY_badRange post v p0 p1)) ∨ ∃ s l, s + l ≤ 40 ∧ p0 = nI s ∧ p1 = nI l ∧ (∀ post : Int32 → Prop, post 1 → wpX_isRange post p0 p1) ∧ (∀ (post : Int32 → Prop) (v : SY), post 0 → wpY_badRange post v p0 p1) := by
  by_cases h1 : p1 < 1
  · exact Or.inl ⟨fun post a => br_t h1 a, fun post v a => br_t h1 a⟩
  · by_cases h2 : 40 < p1
    · exact Or.inl ⟨fun post a => br_f h1 (br_t h2 a), fun post v a => br_f h1 (br_t h2 a)⟩
    · by_cases h3 : p0 < 0
      · exact Or.inl ⟨fun post a => br_f h1 (br_f h2 (br_t h3 a)), fun post v a => br_f h1 (br_f h2 (br_t h3 a))⟩
      · by_cases h4 : 40 - p1 < p0
        · have h5 : ¬ p0 ≤ 40 - p1 := fun z => Int32.lt_irrefl (Int32.lt_of_lt_of_le h4 z)
          exact Or.inl ⟨fun post a => br_f h1 (br_f h2 (br_f h3 (br_t h4 a))), fun post v a => br_f h1 (br_f h2 (br_f h3 (br_f h5 a)))⟩
        · have h5 : p0 ≤ 40 - p1 := Int32.not_lt.mp h4
          have h10 : ¬ p1 < 0 := fun z => h1 (Int32.lt_trans z (by decide))
          refine Or.inr ?_
          obtain ⟨s, hs, e1⟩ := nI_of h3
          obtain ⟨l, hl, e2⟩ := nI_of h10
          have hl40 : l ≤ 40 := by
            rw [e2, rl_40, nI_ltI (by omega) hl] at h2
            omega
          refine ⟨s, l, ?_, e1, e2, fun post a => br_f h1 (br_f h2 (br_f h3 (br_f h4 a))), fun post v a => br_f h1 (br_f h2 (br_f h3 (br_t h5 a)))⟩
          rw [e1, e2, rl_40, pk_sub hl40, nI_leI hs (by omega)] at h5
          omega
theorem ag_q (p0 p1 p2 p3 p4 : Int32) :
    ((∀ post : Int32 → Prop, post (-1) → wpX_requestFault post p0 p1 p2 p3 p4) ∧ (∀ (post : Int32 → Prop) (v : SY), post 1 → wpY_bad post v p0)) ∨
    ∃ o, o < 5 ∧ p0 = nI o ∧ (∀ (post : Int32 → Prop) (v : SY), post 0 → wpY_bad post v p0) ∧
      (((∀ post : Int32 → Prop, post (-2) → wpX_requestFault post p0 p1 p2 p3 p4) ∧ (∀ (post : Int32 → Prop) (v : SY), post 1 → wpY_badRange post v p1 p2)) ∨
      ∃ s l, s + l ≤ 40 ∧ p1 = nI s ∧ p2 = nI l ∧ (∀ (post : Int32 → Prop) (v : SY), post 0 → wpY_badRange post v p1 p2) ∧
        (((p3 < p4 ∨ ¬ p3 ≤ 2) ∧ ∀ post : Int32 → Prop, post (-3) → wpX_requestFault post p0 p1 p2 p3 p4) ∨
        (¬ p3 < p4 ∧ p3 ≤ 2 ∧ ∀ post : Int32 → Prop, post 0 → wpX_requestFault post p0 p1 p2 p3 p4))) := by
  rcases ag_o p0 with ⟨hX, hY⟩ | ⟨o, ho, e, hX, hY⟩
  · exact Or.inl ⟨fun post a => hX _ (br_t rfl a), hY⟩
  · refine Or.inr ⟨o, ho, e, hY, ?_⟩
    rcases ag_r p1 p2 with ⟨rX, rY⟩ | ⟨s, l, hsl, e1, e2, rX, rY⟩
    · exact Or.inl ⟨fun post a => hX _ (br_f (by decide) (rX _ (br_t rfl a))), rY⟩
    · refine Or.inr ⟨s, l, hsl, e1, e2, rY, ?_⟩
      by_cases h1 : p3 < p4
      · exact Or.inl ⟨Or.inl h1, fun post a => hX _ (br_f (by decide) (rX _ (br_f (by decide) (br_t h1 a))))⟩
      · by_cases h2 : p3 ≤ 2
        · exact Or.inr ⟨h1, h2, fun post a => hX _ (br_f (by decide) (rX _ (br_f (by decide) (br_f h1 (br_t h2 a)))))⟩
        · exact Or.inl ⟨Or.inr h2, fun post a => hX _ (br_f (by decide) (rX _ (br_f (by decide) (br_f h1 (br_f h2 a)))))⟩
