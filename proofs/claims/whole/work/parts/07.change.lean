/-! lock, await, cancel, close -/
theorem ag_t0 {x : Int32} (h : ¬ x < 0) (h2 : x ≤ 2) : rl_V x := by
  obtain ⟨j, hj, rfl⟩ := nI_of2 (n := 2) (M := 2) (by decide) h h2
  have : j = 0 ∨ j = 1 ∨ j = 2 := by omega
  rcases this with rfl | rfl | rfl
  · exact Or.inl rfl
  · exact Or.inr (Or.inl rfl)
  · exact Or.inr (Or.inr rfl)
theorem ag_t1 {x : Int32} (h : ¬ x < 1) (h2 : x ≤ 2) : x = 1 ∨ x = 2 := by
  rcases ag_t0 (fun z => h (Int32.lt_trans z (by decide))) h2 with rfl | z | z
  · exact absurd (by decide) h
  · exact Or.inl z
  · exact Or.inr z
theorem ag_tn {x : Int32} (h : x < 1 ∨ ¬ x ≤ 2) : ¬ x = 1 ∧ ¬ x = 2 := by
  constructor <;> intro e <;> subst e <;> rcases h with z | z <;> revert z <;> decide
theorem rl_mk {k n : Nat} {c ws wl wt ln fi ma ki : Nat → Int32} (J : qu_I n c ws wl wt ln fi ma ki) (ou : Nat → Int32) : i_Rel k (nI n, c, ws, wl, wt, ln) (nI n, c, ln, fi, ma, ki, ou) := ⟨n, c, ws, wl, wt, ln, fi, ma, ki, ou, rfl, rfl, J⟩
section
variable {ll : Int32} {c ws wl wt ln : Nat → Int32} {o : Nat}
theorem iw_0 {post : Int32 → Prop} (ho : o < 5) (h : wt o = 0) (a : post 0) : wpX_isWaiting post (ll, c, ws, wl, wt, ln) (nI o) := ⟨vp_in_nI ho (by omega), br_t (by rw [rl_cl5 ho]; exact h) a⟩
theorem iw_1 {post : Int32 → Prop} (ho : o < 5) (h : ¬ wt o = 0) (a : post 1) : wpX_isWaiting post (ll, c, ws, wl, wt, ln) (nI o) := ⟨vp_in_nI ho (by omega), br_f (by rw [rl_cl5 ho]; exact h) a⟩
theorem ar_f {post : Int32 → Prop} {r p0 p1 p2 p3 : Int32} (hr : ¬ r = 0) (hq : ∀ post : Int32 → Prop, post r → wpX_requestFault post p0 p1 p2 p3 1) (h : post r) : wpX_awaitRefusal post (ll, c, ws, wl, wt, ln) p0 p1 p2 p3 := by unfold wpX_awaitRefusal; exact hq _ (br_f hr h)
theorem ar_w {post : Int32 → Prop} {p1 p2 p3 : Int32} (ho : o < 5) (hw : ¬ wt o = 0) (hq : ∀ post : Int32 → Prop, post 0 → wpX_requestFault post (nI o) p1 p2 p3 1) (h : post (-4)) : wpX_awaitRefusal post (ll, c, ws, wl, wt, ln) (nI o) p1 p2 p3 := by unfold wpX_awaitRefusal; exact hq _ (br_t rfl (iw_1 ho hw (br_f (by decide) h)))
end
/-- waiting would close a circle -/
def ar_C (c ws wl wt : Nat → Int32) (ty : Int32) (o s l : Nat) : Prop := bt (cs_it (cs_g (wf_v c ws wl wt) 5 0) 5 (op_v c ty o s l)) o = true
theorem ar_v {post : Int32 → Prop} {n : Nat} {c ws wl wt ln fi ma ki : Nat → Int32} (J : qu_I n c ws wl wt ln fi ma ki) {ty : Int32} {o s l : Nat} (ho : o < 5) (hsl : s + l ≤ 40) (ht : ty = 1 ∨ ty = 2) (hw : wt o = 0) (hq : ∀ post : Int32 → Prop, post 0 → wpX_requestFault post (nI o) (nI s) (nI l) ty 1) (h1 : ar_C c ws wl wt ty o s l → post (-5)) (h0 : ¬ ar_C c ws wl wt ty o s l → post 0) : wpX_awaitRefusal post (nI n, c, ws, wl, wt, ln) (nI o) (nI s) (nI l) ty := by
  unfold wpX_awaitRefusal
  refine hq _ (br_t rfl (iw_0 ho hw (br_t rfl (ox_v ho hsl (rl_V12 ht) J.2.1 (lt_v J ho _ _ ?_)))))
  by_cases z : ar_C c ws wl wt ty o s l
  · rw [if_pos (show bt (cs_it (cs_g (wf_v c ws wl wt) 5 0) 5 (op_v c ty o s l)) o = true from z)]; exact br_f (by decide) (h1 z)
  · rw [if_neg (show ¬ bt (cs_it (cs_g (wf_v c ws wl wt) 5 0) 5 (op_v c ty o s l)) o = true from z)]; exact br_t rfl (h0 z)
theorem i_vc_lock {k : Nat} {u : SX} {v : SY} (I : i_Rel k u v) (hk : k + 5 ≤ 2560) (v1 : Int32) (v2 : Int32) (v3 : Int32) (v4 : Int32) : wpX_lock (fun r u' => wpY_lock (fun r' v' => r' = r ∧ i_Rel (k + 5) u' v') v v1 v2 v3 v4) u v1 v2 v3 v4 := by
  obtain ⟨n, c, ws, wl, wt, ln, fi, ma, ki, ou, rfl, rfl, J⟩ := I
  unfold wpX_lock wpY_lock
  dsimp only
  rcases ag_q v1 v2 v3 v4 0 with ⟨hX, hY⟩ | ⟨o, ho, rfl, hY, hr⟩
  · exact hX _ (br_f (by decide) (hY _ _ (br_f (by decide) ⟨rfl, rl_mk J ou⟩)))
  rcases hr with ⟨hX, rY⟩ | ⟨s, l, hsl, rfl, rfl, rY, ht⟩
  · exact hX _ (br_f (by decide) (hY _ _ (br_t rfl (rY _ _ (br_f (by decide) ⟨rfl, rl_mk J ou⟩)))))
  rcases ht with ⟨ht, hX⟩ | ⟨t1, t2, hX⟩
  · refine hX _ (br_f (by decide) (hY _ _ (br_t rfl (rY _ _ (br_t rfl ?_)))))
    by_cases z : v4 < 0
    · exact br_t z ⟨rfl, rl_mk J ou⟩
    · exact br_f z (br_f (ht.elim (fun w => absurd w z) id) ⟨rfl, rl_mk J ou⟩)
  have hV := ag_t0 t1 t2
  rcases pl_v J ou ho with ⟨j, hj, ej, _, hw, hP⟩ | ⟨_, hw, hP⟩
  · refine hX _ (br_t rfl (iw_1 ho hw (br_f (by decide) ?_)))
    exact hY _ _ (br_t rfl (rY _ _ (br_t rfl (br_f t1 (br_t t2 (hP _ (br_f (nI_pos (by have := J.1; omega)) ⟨rfl, rl_mk J ou⟩)))))))
  · by_cases z : op_v c v4 o s l = 0
    · obtain ⟨r, n', c', wt', ln', fi', ma', ki', J', kX, kY⟩ := st_v (qu_put J (pt_V hV l (o * 40 + s) c J.2.1)) ou
      refine hX _ (br_t rfl (iw_0 ho hw (br_t rfl (ox_v ho hsl hV J.2.1 (br_t z (px_v ho hsl (kX _ ?_)))))))
      exact hY _ _ (br_t rfl (rY _ _ (br_t rfl (br_f t1 (br_t t2 (hP _ (br_t (by decide) (oy_v ho hsl (br_t z (py_v ho hsl (kY _ ⟨rfl, rl_mk J' ou⟩)))))))))))
    · refine hX _ (br_t rfl (iw_0 ho hw (br_t rfl (ox_v ho hsl hV J.2.1 (br_f z ?_)))))
      exact hY _ _ (br_t rfl (rY _ _ (br_t rfl (br_f t1 (br_t t2 (hP _ (br_t (by decide) (oy_v ho hsl (br_f z ⟨rfl, rl_mk J ou⟩)))))))))
theorem aw_t {A B : Prop} {ty : Int32} (ht : ty = 1 ∨ ty = 2) (h : A) : (ty = 1 → A) ∧ (¬ ty = 1 → ((ty = 2 → A) ∧ (¬ ty = 2 → B))) := by
  rcases ht with e | e
  · exact br_t e h
  · by_cases e1 : ty = 1
    · exact br_t e1 h
    · exact br_f e1 (br_t e h)
theorem i_vc_await {k : Nat} {u : SX} {v : SY} (I : i_Rel k u v) (hk : k + 5 ≤ 2560) (v1 : Int32) (v2 : Int32) (v3 : Int32) (v4 : Int32) : wpX_await (fun r u' => wpY_await (fun r' v' => r' = r ∧ i_Rel (k + 5) u' v') v v1 v2 v3 v4) u v1 v2 v3 v4 := by
  obtain ⟨n, c, ws, wl, wt, ln, fi, ma, ki, ou, rfl, rfl, J⟩ := I
  unfold wpX_await wpY_await
  dsimp only
  rcases ag_q v1 v2 v3 v4 1 with ⟨hX, hY⟩ | ⟨o, ho, rfl, hY, hr⟩
  · exact ar_f (by decide) hX (br_f (by decide) (hY _ _ (br_f (by decide) ⟨rfl, rl_mk J ou⟩)))
  rcases hr with ⟨hX, rY⟩ | ⟨s, l, hsl, rfl, rfl, rY, ht⟩
  · exact ar_f (by decide) hX (br_f (by decide) (hY _ _ (br_t rfl (rY _ _ (br_f (by decide) ⟨rfl, rl_mk J ou⟩)))))
  rcases ht with ⟨ht, hX⟩ | ⟨t1, t2, hX⟩
  · obtain ⟨n1, n2⟩ := ag_tn ht
    exact ar_f (by decide) hX (br_f (by decide) (hY _ _ (br_t rfl (rY _ _ (br_t rfl (br_f n1 (br_f n2 ⟨rfl, rl_mk J ou⟩)))))))
  have ht := ag_t1 t1 t2
  have hV := rl_V12 ht
  rcases pl_v J ou ho with ⟨j, hj, ej, _, hw, hP⟩ | ⟨_, hw, hP⟩
  · refine ar_w ho hw hX (br_f (by decide) (hY _ _ (br_t rfl (rY _ _ (br_t rfl (aw_t ht ?_))))))
    exact hP _ (br_f (nI_pos (by have := J.1; omega)) ⟨rfl, rl_mk J ou⟩)
  · by_cases z : op_v c v4 o s l = 0
    · have hC : ¬ ar_C c ws wl wt v4 o s l := by unfold ar_C; rw [z]; exact cy_0 _ ho
      obtain ⟨r, n', c', wt', ln', fi', ma', ki', J', kX, kY⟩ := st_v (qu_put J (pt_V hV l (o * 40 + s) c J.2.1)) ou
      refine ar_v J ho hsl ht hw hX (fun w => absurd w hC) (fun _ => br_t rfl (ox_v ho hsl hV J.2.1 (br_t z (px_v ho hsl (kX _ ?_)))))
      refine hY _ _ (br_t rfl (rY _ _ (br_t rfl (aw_t ht ?_))))
      exact hP _ (br_t (by decide) (oy_v ho hsl (br_t z (py_v ho hsl (kY _ ⟨rfl, rl_mk J' ou⟩)))))
    · obtain ⟨ou', hcy⟩ := cy_v J ou ho (op_v c v4 o s l) (op_vb c v4 s l ho)
      refine ar_v J ho hsl ht hw hX (fun w => ?_) (fun w => br_t rfl (ox_v ho hsl hV J.2.1 (br_f z ?_)))
      · refine br_f (by decide) (hY _ _ (br_t rfl (rY _ _ (br_t rfl (aw_t ht ?_)))))
        refine hP _ (br_t (by decide) (oy_v ho hsl (br_f z (hcy _ ?_))))
        rw [if_pos (show bt (cs_it (cs_g (wf_v c ws wl wt) 5 0) 5 (op_v c v4 o s l)) o = true from w)]
        exact br_f (by decide) ⟨rfl, rl_mk J ou'⟩
      · have hn := qu_room J ho hw
        have a5 : vp_in (nI n) 5 := vp_in_nI hn (by omega)
        have a8 : vp_in (nI n) 8 := vp_in_nI (by omega) (by omega)
        have b5 : vp_in (nI o) 5 := vp_in_nI ho (by omega)
        have J' := qu_add J ho hw hsl ht
        refine br_f (nI_ge (b := 5) hn (by omega)) ⟨a5, ?_⟩
        rw [rl_cl5 hn, rl_cl5 ho]
        refine nm_e (nm_r (nI_1 n) ⟨b5, nm_e ⟨b5, nm_e ⟨b5, nm_e ?_⟩⟩⟩)
        refine hY _ _ (br_t rfl (rY _ _ (br_t rfl (aw_t ht ?_))))
        refine hP _ (br_t (by decide) (oy_v ho hsl (br_f z (hcy _ ?_))))
        rw [if_neg (show ¬ bt (cs_it (cs_g (wf_v c ws wl wt) 5 0) 5 (op_v c v4 o s l)) o = true from w)]
        refine br_t rfl (br_f (nI_ge (b := 8) (by omega) (by omega)) ⟨a8, ?_⟩)
        rw [rl_cl5 hn]
        exact nm_e ⟨a8, nm_e ⟨a8, nm_e ⟨a8, nm_e (nm_r (nI_1 n) ⟨rfl, rl_mk J' ou'⟩)⟩⟩⟩
theorem i_vc_cancel {k : Nat} {u : SX} {v : SY} (I : i_Rel k u v) (hk : k + 5 ≤ 2560) (v1 : Int32) : wpX_cancel (fun r u' => wpY_cancel (fun r' v' => r' = r ∧ i_Rel (k + 5) u' v') v v1) u v1 := by
  obtain ⟨n, c, ws, wl, wt, ln, fi, ma, ki, ou, rfl, rfl, J⟩ := I
  unfold wpX_cancel wpY_cancel
  dsimp only
  rcases ag_o v1 with ⟨hX, hY⟩ | ⟨o, ho, rfl, hX, hY⟩
  · exact hX _ (br_t rfl (hY _ _ (br_f (by decide) ⟨rfl, rl_mk J ou⟩)))
  rcases pl_v J ou ho with ⟨j, hj, ej, _, hw, hP⟩ | ⟨_, hw, hP⟩
  · obtain ⟨m, rfl⟩ : ∃ m, n = m + 1 := ⟨n - 1, by omega⟩
    have hm : m < 5 := by have := J.1; omega
    refine hX _ (br_f (by decide) (iw_1 ho hw (br_f (by decide) (sx_in J hj ho ej _ ?_))))
    exact hY _ _ (br_t rfl (hP _ (br_t (nI_pos' (by omega)) (sy_v hm hj ⟨rfl, rl_mk (qu_rem J hj ho ej) ou⟩))))
  · exact hX _ (br_f (by decide) (iw_0 ho hw (br_t rfl (hY _ _ (br_t rfl (hP _ (br_f (by decide) ⟨rfl, rl_mk J ou⟩)))))))
def cz_f (c : Nat → Int32) (o : Nat) (ty : Int32) : Nat → Nat → Nat
  | 0, _ => 0
  | m + 1, a => (if c (o * 40 + a) = ty then 1 else 0) + cz_f c o ty m (a + 1)
theorem cz_le (c : Nat → Int32) (o : Nat) (ty : Int32) : ∀ m a, cz_f c o ty m a ≤ m := by
  intro m
  induction m with
  | zero => intro a; exact Nat.le_refl _
  | succ m ih =>
    intro a
    have := ih (a + 1)
    show _ + _ ≤ _
    by_cases z : c (o * 40 + a) = ty
    · rw [if_pos z]; omega
    · rw [if_neg z]; omega
theorem cz_x {post : Int32 → Prop} {ll ty : Int32} {c ws wl wt ln : Nat → Int32} {o : Nat} (ho : o < 5) : ∀ m a z, a + m = 40 → post (nI (z + cz_f c o ty m a)) → wX_bytesWith_5 post (nI o) ty ll c ws wl wt ln (m + 1) (nI z) (nI a) := by
  intro m
  induction m with
  | zero => intro a z ha h; exact br_t (nI_le (a := 40) (by omega) (by omega)) h
  | succ m ih =>
    intro a z ha h
    refine br_f (nI_ge (b := 40) (by omega) (by omega)) ⟨rl_in1 ho (by omega), ?_⟩
    rw [rl_c1 ho (by omega)]
    have e : cz_f c o ty (m + 1) a = (if c (o * 40 + a) = ty then 1 else 0) + cz_f c o ty m (a + 1) := rfl
    rw [e] at h
    by_cases w : c (o * 40 + a) = ty
    · rw [if_pos w, ← Nat.add_assoc] at h
      exact br_t w (nm_r (nI_1 z) (nm_r (nI_1 a) (ih (a + 1) (z + 1) (by omega) h)))
    · rw [if_neg w, Nat.zero_add] at h
      exact br_f w (nm_r (nI_1 a) (ih (a + 1) z (by omega) h))
theorem cz_y {post : Int32 → SY → Prop} {q : Int32} {t wh fi ma ki ou : Nat → Int32} {o : Nat} (ho : o < 5) : ∀ m a z, a + m = 40 → wY_close_14 post (nI o) q t wh fi ma ki ou 1 (nI (z + (m - cz_f t o 0 m a))) (nI 40) → wY_close_14 post (nI o) q t wh fi ma ki ou (m + 1) (nI z) (nI a) := by
  intro m
  induction m with
  | zero =>
    intro a z ha h
    have : a = 40 := by omega
    subst this
    exact h
  | succ m ih =>
    intro a z ha h
    refine br_f (nI_ge (b := 40) (by omega) (by omega)) ⟨rl_in2 ho (by omega), ?_⟩
    rw [rl_c2 ho (by omega)]
    have e : cz_f t o 0 (m + 1) a = (if t (o * 40 + a) = 0 then 1 else 0) + cz_f t o 0 m (a + 1) := rfl
    have hle := cz_le t o 0 m (a + 1)
    rw [e] at h
    by_cases w : t (o * 40 + a) = 0
    · rw [if_pos w, show m + 1 - (1 + cz_f t o 0 m (a + 1)) = m - cz_f t o 0 m (a + 1) from by omega] at h
      exact br_t w (nm_r (nI_1 a) (ih (a + 1) z (by omega) h))
    · rw [if_neg w, show z + (m + 1 - (0 + cz_f t o 0 m (a + 1))) = z + 1 + (m - cz_f t o 0 m (a + 1)) from by omega] at h
      exact br_f w (nm_r (nI_1 z) (nm_r (nI_1 a) (ih (a + 1) (z + 1) (by omega) h)))
theorem i_vc_close {k : Nat} {u : SX} {v : SY} (I : i_Rel k u v) (hk : k + 5 ≤ 2560) (v1 : Int32) : wpX_close (fun r u' => wpY_close (fun r' v' => r' = r ∧ i_Rel (k + 5) u' v') v v1) u v1 := by
  obtain ⟨n, c, ws, wl, wt, ln, fi, ma, ki, ou, rfl, rfl, J⟩ := I
  unfold wpX_close wpY_close
  dsimp only
  rcases ag_o v1 with ⟨hX, hY⟩ | ⟨o, ho, rfl, hX, hY⟩
  · exact hX _ (br_t rfl (hY _ _ (br_f (by decide) ⟨rfl, rl_mk J ou⟩)))
  have hle := cz_le c o 0 40 0
  have e : 40 - nI (0 + cz_f c o 0 40 0) = nI (0 + (40 - cz_f c o 0 40 0)) := by
    rw [rl_40, pk_sub (by omega), Nat.zero_add, Nat.zero_add]
  have Jp := qu_put J (pt_V (Or.inl rfl) 40 (o * 40 + 0) c J.2.1)
  rcases pl_v J ou ho with ⟨j, hj, ej, _, hw, hP⟩ | ⟨_, hw, hP⟩
  · obtain ⟨m, rfl⟩ : ∃ m, n = m + 1 := ⟨n - 1, by omega⟩
    have hm : m < 5 := by have := J.1; omega
    obtain ⟨r, n', c', wt', ln', fi', ma', ki', J', kX, kY⟩ := st_v (qu_rem Jp hj ho ej) ou
    refine hX _ (br_f (by decide) ⟨41, cz_x ho 40 0 0 (by omega) (nm_r e (px_v (s := 0) (l := 40) ho (by omega) (sx_in J hj ho ej _ (kX _ ?_))))⟩)
    refine hY _ _ (br_t rfl ⟨41, cz_y ho 40 0 0 (by omega) (br_t (nI_le (a := 40) (by omega) (by omega)) (hP _ (br_f (nI_pos (by omega)) (sy_v hm hj ?_))))⟩)
    exact py_v (s := 0) (l := 40) ho (by omega) (kY _ ⟨rfl, rl_mk J' ou⟩)
  · obtain ⟨r, n', c', wt', ln', fi', ma', ki', J', kX, kY⟩ := st_v Jp ou
    refine hX _ (br_f (by decide) ⟨41, cz_x ho 40 0 0 (by omega) (nm_r e (px_v (s := 0) (l := 40) ho (by omega) (sx_no J ho hw _ (kX _ ?_))))⟩)
    refine hY _ _ (br_t rfl ⟨41, cz_y ho 40 0 0 (by omega) (br_t (nI_le (a := 40) (by omega) (by omega)) (hP _ (br_t (by decide) ?_)))⟩)
    exact py_v (s := 0) (l := 40) ho (by omega) (kY _ ⟨rfl, rl_mk J' ou⟩)
