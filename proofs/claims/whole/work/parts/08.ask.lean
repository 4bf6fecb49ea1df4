/-! the questions -/
section
variable {ll q : Int32} {c ws wl wt ln wh fi ma ki ou : Nat → Int32}
theorem hs_l {a : Nat} (ha : a < 40) : ∀ m p f, p + m = 5 → ∃ r : Int32, (∀ post : Int32 → Prop, post r → wX_holderSet_4 post (nI a) ll c ws wl wt ln (m + 1) f (nI p)) ∧ (∀ post : Int32 → Prop, post r → wY_holders_14 post (nI a) q c wh fi ma ki ou (m + 1) f (nI p)) := by
  intro m
  induction m with
  | zero =>
    intro p f hp
    have h5 : (5 : Int32) ≤ nI p := nI_le (a := 5) (by omega) (by omega)
    exact ⟨f, fun post h => br_t h5 h, fun post h => br_t h5 h⟩
  | succ m ih =>
    intro p f hp
    have h5 : ¬ (5 : Int32) ≤ nI p := nI_ge (b := 5) (by omega) (by omega)
    have hp5 : p < 5 := by omega
    by_cases z : c (p * 40 + a) = 0
    · obtain ⟨r, hX, hY⟩ := ih (p + 1) f (by omega)
      exact ⟨r, fun post h => br_f h5 ⟨rl_in1 hp5 ha, br_t (by rw [rl_c1 hp5 ha]; exact z) (nm_r (nI_1 p) (hX post h))⟩, fun post h => br_f h5 ⟨rl_in2 hp5 ha, br_t (by rw [rl_c2 hp5 ha]; exact z) (nm_r (nI_1 p) (hY post h))⟩⟩
    · obtain ⟨r, hX, hY⟩ := ih (p + 1) _ (by omega)
      exact ⟨r, fun post h => br_f h5 ⟨rl_in1 hp5 ha, br_f (by rw [rl_c1 hp5 ha]; exact z) (nm_e (nm_r (nI_1 p) (hX post h)))⟩, fun post h => br_f h5 ⟨rl_in2 hp5 ha, br_f (by rw [rl_c2 hp5 ha]; exact z) (nm_e (nm_r (nI_1 p) (hY post h)))⟩⟩
theorem hs_v {a : Nat} (ha : a < 40) : ∃ r : Int32, (∀ post : Int32 → Prop, post r → wpX_holderSet post (ll, c, ws, wl, wt, ln) (nI a)) ∧ (∀ post : Int32 → Prop, post r → wpY_holders post (q, c, wh, fi, ma, ki, ou) (nI a)) := by
  obtain ⟨r, hX, hY⟩ := hs_l (ll := ll) (q := q) (c := c) (ws := ws) (wl := wl) (wt := wt) (ln := ln) (wh := wh) (fi := fi) (ma := ma) (ki := ki) (ou := ou) ha 5 0 0 (by omega)
  refine ⟨r, fun post h => ⟨6, hX post h⟩, fun post h => ?_⟩
  unfold wpY_holders
  exact br_f (nI_pos (by omega)) (br_t (nI_le (b := 39) (by omega) (by omega)) (br_t rfl ⟨6, hY post h⟩))
theorem fr_l : ∀ m a z, a + m = 40 → ∃ r : Int32, (∀ post : Int32 → Prop, post r → wX_free_4 post ll c ws wl wt ln (m + 1) z (nI a)) ∧ (∀ post : Int32 → Prop, post r → wY_free_4 post q c wh fi ma ki ou (m + 1) z (nI a)) := by
  intro m
  induction m with
  | zero =>
    intro a z ha
    have h : (40 : Int32) ≤ nI a := nI_le (a := 40) (by omega) (by omega)
    exact ⟨z, fun post x => br_t h x, fun post x => br_t h x⟩
  | succ m ih =>
    intro a z ha
    have h : ¬ (40 : Int32) ≤ nI a := nI_ge (b := 40) (by omega) (by omega)
    obtain ⟨s, sX, sY⟩ := hs_v (ll := ll) (q := q) (c := c) (ws := ws) (wl := wl) (wt := wt) (ln := ln) (wh := wh) (fi := fi) (ma := ma) (ki := ki) (ou := ou) (show a < 40 by omega)
    by_cases w : s = 0
    · obtain ⟨r, hX, hY⟩ := ih (a + 1) (z + 1) (by omega)
      exact ⟨r, fun post x => br_f h (sX _ (br_t w (nm_e (nm_r (nI_1 a) (hX post x))))), fun post x => br_f h (sY _ (br_t w (nm_e (nm_r (nI_1 a) (hY post x)))))⟩
    · obtain ⟨r, hX, hY⟩ := ih (a + 1) z (by omega)
      exact ⟨r, fun post x => br_f h (sX _ (br_f w (nm_r (nI_1 a) (hX post x)))), fun post x => br_f h (sY _ (br_f w (nm_r (nI_1 a) (hY post x))))⟩
theorem bg_v {o a : Nat} (ho : o < 5) (ha : a < 40) : ∃ r : Int32, (∀ post : Int32 → Prop, post r → wpX_beginsPiece post (ll, c, ws, wl, wt, ln) (nI o) (nI a)) ∧ (∀ post : Int32 → Prop, post r → wpY_begins post (q, c, wh, fi, ma, ki, ou) (nI o) (nI a)) := by
  have x1 := rl_in1 ho ha
  have x2 := rl_in2 ho ha
  have y1 := rl_c1 ho ha
  have y2 := rl_c2 ho ha
  by_cases z : c (o * 40 + a) = 0
  · exact ⟨0, fun post h => ⟨x1, nm_r (by rw [y1]) (br_t z h)⟩, fun post h => ⟨x2, br_t (by rw [y2]; exact z) h⟩⟩
  · by_cases w : a = 0
    · subst w
      exact ⟨1, fun post h => ⟨x1, nm_r (by rw [y1]) (br_f z (br_t rfl h))⟩, fun post h => ⟨x2, br_f (by rw [y2]; exact z) (br_t rfl h)⟩⟩
    · obtain ⟨b, rfl⟩ : ∃ b, a = b + 1 := ⟨a - 1, by omega⟩
      have n0 : ¬ nI (b + 1) = 0 := nI_ne0 (by omega) (by omega)
      have e1 : nI o * 40 + nI (b + 1) - 1 = nI (o * 40 + b) := by rw [rl_ix1]; exact nI_pred (o * 40 + b)
      have e2 : 40 * nI o + nI (b + 1) - 1 = nI (o * 40 + b) := by rw [rl_ix2]; exact nI_pred (o * 40 + b)
      have ee : (nI (o * 40 + b)).toNatClampNeg = o * 40 + b := nI_clamp (by omega)
      have v : vp_in (nI (o * 40 + b)) 200 := vp_in_nI (by omega) (by omega)
      by_cases y : c (o * 40 + b) = c (o * 40 + (b + 1))
      · refine ⟨0, fun post h => ⟨x1, nm_r (by rw [y1]) (br_f z (br_f n0 ?_))⟩, fun post h => ⟨x2, br_f (by rw [y2]; exact z) (br_f n0 ?_)⟩⟩
        · rw [e1, ee]; exact ⟨v, br_t y h⟩
        · rw [e2, ee, y2]; exact ⟨v, x2, br_t y h⟩
      · refine ⟨1, fun post h => ⟨x1, nm_r (by rw [y1]) (br_f z (br_f n0 ?_))⟩, fun post h => ⟨x2, br_f (by rw [y2]; exact z) (br_f n0 ?_)⟩⟩
        · rw [e1, ee]; exact ⟨v, br_f y h⟩
        · rw [e2, ee, y2]; exact ⟨v, x2, br_f y h⟩
theorem pc_l {o : Nat} (ho : o < 5) : ∀ m a z, a + m = 40 → ∃ r : Int32, (∀ post : Int32 → Prop, post r → wX_pieces_13 post (nI o) ll c ws wl wt ln (m + 1) z (nI a)) ∧ (∀ post : Int32 → Prop, post r → wY_pieces_14 post (nI o) q c wh fi ma ki ou (m + 1) z (nI a)) := by
  intro m
  induction m with
  | zero =>
    intro a z ha
    have h : (40 : Int32) ≤ nI a := nI_le (a := 40) (by omega) (by omega)
    exact ⟨z, fun post x => br_t h x, fun post x => br_t h x⟩
  | succ m ih =>
    intro a z ha
    have h : ¬ (40 : Int32) ≤ nI a := nI_ge (b := 40) (by omega) (by omega)
    obtain ⟨s, sX, sY⟩ := bg_v (ll := ll) (q := q) (c := c) (ws := ws) (wl := wl) (wt := wt) (ln := ln) (wh := wh) (fi := fi) (ma := ma) (ki := ki) (ou := ou) ho (show a < 40 by omega)
    by_cases w : s = 0
    · obtain ⟨r, hX, hY⟩ := ih (a + 1) z (by omega)
      exact ⟨r, fun post x => br_f h (sX _ (br_t w (nm_r (nI_1 a) (hX post x)))), fun post x => br_f h (sY _ (br_t w (nm_r (nI_1 a) (hY post x))))⟩
    · obtain ⟨r, hX, hY⟩ := ih (a + 1) (z + 1) (by omega)
      exact ⟨r, fun post x => br_f h (sX _ (br_f w (nm_e (nm_r (nI_1 a) (hX post x))))), fun post x => br_f h (sY _ (br_f w (nm_e (nm_r (nI_1 a) (hY post x)))))⟩
theorem fb_l {o : Nat} (ho : o < 5) (pc : Int32) : ∀ m a z, a + m = 40 → ∃ r : Int32, (r = -2 ∨ ∃ b, b < 40 ∧ r = nI b) ∧ (∀ post : Int32 → Prop, post r → wX_firstByte_5 post (nI o) pc ll c ws wl wt ln (m + 1) z (nI a)) ∧ (∀ post : Int32 → Prop, post r → wY_startOf_5 post (nI o) pc q c wh fi ma ki ou (m + 1) z (nI a)) := by
  intro m
  induction m with
  | zero =>
    intro a z ha
    have h : (40 : Int32) ≤ nI a := nI_le (a := 40) (by omega) (by omega)
    exact ⟨-2, Or.inl rfl, fun post x => br_t h x, fun post x => br_t h x⟩
  | succ m ih =>
    intro a z ha
    have h : ¬ (40 : Int32) ≤ nI a := nI_ge (b := 40) (by omega) (by omega)
    obtain ⟨s, sX, sY⟩ := bg_v (ll := ll) (q := q) (c := c) (ws := ws) (wl := wl) (wt := wt) (ln := ln) (wh := wh) (fi := fi) (ma := ma) (ki := ki) (ou := ou) ho (show a < 40 by omega)
    by_cases w : s = 0
    · obtain ⟨r, hr, hX, hY⟩ := ih (a + 1) z (by omega)
      exact ⟨r, hr, fun post x => br_f h (sX _ (br_t w (nm_r (nI_1 a) (hX post x)))), fun post x => br_f h (sY _ (br_t w (nm_r (nI_1 a) (hY post x))))⟩
    · by_cases y : z = pc
      · exact ⟨nI a, Or.inr ⟨a, by omega, rfl⟩, fun post x => br_f h (sX _ (br_f w (br_t y x))), fun post x => br_f h (sY _ (br_f w (br_t y x)))⟩
      · obtain ⟨r, hr, hX, hY⟩ := ih (a + 1) (z + 1) (by omega)
        exact ⟨r, hr, fun post x => br_f h (sX _ (br_f w (br_f y (nm_e (nm_r (nI_1 a) (hX post x)))))), fun post x => br_f h (sY _ (br_f w (br_f y (nm_e (nm_r (nI_1 a) (hY post x))))))⟩
theorem fb_v {o : Nat} (ho : o < 5) (pc : Int32) : ∃ r : Int32, (r = -2 ∨ ∃ b, b < 40 ∧ r = nI b) ∧ (∀ post : Int32 → Prop, post r → wpX_firstByte post (ll, c, ws, wl, wt, ln) (nI o) pc) ∧ (∀ post : Int32 → Prop, post r → wpY_startOf post (q, c, wh, fi, ma, ki, ou) (nI o) pc) := by
  obtain ⟨r, hr, hX, hY⟩ := fb_l (ll := ll) (q := q) (c := c) (ws := ws) (wl := wl) (wt := wt) (ln := ln) (wh := wh) (fi := fi) (ma := ma) (ki := ki) (ou := ou) ho pc 40 0 0 (by omega)
  exact ⟨r, hr, fun post h => ⟨41, hX post h⟩, fun post h => ⟨41, hY post h⟩⟩
theorem pe_l {o b : Nat} (ho : o < 5) (hb : b < 40) : ∀ m a, a + m = 39 → c (o * 40 + a) = c (o * 40 + b) → ∃ r : Int32, (∀ post : Int32 → Prop, post r → wX_pieceEnd_31 post (nI o) (nI b) ll c ws wl wt ln (m + 1) (nI a) (nI (a + 1))) ∧ (∀ post : Int32 → Prop, post r → wY_pieceEnd_24 post (nI o) q c wh fi ma ki ou (m + 1) (nI a)) := by
  intro m
  induction m with
  | zero =>
    intro a ha _
    have h1 : (40 : Int32) ≤ nI (a + 1) := nI_le (a := 40) (by omega) (by omega)
    have h2 : (39 : Int32) ≤ nI a := nI_le (a := 39) (by omega) (by omega)
    exact ⟨nI a, fun post x => br_t h1 x, fun post x => br_t h2 x⟩
  | succ m ih =>
    intro a ha hc
    have h1 : ¬ (40 : Int32) ≤ nI (a + 1) := nI_ge (b := 40) (by omega) (by omega)
    have h2 : ¬ (39 : Int32) ≤ nI a := nI_ge (b := 39) (by omega) (by omega)
    have i1 := rl_in1 ho (show a + 1 < 40 by omega)
    have i2 := rl_in1 ho hb
    have y1 := rl_c1 ho (show a + 1 < 40 by omega)
    have y2 := rl_c1 ho hb
    have e : 40 * nI o + nI a + 1 = nI (o * 40 + (a + 1)) := by rw [rl_ix2]; exact nI_1 (o * 40 + a)
    have j1 : vp_in (40 * nI o + nI a + 1) 200 := by rw [e]; exact vp_in_nI (by omega) (by omega)
    have j2 := rl_in2 ho (show a < 40 by omega)
    have w1 : (40 * nI o + nI a + 1).toNatClampNeg = o * 40 + (a + 1) := by rw [e]; exact nI_clamp (by omega)
    have w2 := rl_c2 ho (show a < 40 by omega)
    by_cases z : c (o * 40 + (a + 1)) = c (o * 40 + b)
    · obtain ⟨r, hX, hY⟩ := ih (a + 1) (by omega) z
      exact ⟨r, fun post x => br_f h1 ⟨i1, i2, br_t (by rw [y1, y2]; exact z) (nm_r (nI_1 (a + 1)) (hX post x))⟩, fun post x => br_f h2 ⟨j1, j2, br_t (by rw [w1, w2, hc]; exact z) (nm_r (nI_1 a) (hY post x))⟩⟩
    · exact ⟨nI a, fun post x => br_f h1 ⟨i1, i2, br_f (by rw [y1, y2]; exact z) x⟩, fun post x => br_f h2 ⟨j1, j2, br_f (by rw [w1, w2, hc]; exact z) x⟩⟩
theorem cz_c {post : Int32 → Prop} {ty : Int32} {o : Nat} (ho : o < 5) : ∀ m a z, a + m = 40 → post (nI (z + cz_f c o ty m a)) → wY_count_27 post (nI o) ty q c wh fi ma ki ou (m + 1) (nI z) (nI a) := by
  intro m
  induction m with
  | zero => intro a z ha h; exact br_t (nI_le (a := 40) (by omega) (by omega)) h
  | succ m ih =>
    intro a z ha h
    refine br_f (nI_ge (b := 40) (by omega) (by omega)) ⟨rl_in2 ho (by omega), ?_⟩
    rw [rl_c2 ho (by omega)]
    have e : cz_f c o ty (m + 1) a = (if c (o * 40 + a) = ty then 1 else 0) + cz_f c o ty m (a + 1) := rfl
    rw [e] at h
    by_cases w : c (o * 40 + a) = ty
    · rw [if_pos w, ← Nat.add_assoc] at h
      exact br_t w (nm_r (nI_1 z) (nm_r (nI_1 a) (ih (a + 1) (z + 1) (by omega) h)))
    · rw [if_neg w, Nat.zero_add] at h
      exact br_f w (nm_r (nI_1 a) (ih (a + 1) z (by omega) h))
theorem ob_l {o s l : Nat} {ty : Int32} (ho : o < 5) (hsl : s + l ≤ 40) (ht : rl_V ty) (hc : ∀ j, rl_V (c j)) : ∀ m a, a + m = s + l → ∃ r : Int32, (∀ post : Int32 → Prop, post r → wX_obstacle_27 post (nI o) ty (nI (s + l)) ll c ws wl wt ln (m + 1) (nI a)) ∧ (∀ post : Int32 → Prop, post r → wY_obstacle_40 post (nI o) (nI s) (nI l) ty q c wh fi ma ki ou (m + 1) (nI a)) := by
  intro m
  induction m with
  | zero =>
    intro a ha
    have h : nI (s + l) ≤ nI a := nI_le (by omega) (by omega)
    exact ⟨-4, fun post x => br_t h x, fun post x => br_t (by rw [nI_add]; exact h) x⟩
  | succ m ih =>
    intro a ha
    have h : ¬ nI (s + l) ≤ nI a := nI_ge (by omega) (by omega)
    have hY : ¬ nI s + nI l ≤ nI a := by rw [nI_add]; exact h
    by_cases z : op_v c ty o a 1 = 0
    · obtain ⟨r, kX, kY⟩ := ih (a + 1) (by omega)
      exact ⟨r, fun post x => br_f h (ox_v (s := a) (l := 1) ho (by omega) ht hc (br_t z (nm_r (nI_1 a) (kX post x)))), fun post x => br_f hY (oy_v (s := a) (l := 1) ho (by omega) (br_t z (nm_r (nI_1 a) (kY post x))))⟩
    · exact ⟨nI a, fun post x => br_f h (ox_v (s := a) (l := 1) ho (by omega) ht hc (br_f z x)), fun post x => br_f hY (oy_v (s := a) (l := 1) ho (by omega) (br_f z x))⟩
theorem ah_f {post : Int32 → Prop} {n j : Nat} {o : Int32} (hn : n ≤ 5) (hj : j < n) (ej : ln j = o) (hf : ∀ k, k < j → ¬ ln k = o) (h : post (nI j)) : ∀ m i, i + m = j → wX_ahead_11 post o (nI n) c ws wl wt ln (m + 1) (nI i) := by
  intro m
  induction m with
  | zero =>
    intro i hi
    have : i = j := by omega
    subst this
    exact br_f (nI_ge (by omega) (by omega)) ⟨vp_in_nI (by omega) (by omega), br_t (by rw [rl_cl5 (show i < 5 by omega)]; exact ej) h⟩
  | succ m ih =>
    intro i hi
    exact br_f (nI_ge (by omega) (by omega)) ⟨vp_in_nI (by omega) (by omega), br_f (by rw [rl_cl5 (show i < 5 by omega)]; exact hf i (by omega)) (nm_r (nI_1 i) (ih (i + 1) (by omega)))⟩
theorem ah_n {post : Int32 → Prop} {n : Nat} {o : Int32} (hn : n ≤ 5) (hf : ∀ k, k < n → ¬ ln k = o) (h : post (-2)) : ∀ m i, i + m = n → wX_ahead_11 post o (nI n) c ws wl wt ln (m + 1) (nI i) := by
  intro m
  induction m with
  | zero => intro i hi; exact br_t (nI_le (by omega) (by omega)) h
  | succ m ih =>
    intro i hi
    exact br_f (nI_ge (by omega) (by omega)) ⟨vp_in_nI (by omega) (by omega), br_f (by rw [rl_cl5 (show i < 5 by omega)]; exact hf i (by omega)) (nm_r (nI_1 i) (ih (i + 1) (by omega)))⟩
end
