/-! the owed statements of the questions -/
theorem i_vc_lockAt {k : Nat} {u : SX} {v : SY} (I : i_Rel k u v) (hk : k + 5 ≤ 2560) (v1 : Int32) (v2 : Int32) : wpX_lockAt (fun r => wpY_lockAt (fun r' => r' = r ∧ i_Rel (k + 5) u v) v v1 v2) u v1 v2 := by
  obtain ⟨n, c, ws, wl, wt, ln, fi, ma, ki, ou, rfl, rfl, J⟩ := I
  unfold wpX_lockAt wpY_lockAt
  dsimp only
  rcases ag_o v1 with ⟨hX, hY⟩ | ⟨o, ho, rfl, hX, hY⟩
  · exact hX _ (br_t rfl (hY _ _ (br_f (by decide) ⟨rfl, rl_mk J ou⟩)))
  rcases ag_b v2 with ⟨bX, bY⟩ | ⟨a, ha, rfl, bX, bY⟩
  · exact hX _ (br_f (by decide) (bX _ (br_t rfl (hY _ _ (br_t rfl (bY _ _ (br_f (by decide) ⟨rfl, rl_mk J ou⟩)))))))
  · refine hX _ (br_f (by decide) (bX _ (br_f (by decide) ⟨rl_in1 ho ha, hY _ _ (br_t rfl (bY _ _ (br_t rfl ⟨rl_in2 ho ha, ?_, rl_mk J ou⟩)))⟩)))
    rw [rl_c1 ho ha, rl_c2 ho ha]
theorem i_vc_holders {k : Nat} {u : SX} {v : SY} (I : i_Rel k u v) (hk : k + 5 ≤ 2560) (v1 : Int32) : wpX_holders (fun r => wpY_holders (fun r' => r' = r ∧ i_Rel (k + 5) u v) v v1) u v1 := by
  obtain ⟨n, c, ws, wl, wt, ln, fi, ma, ki, ou, rfl, rfl, J⟩ := I
  unfold wpX_holders
  dsimp only
  rcases ag_b v1 with ⟨bX, bY⟩ | ⟨a, ha, rfl, bX, bY⟩
  · unfold wpY_holders
    dsimp only
    exact bX _ (br_t rfl (bY _ _ (br_f (by decide) ⟨rfl, rl_mk J ou⟩)))
  · obtain ⟨r, hX, hY⟩ := hs_v (ll := nI n) (q := nI n) (c := c) (ws := ws) (wl := wl) (wt := wt) (ln := ln) (wh := ln) (fi := fi) (ma := ma) (ki := ki) (ou := ou) ha
    exact bX _ (br_f (by decide) (hX _ (hY _ ⟨rfl, rl_mk J ou⟩)))
theorem i_vc_obstacle {k : Nat} {u : SX} {v : SY} (I : i_Rel k u v) (hk : k + 5 ≤ 2560) (v1 : Int32) (v2 : Int32) (v3 : Int32) (v4 : Int32) : wpX_obstacle (fun r => wpY_obstacle (fun r' => r' = r ∧ i_Rel (k + 5) u v) v v1 v2 v3 v4) u v1 v2 v3 v4 := by
  obtain ⟨n, c, ws, wl, wt, ln, fi, ma, ki, ou, rfl, rfl, J⟩ := I
  unfold wpX_obstacle wpY_obstacle
  dsimp only
  rcases ag_q v1 v2 v3 v4 1 with ⟨hX, hY⟩ | ⟨o, ho, rfl, hY, hr⟩
  · exact hX _ (br_f (by decide) (hY _ _ (br_f (by decide) ⟨rfl, rl_mk J ou⟩)))
  rcases hr with ⟨hX, rY⟩ | ⟨s, l, hsl, rfl, rfl, rY, ht⟩
  · exact hX _ (br_f (by decide) (hY _ _ (br_t rfl (rY _ _ (br_f (by decide) ⟨rfl, rl_mk J ou⟩)))))
  rcases ht with ⟨ht, hX⟩ | ⟨t1, t2, hX⟩
  · obtain ⟨n1, n2⟩ := ag_tn ht
    exact hX _ (br_f (by decide) (hY _ _ (br_t rfl (rY _ _ (br_t rfl (br_f n1 (br_f n2 ⟨rfl, rl_mk J ou⟩)))))))
  have ht := ag_t1 t1 t2
  obtain ⟨r, kX, kY⟩ := ob_l (ll := nI n) (q := nI n) (c := c) (ws := ws) (wl := wl) (wt := wt) (ln := ln) (wh := ln) (fi := fi) (ma := ma) (ki := ki) (ou := ou) ho hsl (rl_V12 ht) J.2.1 l s rfl
  exact hX _ (br_t rfl (nm_r (nI_add s l) ⟨_, kX _ (hY _ _ (br_t rfl (rY _ _ (br_t rfl (aw_t ht ⟨_, kY _ ⟨rfl, rl_mk J ou⟩⟩)))))⟩))
theorem i_vc_wouldCircle {k : Nat} {u : SX} {v : SY} (I : i_Rel k u v) (hk : k + 5 ≤ 2560) (v1 : Int32) (v2 : Int32) (v3 : Int32) (v4 : Int32) : wpX_wouldCircle (fun r => wpY_wouldCircle (fun r' v' => r' = r ∧ i_Rel (k + 5) u v') v v1 v2 v3 v4) u v1 v2 v3 v4 := by
  obtain ⟨n, c, ws, wl, wt, ln, fi, ma, ki, ou, rfl, rfl, J⟩ := I
  unfold wpX_wouldCircle wpY_wouldCircle
  dsimp only
  rcases ag_q v1 v2 v3 v4 1 with ⟨hX, hY⟩ | ⟨o, ho, rfl, hY, hr⟩
  · exact ar_f (by decide) hX (br_f (by decide) (hY _ _ (br_f (by decide) ⟨rfl, rl_mk J ou⟩)))
  rcases hr with ⟨hX, rY⟩ | ⟨s, l, hsl, rfl, rfl, rY, ht⟩
  · exact ar_f (by decide) hX (br_f (by decide) (hY _ _ (br_t rfl (rY _ _ (br_f (by decide) ⟨rfl, rl_mk J ou⟩)))))
  rcases ht with ⟨ht, hX⟩ | ⟨t1, t2, hX⟩
  · obtain ⟨n1, n2⟩ := ag_tn ht
    exact ar_f (by decide) hX (br_f (by decide) (hY _ _ (br_t rfl (rY _ _ (br_t rfl (br_f n1 (br_f n2 ⟨rfl, rl_mk J ou⟩)))))))
  have ht := ag_t1 t1 t2
  rcases pl_v J ou ho with ⟨j, hj, ej, _, hw, hP⟩ | ⟨_, hw, hP⟩
  · refine ar_w ho hw hX (br_f (by decide) (hY _ _ (br_t rfl (rY _ _ (br_t rfl (aw_t ht ?_))))))
    exact hP _ (br_f (nI_pos (by have := J.1; omega)) ⟨rfl, rl_mk J ou⟩)
  · by_cases z : op_v c v4 o s l = 0
    · have hC : ¬ ar_C c ws wl wt v4 o s l := by unfold ar_C; rw [z]; exact cy_0 _ ho
      refine ar_v J ho hsl ht hw hX (fun w => absurd w hC) (fun _ => br_f (by decide) (hY _ _ (br_t rfl (rY _ _ (br_t rfl (aw_t ht ?_))))))
      exact hP _ (br_t (by decide) (oy_v ho hsl (br_t z ⟨rfl, rl_mk J ou⟩)))
    · obtain ⟨ou', hcy⟩ := cy_v J ou ho (op_v c v4 o s l) (op_vb c v4 s l ho)
      refine ar_v J ho hsl ht hw hX (fun w => br_t rfl ?_) (fun w => br_f (by decide) ?_)
      · refine hY _ _ (br_t rfl (rY _ _ (br_t rfl (aw_t ht ?_))))
        refine hP _ (br_t (by decide) (oy_v ho hsl (br_f z (hcy _ ?_))))
        rw [if_pos (show bt (cs_it (cs_g (wf_v c ws wl wt) 5 0) 5 (op_v c v4 o s l)) o = true from w)]
        exact br_f (by decide) ⟨rfl, rl_mk J ou'⟩
      · refine hY _ _ (br_t rfl (rY _ _ (br_t rfl (aw_t ht ?_))))
        refine hP _ (br_t (by decide) (oy_v ho hsl (br_f z (hcy _ ?_))))
        rw [if_neg (show ¬ bt (cs_it (cs_g (wf_v c ws wl wt) 5 0) 5 (op_v c v4 o s l)) o = true from w)]
        exact br_t rfl ⟨rfl, rl_mk J ou'⟩
theorem i_vc_waiting {k : Nat} {u : SX} {v : SY} (I : i_Rel k u v) (hk : k + 5 ≤ 2560) (v1 : Int32) : wpX_waiting (fun r => wpY_waiting (fun r' => r' = r ∧ i_Rel (k + 5) u v) v v1) u v1 := by
  obtain ⟨n, c, ws, wl, wt, ln, fi, ma, ki, ou, rfl, rfl, J⟩ := I
  unfold wpX_waiting wpY_waiting
  dsimp only
  rcases ag_o v1 with ⟨hX, hY⟩ | ⟨o, ho, rfl, hX, hY⟩
  · exact hX _ (br_t rfl (hY _ _ (br_f (by decide) ⟨rfl, rl_mk J ou⟩)))
  rcases pl_v J ou ho with ⟨j, hj, ej, _, hw, hP⟩ | ⟨_, hw, hP⟩
  · exact hX _ (br_f (by decide) (iw_1 ho hw (br_f (by decide) (hY _ _ (br_t rfl (hP _ (br_f (nI_pos (by have := J.1; omega)) ⟨rfl, rl_mk J ou⟩)))))))
  · exact hX _ (br_f (by decide) (iw_0 ho hw (br_t rfl (hY _ _ (br_t rfl (hP _ (br_t (by decide) ⟨rfl, rl_mk J ou⟩)))))))
theorem i_vc_waitsFor {k : Nat} {u : SX} {v : SY} (I : i_Rel k u v) (hk : k + 5 ≤ 2560) (v1 : Int32) : wpX_waitsFor (fun r => wpY_waitsFor (fun r' => r' = r ∧ i_Rel (k + 5) u v) v v1) u v1 := by
  obtain ⟨n, c, ws, wl, wt, ln, fi, ma, ki, ou, rfl, rfl, J⟩ := I
  unfold wpX_waitsFor wpY_waitsFor
  dsimp only
  rcases ag_o v1 with ⟨hX, hY⟩ | ⟨o, ho, rfl, hX, hY⟩
  · exact hX _ (br_t rfl (hY _ _ (br_f (by decide) ⟨rfl, rl_mk J ou⟩)))
  rcases pl_v J ou ho with ⟨j, hj, ej, _, hw, hP⟩ | ⟨_, hw, hP⟩
  · have hn := J.1
    obtain ⟨o', E⟩ := J.2.2.1 j hj
    have eo : o' = o := rl_inj (by have := E.1; omega) (by omega) (E.2.1.symm.trans ej)
    subst eo
    have a8 : vp_in (nI j) 8 := vp_in_nI (by omega) (by omega)
    refine hX _ (br_f (by decide) (wf_x J ho _ (hY _ _ (br_t rfl (hP _ (br_t (nI_pos' (by omega)) ⟨a8, a8, a8, ?_⟩))))))
    rw [rl_cl8 (show j < 8 by omega)]
    have g := wf_y (c := c) (q := nI n) (wh := ln) (fi' := fi) (ma' := ma) (ki' := ki) (ou := ou) (post := fun r' => r' = wf_v c ws wl wt o' ∧ i_Rel (k + 5) (nI n, c, ws, wl, wt, ln) (nI n, c, ln, fi, ma, ki, ou)) E ⟨rfl, rl_mk J ou⟩
    rw [ej] at g
    exact g
  · refine hX _ (br_f (by decide) (wf_x J ho _ (hY _ _ (br_t rfl (hP _ (br_f (by decide) ⟨?_, rl_mk J ou⟩))))))
    exact (wf_0 hw).symm
theorem i_vc_ahead {k : Nat} {u : SX} {v : SY} (I : i_Rel k u v) (hk : k + 5 ≤ 2560) (v1 : Int32) : wpX_ahead (fun r => wpY_ahead (fun r' => r' = r ∧ i_Rel (k + 5) u v) v v1) u v1 := by
  obtain ⟨n, c, ws, wl, wt, ln, fi, ma, ki, ou, rfl, rfl, J⟩ := I
  unfold wpX_ahead wpY_ahead
  dsimp only
  rcases ag_o v1 with ⟨hX, hY⟩ | ⟨o, ho, rfl, hX, hY⟩
  · exact hX _ (br_t rfl (hY _ _ (br_f (by decide) ⟨rfl, rl_mk J ou⟩)))
  rcases pl_v J ou ho with ⟨j, hj, ej, hf, hw, hP⟩ | ⟨hf, hw, hP⟩
  · exact hX _ (br_f (by decide) ⟨_, ah_f J.1 hj ej hf (hY _ _ (br_t rfl (hP _ (br_t (nI_pos' (by have := J.1; omega)) ⟨rfl, rl_mk J ou⟩)))) j 0 (by omega)⟩)
  · exact hX _ (br_f (by decide) ⟨_, ah_n J.1 hf (hY _ _ (br_t rfl (hP _ (br_f (by decide) ⟨rfl, rl_mk J ou⟩)))) n 0 (by omega)⟩)
theorem i_vc_pieces {k : Nat} {u : SX} {v : SY} (I : i_Rel k u v) (hk : k + 5 ≤ 2560) (v1 : Int32) : wpX_pieces (fun r => wpY_pieces (fun r' => r' = r ∧ i_Rel (k + 5) u v) v v1) u v1 := by
  obtain ⟨n, c, ws, wl, wt, ln, fi, ma, ki, ou, rfl, rfl, J⟩ := I
  unfold wpX_pieces wpY_pieces
  dsimp only
  rcases ag_o v1 with ⟨hX, hY⟩ | ⟨o, ho, rfl, hX, hY⟩
  · exact hX _ (br_t rfl (hY _ _ (br_f (by decide) ⟨rfl, rl_mk J ou⟩)))
  obtain ⟨r, kX, kY⟩ := pc_l (ll := nI n) (q := nI n) (c := c) (ws := ws) (wl := wl) (wt := wt) (ln := ln) (wh := ln) (fi := fi) (ma := ma) (ki := ki) (ou := ou) ho 40 0 0 (by omega)
  exact hX _ (br_f (by decide) ⟨_, kX _ (hY _ _ (br_t rfl ⟨_, kY _ ⟨rfl, rl_mk J ou⟩⟩))⟩)
theorem i_vc_pieceStart {k : Nat} {u : SX} {v : SY} (I : i_Rel k u v) (hk : k + 5 ≤ 2560) (v1 : Int32) (v2 : Int32) : wpX_pieceStart (fun r => wpY_pieceStart (fun r' => r' = r ∧ i_Rel (k + 5) u v) v v1 v2) u v1 v2 := by
  obtain ⟨n, c, ws, wl, wt, ln, fi, ma, ki, ou, rfl, rfl, J⟩ := I
  unfold wpX_pieceStart wpY_pieceStart
  dsimp only
  rcases ag_o v1 with ⟨hX, hY⟩ | ⟨o, ho, rfl, hX, hY⟩
  · exact hX _ (br_t rfl (hY _ _ (br_f (by decide) ⟨rfl, rl_mk J ou⟩)))
  obtain ⟨r, _, kX, kY⟩ := fb_v (ll := nI n) (q := nI n) (c := c) (ws := ws) (wl := wl) (wt := wt) (ln := ln) (wh := ln) (fi := fi) (ma := ma) (ki := ki) (ou := ou) ho v2
  exact hX _ (br_f (by decide) (kX _ (hY _ _ (br_t rfl (kY _ ⟨rfl, rl_mk J ou⟩)))))
theorem i_vc_pieceEnd {k : Nat} {u : SX} {v : SY} (I : i_Rel k u v) (hk : k + 5 ≤ 2560) (v1 : Int32) (v2 : Int32) : wpX_pieceEnd (fun r => wpY_pieceEnd (fun r' => r' = r ∧ i_Rel (k + 5) u v) v v1 v2) u v1 v2 := by
  obtain ⟨n, c, ws, wl, wt, ln, fi, ma, ki, ou, rfl, rfl, J⟩ := I
  unfold wpX_pieceEnd wpY_pieceEnd
  dsimp only
  rcases ag_o v1 with ⟨hX, hY⟩ | ⟨o, ho, rfl, hX, hY⟩
  · exact hX _ (br_t rfl (hY _ _ (br_f (by decide) ⟨rfl, rl_mk J ou⟩)))
  obtain ⟨r, hr, kX, kY⟩ := fb_v (ll := nI n) (q := nI n) (c := c) (ws := ws) (wl := wl) (wt := wt) (ln := ln) (wh := ln) (fi := fi) (ma := ma) (ki := ki) (ou := ou) ho v2
  rcases hr with rfl | ⟨b, hb, rfl⟩
  · exact hX _ (br_f (by decide) (kX _ (br_f (by decide) (hY _ _ (br_t rfl (kY _ (br_f (by decide) ⟨rfl, rl_mk J ou⟩)))))))
  · obtain ⟨r, pX, pY⟩ := pe_l (ll := nI n) (q := nI n) (c := c) (ws := ws) (wl := wl) (wt := wt) (ln := ln) (wh := ln) (fi := fi) (ma := ma) (ki := ki) (ou := ou) ho hb (39 - b) b (by omega) rfl
    have h0 : (0 : Int32) ≤ nI b := nI_pos' (by omega)
    exact hX _ (br_f (by decide) (kX _ (br_t h0 (nm_r (nI_1 b) ⟨_, pX _ (hY _ _ (br_t rfl (kY _ (br_t h0 ⟨_, pY _ ⟨rfl, rl_mk J ou⟩⟩))))⟩))))
theorem i_vc_pieceType {k : Nat} {u : SX} {v : SY} (I : i_Rel k u v) (hk : k + 5 ≤ 2560) (v1 : Int32) (v2 : Int32) : wpX_pieceType (fun r => wpY_pieceType (fun r' => r' = r ∧ i_Rel (k + 5) u v) v v1 v2) u v1 v2 := by
  obtain ⟨n, c, ws, wl, wt, ln, fi, ma, ki, ou, rfl, rfl, J⟩ := I
  unfold wpX_pieceType wpY_pieceType
  dsimp only
  rcases ag_o v1 with ⟨hX, hY⟩ | ⟨o, ho, rfl, hX, hY⟩
  · exact hX _ (br_t rfl (hY _ _ (br_f (by decide) ⟨rfl, rl_mk J ou⟩)))
  obtain ⟨r, hr, kX, kY⟩ := fb_v (ll := nI n) (q := nI n) (c := c) (ws := ws) (wl := wl) (wt := wt) (ln := ln) (wh := ln) (fi := fi) (ma := ma) (ki := ki) (ou := ou) ho v2
  rcases hr with rfl | ⟨b, hb, rfl⟩
  · exact hX _ (br_f (by decide) (kX _ (br_f (by decide) (hY _ _ (br_t rfl (kY _ (br_f (by decide) ⟨rfl, rl_mk J ou⟩)))))))
  · have h0 : (0 : Int32) ≤ nI b := nI_pos' (by omega)
    refine hX _ (br_f (by decide) (kX _ (br_t h0 ⟨rl_in1 ho hb, hY _ _ (br_t rfl (kY _ (br_t h0 ⟨rl_in2 ho hb, ?_, rl_mk J ou⟩)))⟩)))
    rw [rl_c1 ho hb, rl_c2 ho hb]
theorem i_vc_count {k : Nat} {u : SX} {v : SY} (I : i_Rel k u v) (hk : k + 5 ≤ 2560) (v1 : Int32) (v2 : Int32) : wpX_count (fun r => wpY_count (fun r' => r' = r ∧ i_Rel (k + 5) u v) v v1 v2) u v1 v2 := by
  obtain ⟨n, c, ws, wl, wt, ln, fi, ma, ki, ou, rfl, rfl, J⟩ := I
  unfold wpX_count wpY_count
  dsimp only
  rcases ag_o v1 with ⟨hX, hY⟩ | ⟨o, ho, rfl, hX, hY⟩
  · exact hX _ (br_t rfl (hY _ _ (br_f (by decide) ⟨rfl, rl_mk J ou⟩)))
  by_cases h1 : v2 < 0
  · exact hX _ (br_f (by decide) (br_t h1 (hY _ _ (br_t rfl (br_t h1 ⟨rfl, rl_mk J ou⟩)))))
  by_cases h2 : v2 ≤ 2
  · exact hX _ (br_f (by decide) (br_f h1 (br_t h2 ⟨_, cz_x ho 40 0 0 (by omega) (hY _ _ (br_t rfl (br_f h1 (br_t h2 ⟨_, cz_c ho 40 0 0 (by omega) ⟨rfl, rl_mk J ou⟩⟩))))⟩)))
  · exact hX _ (br_f (by decide) (br_f h1 (br_f h2 (hY _ _ (br_t rfl (br_f h1 (br_f h2 ⟨rfl, rl_mk J ou⟩)))))))
theorem i_vc_free {k : Nat} {u : SX} {v : SY} (I : i_Rel k u v) (hk : k + 5 ≤ 2560) : wpX_free (fun r => wpY_free (fun r' => r' = r ∧ i_Rel (k + 5) u v) v) u := by
  obtain ⟨n, c, ws, wl, wt, ln, fi, ma, ki, ou, rfl, rfl, J⟩ := I
  obtain ⟨r, kX, kY⟩ := fr_l (ll := nI n) (q := nI n) (c := c) (ws := ws) (wl := wl) (wt := wt) (ln := ln) (wh := ln) (fi := fi) (ma := ma) (ki := ki) (ou := ou) 40 0 0 (by omega)
  exact ⟨_, kX _ ⟨_, kY _ ⟨rfl, rl_mk J ou⟩⟩⟩
