/-- both sides hold the same time, timers, periods and count of rings; the reference's rows are the component's circles, read backwards -/
def i_Rel (k : Nat) (u : SX) (v : SY) : Prop :=
  ∃ (T R q : Nat) (on due per rt rk who wh : Nat → Int32), u = tw_X T R q on due per rt rk ∧ v = tw_Y T R on due per who wh ∧
    T ≤ 250 * k ∧ R ≤ 16 * T ∧ tw_M T 16 q on due per rt rk who wh
theorem i_up {k : Nat} {u : SX} {v : SY} (h : i_Rel k u v) : i_Rel (k + 4) u v := by
  obtain ⟨T, R, q, on, due, per, rt, rk, who, wh, rfl, rfl, hT, hR, hM⟩ := h
  exact ⟨T, R, q, on, due, per, rt, rk, who, wh, rfl, rfl, by omega, hR, hM⟩
theorem i_vc0 : wpX_init (fun u => wpY_init (fun v => i_Rel 0 u v)) :=
  ⟨0, 0, 0, fun _ => 0, fun _ => 0, fun _ => 0, fun _ => 0, fun _ => 0, fun _ => 0, fun _ => 0, rfl, rfl, by omega, by omega, by omega, tw_tim0, tw_row0, tw_row0⟩
theorem i_vc_set {k : Nat} {u : SX} {v : SY} (I : i_Rel k u v) (hk : k + 4 ≤ 2048) (v1 : Int32) (v2 : Int32) (v3 : Int32) : wpX_set (fun r u' => wpY_set (fun r' v' => r' = r ∧ i_Rel (k + 4) u' v') v v1 v2 v3) u v1 v2 v3 := by
  have J := i_up I
  obtain ⟨T, R, q, on, due, per, rt, rk, who, wh, rfl, rfl, hT, hR, hq, hM, hw, hh⟩ := I
  unfold wpX_set wpY_set
  dsimp only
  rcases tw_ix 16 v1 with h1 | ⟨j, hj, _, rfl⟩
  · refine tw_xT0 h1 (br_t rfl ?_)
    rcases h1 with h1 | ⟨j, hn, hj, rfl⟩
    · exact br_t h1 ⟨rfl, J⟩
    · exact br_f (nI_pos hj) (br_t (nI_lt (a := 15) (by omega) hj) ⟨rfl, J⟩)
  have g0 : ¬ nI j < 0 := nI_pos (by omega)
  have g1 : ¬ (15 : Int32) < nI j := nI_nlt (a := 15) (by omega) (by decide)
  have c0 : (nI j).toNatClampNeg = j := nI_clamp (by omega)
  have hi : vp_in (nI j) 16 := vp_in_nI hj (by omega)
  refine tw_xT1 hj (br_f tw_10 ?_)
  by_cases h2 : v2 < 1
  · exact br_t h2 (br_f g0 (br_f g1 (br_t h2 ⟨rfl, J⟩)))
  by_cases h3 : 500 < v2
  · exact br_f h2 (br_t h3 (br_f g0 (br_f g1 (br_f h2 (br_t h3 ⟨rfl, J⟩)))))
  refine br_f h2 (br_f h3 ?_)
  rcases tw_ix 501 v3 with h4 | ⟨p, hp, _, rfl⟩
  · refine tw_xP0 h4 (br_t rfl (br_f g0 (br_f g1 (br_f h2 (br_f h3 ?_)))))
    rcases h4 with h4 | ⟨p, hn, hp, rfl⟩
    · exact br_t h4 ⟨rfl, J⟩
    · exact br_f (nI_pos hp) (br_f (nI_ge (a := 500) (by omega) hp) ⟨rfl, J⟩)
  obtain ⟨d, hd1, hd2, rfl⟩ : ∃ d : Nat, 1 ≤ d ∧ d ≤ 500 ∧ v2 = nI d := by
    rcases tw_ix 501 v2 with (h | ⟨d, hn, hd, rfl⟩) | ⟨d, hn, hd, rfl⟩
    · exact absurd (Int32.lt_trans h (by decide)) h2
    · exact absurd (nI_lt (a := 500) (by omega) hd) h3
    · refine ⟨d, ?_, by omega, rfl⟩
      by_cases y : d = 0
      · subst y
        exact absurd (by decide) h2
      · omega
  refine tw_xP1 hp (br_f tw_10 ⟨hi, nm_r (e' := upd on j 1) (by rw [c0, tw_b1]) ⟨hi, nm_r (e' := upd due j (nI (T + d))) (by rw [c0, nI_add]) ⟨hi, nm_r (e' := upd per j (nI p)) (by rw [c0]) ⟨hi, ?_⟩⟩⟩⟩)
  refine br_f g0 (br_f g1 (br_f h2 (br_f h3 (br_f (nI_pos (by omega)) (br_t (nI_le (b := 500) (by omega) (by decide)) ⟨hi, nm_r (e' := upd on j 1) (by rw [c0, tw_b1]) ⟨hi, nm_r (e' := upd due j (nI (T + d))) (by rw [c0, nI_add]) ⟨hi, nm_r (e' := upd per j (nI p)) (by rw [c0]) ⟨hi, rfl, ?_⟩⟩⟩⟩)))))
  exact ⟨T, R, q, _, _, _, rt, rk, who, wh, rfl, rfl, by omega, hR, hq, tw_timSet hM hd1 hd2 (by omega), hw, hh⟩
theorem i_vc_cancel {k : Nat} {u : SX} {v : SY} (I : i_Rel k u v) (hk : k + 4 ≤ 2048) (v1 : Int32) : wpX_cancel (fun r u' => wpY_cancel (fun r' v' => r' = r ∧ i_Rel (k + 4) u' v') v v1) u v1 := by
  have J := i_up I
  obtain ⟨T, R, q, on, due, per, rt, rk, who, wh, rfl, rfl, hT, hR, hq, hM, hw, hh⟩ := I
  unfold wpX_cancel wpY_cancel
  dsimp only
  rcases tw_ix 16 v1 with h1 | ⟨j, hj, _, rfl⟩
  · exact tw_xS0 h1 (br_t rfl (tw_yS0 h1 (br_t rfl ⟨rfl, J⟩)))
  have c0 : (nI j).toNatClampNeg = j := nI_clamp (by omega)
  have hi : vp_in (nI j) 16 := vp_in_nI hj (by omega)
  by_cases z : on j = 0
  · exact tw_xSn hj z (br_t rfl (tw_ySn hj z (br_t rfl ⟨rfl, J⟩)))
  refine tw_xSy hj z (br_f tw_10 ⟨hi, nm_r (e' := upd on j 0) (by rw [c0, tw_b0]) ⟨hi, ?_⟩⟩)
  refine tw_ySy hj z (br_f tw_10 ⟨hi, nm_r (e' := upd on j 0) (by rw [c0, tw_b0]) ⟨hi, rfl, ?_⟩⟩)
  exact ⟨T, R, q, _, _, _, rt, rk, who, wh, rfl, rfl, by omega, hR, hq, tw_timOff hM, hw, hh⟩
theorem i_vc_pass {k : Nat} {u : SX} {v : SY} (I : i_Rel k u v) (hk : k + 4 ≤ 2048) (v1 : Int32) : wpX_pass (fun r u' => wpY_pass (fun r' v' => r' = r ∧ i_Rel (k + 4) u' v') v v1) u v1 := by
  have J := i_up I
  obtain ⟨T, R, q, on, due, per, rt, rk, who, wh, rfl, rfl, hT, hR, hM⟩ := I
  unfold wpX_pass wpY_pass
  dsimp only
  rcases tw_ix 1001 v1 with (h1 | ⟨n, hn, hn2, rfl⟩) | ⟨n, hn, hn2, rfl⟩
  · have h0 : v1 ≤ 0 := Int32.le_of_lt h1
    exact br_t h1 ⟨1, br_t h0 (br_t h1 ⟨rfl, J⟩)⟩
  · have a : ¬ nI n < 0 := nI_pos hn2
    have b : ¬ nI n ≤ 1000 := nI_ge (a := 1000) (by omega) hn2
    have c : ¬ nI n ≤ 0 := nI_nle (by omega) hn2
    have d : (1000 : Int32) < nI n := nI_lt (a := 1000) (by omega) hn2
    exact br_f a (br_f b ⟨1, br_f c (br_t d (br_f a (br_f b ⟨rfl, J⟩)))⟩)
  · obtain ⟨R', q', on', due', rt', rk', who', wh', h1, h2, h3, hX, hY, _⟩ := tw_go n R (by omega) per n 0 T R q on due rt rk who wh (by omega) (by omega) hM
    refine br_f (nI_pos hn2) (br_t (nI_le (b := 1000) (by omega) (by decide)) ?_)
    unfold wpX_letPass
    dsimp only
    refine ⟨n + 1, hX _ (n + 1) (by omega) ?_⟩
    dsimp only
    refine ⟨n + 1, hY _ (n + 1) 0 (by omega) ?_⟩
    rw [Nat.zero_add]
    exact ⟨rfl, T + n, R', q', on', due', per, rt', rk', who', wh', rfl, rfl, by omega, by omega, h3⟩
theorem tw_m2 {b : Nat} (h : b < 16) : ¬ nI b = -2 := fun e => nI_pos (n := b) (by omega) (by rw [e]; decide)
theorem i_vc_toNext {k : Nat} {u : SX} {v : SY} (I : i_Rel k u v) (hk : k + 4 ≤ 2048) : wpX_toNext (fun r u' => wpY_toNext (fun r' v' => r' = r ∧ i_Rel (k + 4) u' v') v) u := by
  have J := i_up I
  obtain ⟨T, R, q, on, due, per, rt, rk, who, wh, rfl, rfl, hT, hR, hM⟩ := I
  unfold wpX_toNext wpY_toNext
  dsimp only
  unfold wpX_next wpY_next
  dsimp only
  obtain ⟨r, hr, hX, hY⟩ := tw_next0 (R := R) (q := q) (rt := rt) (rk := rk) (who := who) (wh := wh) (by omega) hM.2.1 16 0 rfl
  refine ⟨17, hX _ ?_⟩
  rcases hr with rfl | ⟨b, hb, ob, rfl⟩
  · exact br_t rfl ⟨17, hY _ (br_f (by decide) ⟨rfl, J⟩)⟩
  · obtain ⟨f, ef, f1, f2, f3⟩ := (hM.2.1 b hb).2.2 ob
    have cb : (nI b).toNatClampNeg = b := nI_clamp (by omega)
    have hib : vp_in (nI b) 16 := vp_in_nI hb (by omega)
    have es : due (nI b).toNatClampNeg - nI T = nI (f - T) := by
      rw [cb, ef]
      exact pk_sub (by omega)
    obtain ⟨R', q', on', due', rt', rk', who', wh', h1, h2, h3, aX, _, aZ⟩ := tw_go (f - T) R (by omega) per (f - T) 0 T R q on due rt rk who wh (by omega) (by omega) hM
    refine br_f (tw_m2 hb) ⟨hib, nm_r es ?_⟩
    unfold wpX_letPass
    dsimp only
    refine ⟨f - T + 1, aX _ (f - T + 1) (by omega) ?_⟩
    dsimp only
    refine ⟨17, hY _ (br_t (nI_pos' (by omega)) ⟨hib, nm_r es ⟨f - T + 1, aZ _ (f - T + 1) (by omega) ?_⟩⟩)⟩
    exact ⟨rfl, T + (f - T), R', q', on', due', per, rt', rk', who', wh', rfl, rfl, by omega, by omega, h3⟩
theorem i_vc_now {k : Nat} {u : SX} {v : SY} (I : i_Rel k u v) (hk : k + 4 ≤ 2048) : wpX_now (fun r => wpY_now (fun r' => r' = r ∧ i_Rel (k + 4) u v) v) u := by
  have J := i_up I
  obtain ⟨T, R, q, on, due, per, rt, rk, who, wh, rfl, rfl, hT, hR, hM⟩ := I
  exact ⟨rfl, J⟩
theorem i_vc_timers {k : Nat} {u : SX} {v : SY} (I : i_Rel k u v) (hk : k + 4 ≤ 2048) : wpX_timers (fun r => wpY_timers (fun r' => r' = r ∧ i_Rel (k + 4) u v) v) u := by
  have J := i_up I
  obtain ⟨T, R, q, on, due, per, rt, rk, who, wh, rfl, rfl, hT, hR, hM⟩ := I
  unfold wpX_timers wpY_timers
  dsimp only
  obtain ⟨r, hX, hY⟩ := tw_timers (T := T) (R := R) (q := q) (on := on) (due := due) (per := per) (rt := rt) (rk := rk) (who := who) (wh := wh) 16 0 0 rfl
  exact ⟨17, hX _ ⟨17, hY _ ⟨rfl, J⟩⟩⟩
theorem i_vc_left {k : Nat} {u : SX} {v : SY} (I : i_Rel k u v) (hk : k + 4 ≤ 2048) (v1 : Int32) : wpX_left (fun r => wpY_left (fun r' => r' = r ∧ i_Rel (k + 4) u v) v v1) u v1 := by
  have J := i_up I
  obtain ⟨T, R, q, on, due, per, rt, rk, who, wh, rfl, rfl, hT, hR, hM⟩ := I
  unfold wpX_left wpY_left
  dsimp only
  rcases tw_ix 16 v1 with h1 | ⟨j, hj, _, rfl⟩
  · exact tw_xS0 h1 (br_t rfl (tw_yS0 h1 (br_t rfl ⟨rfl, J⟩)))
  have hi : vp_in (nI j) 16 := vp_in_nI hj (by omega)
  by_cases z : on j = 0
  · exact tw_xSn hj z (br_t rfl (tw_ySn hj z (br_t rfl ⟨rfl, J⟩)))
  · exact tw_xSy hj z (br_f tw_10 ⟨hi, tw_ySy hj z (br_f tw_10 ⟨hi, rfl, J⟩)⟩)
theorem i_vc_next {k : Nat} {u : SX} {v : SY} (I : i_Rel k u v) (hk : k + 4 ≤ 2048) : wpX_next (fun r => wpY_next (fun r' => r' = r ∧ i_Rel (k + 4) u v) v) u := by
  have J := i_up I
  obtain ⟨T, R, q, on, due, per, rt, rk, who, wh, rfl, rfl, hT, hR, hM⟩ := I
  unfold wpX_next wpY_next
  dsimp only
  obtain ⟨r, hr, hX, hY⟩ := tw_next0 (R := R) (q := q) (rt := rt) (rk := rk) (who := who) (wh := wh) (by omega) hM.2.1 16 0 rfl
  exact ⟨17, hX _ ⟨17, hY _ ⟨rfl, J⟩⟩⟩
theorem i_vc_within {k : Nat} {u : SX} {v : SY} (I : i_Rel k u v) (hk : k + 4 ≤ 2048) (v1 : Int32) : wpX_within (fun r => wpY_within (fun r' => r' = r ∧ i_Rel (k + 4) u v) v v1) u v1 := by
  have J := i_up I
  obtain ⟨T, R, q, on, due, per, rt, rk, who, wh, rfl, rfl, hT, hR, hM⟩ := I
  unfold wpX_within wpY_within
  dsimp only
  obtain ⟨r, hX, hY⟩ := tw_within (T := T) (R := R) (q := q) (on := on) (due := due) (per := per) (rt := rt) (rk := rk) (who := who) (wh := wh) v1 16 0 0 rfl
  exact ⟨17, hX _ ⟨17, hY _ ⟨rfl, J⟩⟩⟩
theorem i_vc_rings {k : Nat} {u : SX} {v : SY} (I : i_Rel k u v) (hk : k + 4 ≤ 2048) : wpX_rings (fun r => wpY_rings (fun r' => r' = r ∧ i_Rel (k + 4) u v) v) u := by
  have J := i_up I
  obtain ⟨T, R, q, on, due, per, rt, rk, who, wh, rfl, rfl, hT, hR, hM⟩ := I
  exact ⟨rfl, J⟩
/-- the place of the ring i before the last one -/
theorem tw_place {q i : Nat} (hq : q < 20) (hi : i < 20) : ((nI q - nI i) + 20) - ((nI q - nI i) + 20) / 20 * 20 = nI ((q + 20 - i) % 20) := by
  have e : (nI q - nI i) + 20 = nI (q + 20 - i) := by
    rw [← pk_sub (a := q + 20) (b := i) (by omega), ← nI_add, Int32.sub_eq_add_neg, Int32.sub_eq_add_neg, Int32.add_assoc (nI q), Int32.add_assoc (nI q), Int32.add_comm (-nI i)]
    rfl
  rw [e]
  exact pk_rem (d := 20) (by omega) (by omega) (by omega)
theorem i_vc_rung {k : Nat} {u : SX} {v : SY} (I : i_Rel k u v) (hk : k + 4 ≤ 2048) (v1 : Int32) : wpX_rung (fun r => wpY_rung (fun r' => r' = r ∧ i_Rel (k + 4) u v) v v1) u v1 := by
  have J := i_up I
  obtain ⟨T, R, q, on, due, per, rt, rk, who, wh, rfl, rfl, hT, hR, hq, hM, hw, hh⟩ := I
  unfold wpX_rung wpY_rung
  dsimp only
  unfold wpX_isNoted wpY_kept wpX_placeInRow
  dsimp only
  have l := tw_mn_le R
  by_cases h0 : v1 < 0
  · exact br_t h0 (br_t rfl (br_t h0 (br_t rfl ⟨rfl, J⟩)))
  obtain ⟨i, hi, rfl⟩ := nI_of h0
  by_cases h1 : i < tw_mn R
  · have h2 := (tw_mn_in i R).mp h1
    have e := tw_place (q := q) (i := i) hq (by omega)
    have c : (nI ((q + 20 - i) % 20)).toNatClampNeg = (q + 20 - i) % 20 := nI_clamp (by omega)
    have ci : (nI i).toNatClampNeg = i := nI_clamp hi
    have hv : vp_in (nI ((q + 20 - i) % 20)) 20 := vp_in_nI (by omega) (by omega)
    refine br_f h0 (br_f (nI_ge h1 (by omega)) (br_f tw_10 ⟨by decide, ?_⟩))
    rw [e]
    refine ⟨hv, br_f h0 (br_f (nI_nlt (a := 19) (by omega) (by decide)) (br_f (nI_ge h2.2 (by omega)) (br_f tw_10 ⟨vp_in_nI (by omega) (by omega), ?_, J⟩)))⟩
    rw [c, ci]
    exact hw i (by omega)
  · refine br_f h0 (br_t (nI_le (by omega) hi) (br_t rfl (br_f h0 ?_)))
    by_cases h2 : 19 < i
    · exact br_t (nI_lt (a := 19) h2 hi) (br_t rfl ⟨rfl, J⟩)
    · have h3 : R ≤ i := by
        by_cases y : i < R
        · exact absurd ((tw_mn_in i R).mpr ⟨by omega, y⟩) h1
        · omega
      exact br_f (nI_nlt (a := 19) (by omega) (by decide)) (br_t (nI_le h3 hi) (br_t rfl ⟨rfl, J⟩))
theorem i_vc_rungAt {k : Nat} {u : SX} {v : SY} (I : i_Rel k u v) (hk : k + 4 ≤ 2048) (v1 : Int32) : wpX_rungAt (fun r => wpY_rungAt (fun r' => r' = r ∧ i_Rel (k + 4) u v) v v1) u v1 := by
  have J := i_up I
  obtain ⟨T, R, q, on, due, per, rt, rk, who, wh, rfl, rfl, hT, hR, hq, hM, hw, hh⟩ := I
  unfold wpX_rungAt wpY_rungAt
  dsimp only
  unfold wpX_isNoted wpY_kept wpX_placeInRow
  dsimp only
  have l := tw_mn_le R
  by_cases h0 : v1 < 0
  · exact br_t h0 (br_t rfl (br_t h0 (br_t rfl ⟨rfl, J⟩)))
  obtain ⟨i, hi, rfl⟩ := nI_of h0
  by_cases h1 : i < tw_mn R
  · have h2 := (tw_mn_in i R).mp h1
    have e := tw_place (q := q) (i := i) hq (by omega)
    have c : (nI ((q + 20 - i) % 20)).toNatClampNeg = (q + 20 - i) % 20 := nI_clamp (by omega)
    have ci : (nI i).toNatClampNeg = i := nI_clamp hi
    have hv : vp_in (nI ((q + 20 - i) % 20)) 20 := vp_in_nI (by omega) (by omega)
    refine br_f h0 (br_f (nI_ge h1 (by omega)) (br_f tw_10 ⟨by decide, ?_⟩))
    rw [e]
    refine ⟨hv, br_f h0 (br_f (nI_nlt (a := 19) (by omega) (by decide)) (br_f (nI_ge h2.2 (by omega)) (br_f tw_10 ⟨vp_in_nI (by omega) (by omega), ?_, J⟩)))⟩
    rw [c, ci]
    exact hh i (by omega)
  · refine br_f h0 (br_t (nI_le (by omega) hi) (br_t rfl (br_f h0 ?_)))
    by_cases h2 : 19 < i
    · exact br_t (nI_lt (a := 19) h2 hi) (br_t rfl ⟨rfl, J⟩)
    · have h3 : R ≤ i := by
        by_cases y : i < R
        · exact absurd ((tw_mn_in i R).mpr ⟨by omega, y⟩) h1
        · omega
      exact br_f (nI_nlt (a := 19) (by omega) (by decide)) (br_t (nI_le h3 hi) (br_t rfl ⟨rfl, J⟩))
theorem i_vc_repeat {k : Nat} {u : SX} {v : SY} (I : i_Rel k u v) (hk : k + 4 ≤ 2048) (v1 : Int32) (v2 : Int32) : wpX_repeat (fun r u' => wpY_repeat (fun r' v' => r' = r ∧ i_Rel (k + 4) u' v') v v1 v2) u v1 v2 := by
  have J := i_up I
  obtain ⟨T, R, q, on, due, per, rt, rk, who, wh, rfl, rfl, hT, hR, hq, hM, hw, hh⟩ := I
  unfold wpX_repeat wpY_repeat
  dsimp only
  rcases tw_ix 16 v1 with h1 | ⟨j, hj, _, rfl⟩
  · exact tw_xS0 h1 (br_t rfl (tw_yS0 h1 (br_t rfl ⟨rfl, J⟩)))
  have c0 : (nI j).toNatClampNeg = j := nI_clamp (by omega)
  have hi : vp_in (nI j) 16 := vp_in_nI hj (by omega)
  by_cases z : on j = 0
  · exact tw_xSn hj z (br_t rfl (tw_ySn hj z (br_t rfl ⟨rfl, J⟩)))
  refine tw_xSy hj z (br_f tw_10 ?_)
  rcases tw_ix 501 v2 with h4 | ⟨p, hp, _, rfl⟩
  · refine tw_xP0 h4 (br_t rfl (tw_ySy hj z (br_f tw_10 ?_)))
    rcases h4 with h4 | ⟨p, hn, hp, rfl⟩
    · exact br_t h4 ⟨rfl, J⟩
    · exact br_f (nI_pos hp) (br_f (nI_ge (a := 500) (by omega) hp) ⟨rfl, J⟩)
  refine tw_xP1 hp (br_f tw_10 ⟨hi, nm_r (e' := upd per j (nI p)) (by rw [c0]) ?_⟩)
  refine tw_ySy hj z (br_f tw_10 (br_f (nI_pos (by omega)) (br_t (nI_le (b := 500) (by omega) (by decide)) ⟨hi, nm_r (e' := upd per j (nI p)) (by rw [c0]) ⟨rfl, ?_⟩⟩)))
  exact ⟨T, R, q, _, _, _, rt, rk, who, wh, rfl, rfl, by omega, hR, hq, tw_timPer hM (by omega), hw, hh⟩
theorem i_vc_period {k : Nat} {u : SX} {v : SY} (I : i_Rel k u v) (hk : k + 4 ≤ 2048) (v1 : Int32) : wpX_period (fun r => wpY_period (fun r' => r' = r ∧ i_Rel (k + 4) u v) v v1) u v1 := by
  have J := i_up I
  obtain ⟨T, R, q, on, due, per, rt, rk, who, wh, rfl, rfl, hT, hR, hM⟩ := I
  unfold wpX_period wpY_period
  dsimp only
  rcases tw_ix 16 v1 with h1 | ⟨j, hj, _, rfl⟩
  · exact tw_xS0 h1 (br_t rfl (tw_yS0 h1 (br_t rfl ⟨rfl, J⟩)))
  have hi : vp_in (nI j) 16 := vp_in_nI hj (by omega)
  by_cases z : on j = 0
  · exact tw_xSn hj z (br_t rfl (tw_ySn hj z (br_t rfl ⟨rfl, J⟩)))
  · exact tw_xSy hj z (br_f tw_10 ⟨hi, tw_ySy hj z (br_f tw_10 ⟨hi, rfl, J⟩)⟩)
