/-! the two states, and the small methods of both sides -/
abbrev tw_X (T R q : Nat) (on due per rt rk : Nat → Int32) : SX := (nI T, nI q, nI (tw_mn R), nI R, on, due, per, rt, rk)
abbrev tw_Y (T R : Nat) (on due per who wh : Nat → Int32) : SY := (nI T, nI R, on, due, per, who, wh)
theorem tw_b0 : vp_nar .boolean 0 = 0 := by decide
theorem tw_b1 : vp_nar .boolean 1 = 1 := by decide
theorem tw_10 : ¬ (1 : Int32) = 0 := by decide
/-- x is no number below n -/
def tw_out (n : Nat) (x : Int32) : Prop := x < 0 ∨ ∃ j : Nat, n ≤ j ∧ j < 2 ^ 31 ∧ x = nI j
theorem tw_ix (n : Nat) (x : Int32) : tw_out n x ∨ ∃ j : Nat, j < n ∧ j < 2 ^ 31 ∧ x = nI j := by
  by_cases h : x < 0
  · exact Or.inl (Or.inl h)
  · obtain ⟨j, hj, rfl⟩ := nI_of h
    by_cases g : j < n
    · exact Or.inr ⟨j, g, hj, rfl⟩
    · exact Or.inl (Or.inr ⟨j, by omega, hj, rfl⟩)
theorem tw_xT0 {post : Int32 → Prop} {x : Int32} (hx : tw_out 16 x) (h : post 0) : wpX_isTimer post x := by
  rcases hx with hx | ⟨j, hn, hj, rfl⟩
  · exact br_t hx h
  · exact br_f (nI_pos hj) (br_t (nI_le (a := 16) hn hj) h)
theorem tw_xT1 {post : Int32 → Prop} {j : Nat} (hj : j < 16) (h : post 1) : wpX_isTimer post (nI j) :=
  br_f (nI_pos (by omega)) (br_f (nI_ge (b := 16) hj (by decide)) h)
theorem tw_xP0 {post : Int32 → Prop} {x : Int32} (hx : tw_out 501 x) (h : post 0) : wpX_isPeriod post x := by
  rcases hx with hx | ⟨j, hn, hj, rfl⟩
  · exact br_t hx h
  · exact br_f (nI_pos hj) (br_t (nI_lt (a := 500) (by omega) hj) h)
theorem tw_xP1 {post : Int32 → Prop} {j : Nat} (hj : j < 501) (h : post 1) : wpX_isPeriod post (nI j) :=
  br_f (nI_pos (by omega)) (br_f (nI_nlt (a := 500) (by omega) (by decide)) h)
section
variable {T R q : Nat} {on due per rt rk who wh : Nat → Int32}
theorem tw_xS0 {post : Int32 → Prop} {x : Int32} (hx : tw_out 16 x) (h : post 0) : wpX_isTimerSet post (tw_X T R q on due per rt rk) x := by
  unfold wpX_isTimerSet
  dsimp only
  exact tw_xT0 hx (br_t rfl h)
theorem tw_xSn {post : Int32 → Prop} {j : Nat} (hj : j < 16) (z : on j = 0) (h : post 0) : wpX_isTimerSet post (tw_X T R q on due per rt rk) (nI j) := by
  unfold wpX_isTimerSet
  dsimp only
  have c : (nI j).toNatClampNeg = j := nI_clamp (by omega)
  exact tw_xT1 hj (br_f tw_10 ⟨vp_in_nI hj (by omega), br_t (by rw [c]; exact z) h⟩)
theorem tw_xSy {post : Int32 → Prop} {j : Nat} (hj : j < 16) (z : ¬ on j = 0) (h : post 1) : wpX_isTimerSet post (tw_X T R q on due per rt rk) (nI j) := by
  unfold wpX_isTimerSet
  dsimp only
  have c : (nI j).toNatClampNeg = j := nI_clamp (by omega)
  exact tw_xT1 hj (br_f tw_10 ⟨vp_in_nI hj (by omega), br_f (by rw [c]; exact z) h⟩)
theorem tw_yS0 {post : Int32 → Prop} {x : Int32} (hx : tw_out 16 x) (h : post 0) : wpY_is post (tw_Y T R on due per who wh) x := by
  unfold wpY_is
  dsimp only
  rcases hx with hx | ⟨j, hn, hj, rfl⟩
  · exact br_t hx h
  · exact br_f (nI_pos hj) (br_t (nI_lt (a := 15) (by omega) hj) h)
theorem tw_ySn {post : Int32 → Prop} {j : Nat} (hj : j < 16) (z : on j = 0) (h : post 0) : wpY_is post (tw_Y T R on due per who wh) (nI j) := by
  unfold wpY_is
  dsimp only
  have c : (nI j).toNatClampNeg = j := nI_clamp (by omega)
  exact br_f (nI_pos (by omega)) (br_f (nI_nlt (a := 15) (by omega) (by decide)) ⟨vp_in_nI hj (by omega), br_t (by rw [c]; exact z) h⟩)
theorem tw_ySy {post : Int32 → Prop} {j : Nat} (hj : j < 16) (z : ¬ on j = 0) (h : post 1) : wpY_is post (tw_Y T R on due per who wh) (nI j) := by
  unfold wpY_is
  dsimp only
  have c : (nI j).toNatClampNeg = j := nI_clamp (by omega)
  exact br_f (nI_pos (by omega)) (br_f (nI_nlt (a := 15) (by omega) (by decide)) ⟨vp_in_nI hj (by omega), br_f (by rw [c]; exact z) h⟩)
/-- a ring is noted -/
theorem tw_xNote {post : SX → Prop} {j : Nat} (hq : q < 20)
    (h : post (tw_X T (R + 1) ((q + 1) % 20) on due per (upd rt ((q + 1) % 20) (nI j)) (upd rk ((q + 1) % 20) (nI T)))) :
    wpX_note post (tw_X T R q on due per rt rk) (nI j) := by
  unfold wpX_note
  dsimp only
  have e : (nI q + 1) - (nI q + 1) / 20 * 20 = nI ((q + 1) % 20) := by
    rw [nI_1]
    exact pk_rem (d := 20) (by omega) (by omega) (by omega)
  have hi : vp_in (nI ((q + 1) % 20)) 20 := vp_in_nI (by omega) (by omega)
  have c : (nI ((q + 1) % 20)).toNatClampNeg = (q + 1) % 20 := nI_clamp (by omega)
  refine nm_r (nI_1 R) ⟨by decide, nm_r e ⟨hi, nm_r (e' := upd rt ((q + 1) % 20) (nI j)) (by rw [c]) ⟨hi, nm_r (e' := upd rk ((q + 1) % 20) (nI T)) (by rw [c]) ?_⟩⟩⟩
  by_cases m : tw_mn R < 20
  · exact br_f (nI_ge (b := 20) m (by decide)) (nm_r (e' := nI (tw_mn (R + 1))) (by rw [nI_1, tw_mn_lt m]) h)
  · have l := tw_mn_le R
    refine br_t (nI_le (a := 20) (by omega) (by omega)) ?_
    rw [tw_mn_ge m]
    exact h
theorem tw_xAgain0 {post : SX → Prop} {j : Nat} (hj : j < 16) (hp : per j = 0)
    (h : post (tw_X T R q (upd on j 0) due per rt rk)) : wpX_setAgain post (tw_X T R q on due per rt rk) (nI j) := by
  unfold wpX_setAgain
  dsimp only
  have c : (nI j).toNatClampNeg = j := nI_clamp (by omega)
  have hi : vp_in (nI j) 16 := vp_in_nI hj (by omega)
  exact ⟨hi, br_t (by rw [c]; exact hp) ⟨hi, nm_r (e' := upd on j 0) (by rw [c, tw_b0]) h⟩⟩
theorem tw_xAgain1 {post : SX → Prop} {j p : Nat} (hj : j < 16) (hp : per j = nI p) (h1 : 1 ≤ p) (h2 : p ≤ 500)
    (h : post (tw_X T R q on (upd due j (nI (T + p))) per rt rk)) : wpX_setAgain post (tw_X T R q on due per rt rk) (nI j) := by
  unfold wpX_setAgain
  dsimp only
  have c : (nI j).toNatClampNeg = j := nI_clamp (by omega)
  have hi : vp_in (nI j) 16 := vp_in_nI hj (by omega)
  exact ⟨hi, br_f (by rw [c, hp]; exact nI_ne0 (by omega) (by omega)) ⟨hi, hi, nm_r (e' := upd due j (nI (T + p))) (by rw [c, hp, nI_add]) h⟩⟩
/-- the reference's ring: its rows move on by one -/
theorem tw_yRing3 {post : SY → Prop} {j : Nat} {b : Int32} (hj : j < 16) (hb : (per j ≤ 0 ∧ b = 0) ∨ (¬ per j ≤ 0 ∧ b = 1)) :
    ∀ (i n : Nat) (who wh : Nat → Int32), i < 20 → i < n →
    post (tw_Y T (R + 1) (upd on j b) (upd due j (due j + per j)) per (upd (tw_sh who i) 0 (nI j)) (upd (tw_sh wh i) 0 (nI T))) →
    wY_ring_3 post (nI j) (nI T) (nI R) n (nI i) on due per who wh := by
  have c : (nI j).toNatClampNeg = j := nI_clamp (by omega)
  have hi : vp_in (nI j) 16 := vp_in_nI hj (by omega)
  intro i
  induction i with
  | zero =>
    intro n who wh _ hn h
    rw [tw_sh0, tw_sh0] at h
    obtain ⟨m, rfl⟩ : ∃ m, n = m + 1 := ⟨n - 1, by omega⟩
    refine br_t (by decide) (nm_e (nm_e (nm_r (nI_1 R) ⟨hi, ?_⟩)))
    rcases hb with ⟨hb, rfl⟩ | ⟨hb, rfl⟩
    · exact br_t (by rw [c]; exact hb) ⟨hi, nm_r (e' := upd on j 0) (by rw [c, tw_b0]) ⟨hi, hi, hi, nm_r (e' := upd due j (due j + per j)) (by rw [c]) h⟩⟩
    · exact br_f (by rw [c]; exact hb) ⟨hi, nm_r (e' := upd on j 1) (by rw [c, tw_b1]) ⟨hi, hi, hi, nm_r (e' := upd due j (due j + per j)) (by rw [c]) h⟩⟩
  | succ i ih =>
    intro n who wh hi2 hn h
    obtain ⟨m, rfl⟩ : ∃ m, n = m + 1 := ⟨n - 1, by omega⟩
    have d0 : vp_in (nI (i + 1) - 1) 20 := by
      rw [nI_pred]
      exact vp_in_nI (by omega) (by omega)
    have d1 : vp_in (nI (i + 1)) 20 := vp_in_nI (by omega) (by omega)
    have c1 : (nI (i + 1)).toNatClampNeg = i + 1 := nI_clamp (by omega)
    have c0 : (nI (i + 1) - 1).toNatClampNeg = i := by
      rw [nI_pred]
      exact nI_clamp (by omega)
    refine br_f (nI_nle (by omega) (by omega)) ⟨d0, d1, nm_r (e' := upd who (i + 1) (who i)) (by rw [c1, c0]) ⟨d0, d1, nm_r (e' := upd wh (i + 1) (wh i)) (by rw [c1, c0]) (nm_r (pk_m1 i) (ih m _ _ (by omega) (by omega) ?_))⟩⟩
    rw [tw_shs, tw_shs]
    exact h
theorem tw_yRing {post : SY → Prop} {j : Nat} {b : Int32} (hj : j < 16) (hb : (per j ≤ 0 ∧ b = 0) ∨ (¬ per j ≤ 0 ∧ b = 1))
    (h : post (tw_Y T (R + 1) (upd on j b) (upd due j (due j + per j)) per (upd (tw_sh who 19) 0 (nI j)) (upd (tw_sh wh 19) 0 (nI T)))) :
    wpY_ring post (tw_Y T R on due per who wh) (nI j) :=
  ⟨20, tw_yRing3 hj hb 19 20 who wh (by omega) (by omega) h⟩
end
