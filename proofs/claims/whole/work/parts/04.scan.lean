/-! the scans over the sixteen timers: timers, within, next -/
section
variable {T R q : Nat} {on due per rt rk who wh : Nat → Int32}
theorem tw_timers : ∀ (d j : Nat) (b : Int32), j + d = 16 →
    ∃ r : Int32, (∀ post : Int32 → Prop, post r → wX_timers_4 post (nI T) (nI q) (nI (tw_mn R)) (nI R) on due per rt rk (d + 1) b (nI j)) ∧
      (∀ post : Int32 → Prop, post r → wY_timers_4 post (nI T) (nI R) on due per who wh (d + 1) b (nI j)) := by
  intro d
  induction d with
  | zero =>
    intro j b hd
    obtain rfl : j = 16 := by omega
    exact ⟨b, fun _ h => br_t (by decide) h, fun _ h => br_t (by decide) h⟩
  | succ d ih =>
    intro j b hd
    have hj : j < 16 := by omega
    have c0 : (nI j).toNatClampNeg = j := nI_clamp (by omega)
    have hi : vp_in (nI j) 16 := vp_in_nI hj (by omega)
    have hg : ¬ (16 : Int32) ≤ nI j := nI_ge (b := 16) hj (by decide)
    by_cases z : on j = 0
    · obtain ⟨r, hX, hY⟩ := ih (j + 1) b (by omega)
      exact ⟨r, fun post h => br_f hg ⟨hi, br_t (by rw [c0]; exact z) (nm_r (nI_1 j) (hX post h))⟩,
        fun post h => br_f hg ⟨hi, br_t (by rw [c0]; exact z) (nm_r (nI_1 j) (hY post h))⟩⟩
    · obtain ⟨r, hX, hY⟩ := ih (j + 1) (b ||| ((1 : Int32) <<< (nI j &&& 31))) (by omega)
      exact ⟨r, fun post h => br_f hg ⟨hi, br_f (by rw [c0]; exact z) (nm_e (nm_r (nI_1 j) (hX post h)))⟩,
        fun post h => br_f hg ⟨hi, br_f (by rw [c0]; exact z) (nm_e (nm_r (nI_1 j) (hY post h)))⟩⟩
theorem tw_within (x : Int32) : ∀ (d j : Nat) (b : Int32), j + d = 16 →
    ∃ r : Int32, (∀ post : Int32 → Prop, post r → wX_within_4 post x (nI T) (nI q) (nI (tw_mn R)) (nI R) on due per rt rk (d + 1) b (nI j)) ∧
      (∀ post : Int32 → Prop, post r → wY_within_4 post x (nI T) (nI R) on due per who wh (d + 1) b (nI j)) := by
  intro d
  induction d with
  | zero =>
    intro j b hd
    obtain rfl : j = 16 := by omega
    exact ⟨b, fun _ h => br_t (by decide) h, fun _ h => br_t (by decide) h⟩
  | succ d ih =>
    intro j b hd
    have hj : j < 16 := by omega
    have c0 : (nI j).toNatClampNeg = j := nI_clamp (by omega)
    have hi : vp_in (nI j) 16 := vp_in_nI hj (by omega)
    have hg : ¬ (16 : Int32) ≤ nI j := nI_ge (b := 16) hj (by decide)
    by_cases z : on j = 0
    · obtain ⟨r, hX, hY⟩ := ih (j + 1) b (by omega)
      exact ⟨r, fun post h => br_f hg ⟨hi, br_t (by rw [c0]; exact z) (nm_r (nI_1 j) (hX post h))⟩,
        fun post h => br_f hg ⟨hi, br_t (by rw [c0]; exact z) (nm_r (nI_1 j) (hY post h))⟩⟩
    · by_cases y : x < due j - nI T
      · obtain ⟨r, hX, hY⟩ := ih (j + 1) b (by omega)
        exact ⟨r, fun post h => br_f hg ⟨hi, br_f (by rw [c0]; exact z) ⟨hi, br_t (by rw [c0]; exact y) (nm_r (nI_1 j) (hX post h))⟩⟩,
          fun post h => br_f hg ⟨hi, br_f (by rw [c0]; exact z) ⟨hi, br_t (by rw [c0]; exact y) (nm_r (nI_1 j) (hY post h))⟩⟩⟩
      · obtain ⟨r, hX, hY⟩ := ih (j + 1) (b + 1) (by omega)
        exact ⟨r, fun post h => br_f hg ⟨hi, br_f (by rw [c0]; exact z) ⟨hi, br_f (by rw [c0]; exact y) (nm_e (nm_r (nI_1 j) (hX post h)))⟩⟩,
          fun post h => br_f hg ⟨hi, br_f (by rw [c0]; exact z) ⟨hi, br_f (by rw [c0]; exact y) (nm_e (nm_r (nI_1 j) (hY post h)))⟩⟩⟩
/-- from a best timer b on -/
theorem tw_next1 (hT : T < 2 ^ 29) (hM : tw_Tim T 16 on due per) : ∀ (d j b e : Nat), j + d = 16 → b < 16 → ¬ on b = 0 → due b = nI e → T < e → e ≤ T + 500 →
    ∃ r : Nat, r < 16 ∧ ¬ on r = 0 ∧ (∀ post : Int32 → Prop, post (nI r) → wX_next_9 post (nI T) (nI q) (nI (tw_mn R)) (nI R) on due per rt rk (d + 1) (nI b) (nI (e - T)) (nI j)) ∧
      (∀ post : Int32 → Prop, post (nI r) → wY_next_5 post (nI T) (nI R) on due per who wh (d + 1) (nI b) (nI j)) := by
  intro d
  induction d with
  | zero =>
    intro j b e hd hb ob _ _ _
    obtain rfl : j = 16 := by omega
    exact ⟨b, hb, ob, fun _ h => br_t (by decide) h, fun _ h => br_t (by decide) h⟩
  | succ d ih =>
    intro j b e hd hb ob eb e1 e2
    have hj : j < 16 := by omega
    have c0 : (nI j).toNatClampNeg = j := nI_clamp (by omega)
    have cb : (nI b).toNatClampNeg = b := nI_clamp (by omega)
    have hi : vp_in (nI j) 16 := vp_in_nI hj (by omega)
    have hib : vp_in (nI b) 16 := vp_in_nI hb (by omega)
    have hg : ¬ (16 : Int32) ≤ nI j := nI_ge (b := 16) hj (by decide)
    by_cases z : on j = 0
    · obtain ⟨r, r1, r2, hX, hY⟩ := ih (j + 1) b e (by omega) hb ob eb e1 e2
      exact ⟨r, r1, r2, fun post h => br_f hg ⟨hi, br_t (by rw [c0]; exact z) (nm_r (nI_1 j) (hX post h))⟩,
        fun post h => br_f hg ⟨hi, br_t (by rw [c0]; exact z) (nm_r (nI_1 j) (hY post h))⟩⟩
    · obtain ⟨f, ef, f1, f2, f3⟩ := (hM j hj).2.2 z
      have f4 : T < f := f3 hj
      have es : due j - nI T = nI (f - T) := by
        rw [ef]
        exact pk_sub (by omega)
      by_cases y : e ≤ f
      · obtain ⟨r, r1, r2, hX, hY⟩ := ih (j + 1) b e (by omega) hb ob eb e1 e2
        refine ⟨r, r1, r2, fun post h => br_f hg ⟨hi, br_f (by rw [c0]; exact z) ⟨hi, br_t ?_ (nm_r (nI_1 j) (hX post h))⟩⟩,
          fun post h => br_f hg ⟨hi, br_f (by rw [c0]; exact z) (br_f (nI_pos (by omega)) ⟨hi, hib, br_t ?_ (nm_r (nI_1 j) (hY post h))⟩)⟩⟩
        · rw [c0, es]
          exact nI_le (by omega) (by omega)
        · rw [c0, cb, eb, ef]
          exact nI_le (by omega) (by omega)
      · obtain ⟨r, r1, r2, hX, hY⟩ := ih (j + 1) j f (by omega) hj z ef f4 f2
        refine ⟨r, r1, r2, fun post h => br_f hg ⟨hi, br_f (by rw [c0]; exact z) ⟨hi, br_f ?_ ⟨hi, nm_r (e' := nI (f - T)) (by rw [c0, es]) (nm_r (nI_1 j) (hX post h))⟩⟩⟩,
          fun post h => br_f hg ⟨hi, br_f (by rw [c0]; exact z) (br_f (nI_pos (by omega)) ⟨hi, hib, br_f ?_ (nm_r (nI_1 j) (hY post h))⟩)⟩⟩
        · rw [c0, es]
          exact nI_ge (by omega) (by omega)
        · rw [c0, cb, eb, ef]
          exact nI_ge (by omega) (by omega)
/-- no timer found so far -/
theorem tw_next0 (hT : T < 2 ^ 29) (hM : tw_Tim T 16 on due per) : ∀ (d j : Nat), j + d = 16 →
    ∃ r : Int32, (r = -2 ∨ ∃ b : Nat, b < 16 ∧ ¬ on b = 0 ∧ r = nI b) ∧ (∀ post : Int32 → Prop, post r → wX_next_9 post (nI T) (nI q) (nI (tw_mn R)) (nI R) on due per rt rk (d + 1) (-2) 501 (nI j)) ∧
      (∀ post : Int32 → Prop, post r → wY_next_5 post (nI T) (nI R) on due per who wh (d + 1) (-2) (nI j)) := by
  intro d
  induction d with
  | zero =>
    intro j hd
    obtain rfl : j = 16 := by omega
    exact ⟨-2, Or.inl rfl, fun _ h => br_t (by decide) h, fun _ h => br_t (by decide) h⟩
  | succ d ih =>
    intro j hd
    have hj : j < 16 := by omega
    have c0 : (nI j).toNatClampNeg = j := nI_clamp (by omega)
    have hi : vp_in (nI j) 16 := vp_in_nI hj (by omega)
    have hg : ¬ (16 : Int32) ≤ nI j := nI_ge (b := 16) hj (by decide)
    by_cases z : on j = 0
    · obtain ⟨r, hr, hX, hY⟩ := ih (j + 1) (by omega)
      exact ⟨r, hr, fun post h => br_f hg ⟨hi, br_t (by rw [c0]; exact z) (nm_r (nI_1 j) (hX post h))⟩,
        fun post h => br_f hg ⟨hi, br_t (by rw [c0]; exact z) (nm_r (nI_1 j) (hY post h))⟩⟩
    · obtain ⟨f, ef, f1, f2, f3⟩ := (hM j hj).2.2 z
      have f4 : T < f := f3 hj
      have es : due j - nI T = nI (f - T) := by
        rw [ef]
        exact pk_sub (by omega)
      obtain ⟨r, r1, r2, hX, hY⟩ := tw_next1 (R := R) (q := q) (rt := rt) (rk := rk) (who := who) (wh := wh) hT hM d (j + 1) j f (by omega) hj z ef f4 f2
      refine ⟨nI r, Or.inr ⟨r, r1, r2, rfl⟩, fun post h => br_f hg ⟨hi, br_f (by rw [c0]; exact z) ⟨hi, br_f ?_ ⟨hi, nm_r (e' := nI (f - T)) (by rw [c0, es]) (nm_r (nI_1 j) (hX post h))⟩⟩⟩,
        fun post h => br_f hg ⟨hi, br_f (by rw [c0]; exact z) (br_t (by decide) (nm_r (nI_1 j) (hY post h)))⟩⟩
      rw [c0, es]
      exact nI_ge (b := 501) (by omega) (by decide)
end
