section
theorem pk_us {f : Nat → Int32} {k : Nat} {x : Int32} : upd f k x k = x := if_pos rfl
theorem pk_un {f : Nat → Int32} {k j : Nat} {x : Int32} (h : j ≠ k) : upd f k x j = f j := if_neg h
theorem pk_sub {a b : Nat} (h : b ≤ a) : nI a - nI b = nI (a - b) := by
  obtain ⟨c, rfl⟩ : ∃ c, a = c + b := ⟨a - b, by omega⟩
  rw [← nI_add, Int32.add_sub_cancel, Nat.add_sub_cancel]
theorem pk_m1 (n : Nat) : nI (n + 1) + (-1) = nI n := by
  rw [← nI_1, Int32.add_assoc, show (1 : Int32) + (-1) = 0 from rfl, Int32.add_zero]
theorem pk_mul (a b : Nat) : nI a * nI b = nI (a * b) := (Int32.ofNat_mul a b).symm
theorem pk_div {a d : Nat} (ha : a < 2 ^ 31) (h0 : 0 < d) (hd : d < 2 ^ 31) : nI a / nI d = nI (a / d) := by
  apply Int32.toInt_inj.mp
  rw [lg_idiv_nonneg (by rw [nI_toInt ha]; omega) (by rw [nI_toInt hd]; omega), nI_toInt ha, nI_toInt hd, nI_toInt (Nat.lt_of_le_of_lt (Nat.div_le_self a d) ha)]
  first | rfl | exact (Int.natCast_ediv _ _).symm
theorem pk_rem {a d : Nat} (ha : a < 2 ^ 31) (h0 : 0 < d) (hd : d < 2 ^ 31) : nI a - nI a / nI d * nI d = nI (a % d) := by
  rw [pk_div ha h0 hd, pk_mul, pk_sub (Nat.div_mul_le_self a d)]
  exact congrArg nI (by have := Nat.div_add_mod' a d; omega)
theorem pk_sub_toInt {a b : Nat} (ha : a < 2 ^ 30) (hb : b < 2 ^ 30) : (nI a - nI b).toInt = (a : Int) - b := by
  rw [Int32.toInt_sub, nI_toInt (by omega), nI_toInt (by omega)]
  exact Int.bmod_eq_of_le (by omega) (by omega)
theorem pk_le {x y : Int32} {A B : Prop} (a b : Nat) (f : a ≤ b → A) (g : b < a → B) (hx : x = nI a := by rfl) (hy : y = nI b := by rfl) (ha : a < 2 ^ 31 := by omega) (hb : b < 2 ^ 31 := by omega) : (x ≤ y → A) ∧ (¬ x ≤ y → B) := by
  subst hx hy
  rw [nI_leI ha hb]
  exact ⟨f, fun z => g (by omega)⟩
theorem pk_lt {x y : Int32} {A B : Prop} (a b : Nat) (f : a < b → A) (g : b ≤ a → B) (hx : x = nI a := by rfl) (hy : y = nI b := by rfl) (ha : a < 2 ^ 31 := by omega) (hb : b < 2 ^ 31 := by omega) : (x < y → A) ∧ (¬ x < y → B) := by
  subst hx hy
  rw [nI_ltI ha hb]
  exact ⟨f, fun z => g (by omega)⟩
theorem pk_eq {x y : Int32} {A B : Prop} (a b : Nat) (f : a = b → A) (g : a ≠ b → B) (hx : x = nI a := by rfl) (hy : y = nI b := by rfl) (ha : a < 2 ^ 31 := by omega) (hb : b < 2 ^ 31 := by omega) : (x = y → A) ∧ (¬ x = y → B) := by
  subst hx hy
  rw [nI_eq ha hb]
  exact ⟨f, g⟩
theorem pk_in {x : Int32} (n N : Nat) (h : n < N) (hx : x = nI n := by rfl) (hN : N < 2 ^ 31 := by omega) : vp_in x N := by
  subst hx
  exact vp_in_nI h hN
theorem pk_cl {x : Int32} (n : Nat) (hx : x = nI n := by rfl) (h : n < 2 ^ 31 := by omega) : x.toNatClampNeg = n := by
  subst hx
  exact nI_clamp h

/-! the timers and the row of rings, by themselves -/
theorem tw_same {f : Nat → Int32} {k : Nat} {x : Int32} (h : f k = x) : upd f k x = f := by
  funext j
  by_cases e : j = k
  · subst e
    rw [pk_us]
    exact h.symm
  · rw [pk_un e]
/-- the row w moved on by one, up to place i -/
def tw_sh (w : Nat → Int32) (i : Nat) : Nat → Int32 := fun j => if 1 ≤ j ∧ j ≤ i then w (j - 1) else w j
theorem tw_sh0 (w : Nat → Int32) : tw_sh w 0 = w := by
  funext j
  show (if 1 ≤ j ∧ j ≤ 0 then w (j - 1) else w j) = w j
  rw [if_neg (by omega)]
theorem tw_shs (w : Nat → Int32) (i : Nat) : tw_sh (upd w (i + 1) (w i)) i = tw_sh w (i + 1) := by
  funext j
  show (if 1 ≤ j ∧ j ≤ i then upd w (i + 1) (w i) (j - 1) else upd w (i + 1) (w i) j) = (if 1 ≤ j ∧ j ≤ i + 1 then w (j - 1) else w j)
  by_cases h : 1 ≤ j ∧ j ≤ i
  · rw [if_pos h, if_pos (by omega), pk_un (by omega)]
  · rw [if_neg h]
    by_cases e : j = i + 1
    · subst e
      rw [pk_us, if_pos (by omega)]
      rfl
    · rw [pk_un e, if_neg (by omega)]
/-- the reference's row who is the component's circle rt, read backwards from q -/
def tw_Row (q : Nat) (rt who : Nat → Int32) : Prop := ∀ i, i < 20 → who i = rt ((q + 20 - i) % 20)
theorem tw_row0 : tw_Row 0 (fun _ => 0) (fun _ => 0) := fun _ _ => rfl
theorem tw_row {q : Nat} {rt who : Nat → Int32} (h : tw_Row q rt who) (hq : q < 20) (x : Int32) :
    tw_Row ((q + 1) % 20) (upd rt ((q + 1) % 20) x) (upd (tw_sh who 19) 0 x) := by
  intro i hi
  by_cases e : i = 0
  · subst e
    rw [pk_us, show ((q + 1) % 20 + 20 - 0) % 20 = (q + 1) % 20 by omega, pk_us]
  · rw [pk_un e, pk_un (by omega)]
    show (if 1 ≤ i ∧ i ≤ 19 then who (i - 1) else who i) = _
    rw [if_pos (by omega), h (i - 1) (by omega)]
    exact congrArg rt (by omega)
/-- the sixteen timers at time T, those below j have been looked at in this tick -/
def tw_Tim (T j : Nat) (on due per : Nat → Int32) : Prop :=
  ∀ i, i < 16 → (on i = 0 ∨ on i = 1) ∧ (∃ p, p ≤ 500 ∧ per i = nI p) ∧ (¬ on i = 0 → ∃ d, due i = nI d ∧ T ≤ d ∧ d ≤ T + 500 ∧ (i < j → T < d))
theorem tw_tim0 : tw_Tim 0 16 (fun _ => 0) (fun _ => 0) (fun _ => 0) := fun _ _ =>
  ⟨Or.inl rfl, ⟨0, by omega, rfl⟩, fun h => absurd rfl h⟩
theorem tw_timT {T : Nat} {on due per : Nat → Int32} (h : tw_Tim T 16 on due per) : tw_Tim (T + 1) 0 on due per := by
  intro i hi
  obtain ⟨h1, h2, h3⟩ := h i hi
  refine ⟨h1, h2, fun z => ?_⟩
  obtain ⟨d, e, a, b, c⟩ := h3 z
  have := c hi
  exact ⟨d, e, by omega, by omega, fun y => absurd y (by omega)⟩
theorem tw_timSet {T k d p : Nat} {on due per : Nat → Int32} (h : tw_Tim T 16 on due per) (hd : 1 ≤ d) (hd2 : d ≤ 500) (hp : p ≤ 500) :
    tw_Tim T 16 (upd on k 1) (upd due k (nI (T + d))) (upd per k (nI p)) := by
  intro i hi
  by_cases e : i = k
  · subst e
    rw [pk_us, pk_us, pk_us]
    exact ⟨Or.inr rfl, ⟨p, hp, rfl⟩, fun _ => ⟨T + d, rfl, by omega, by omega, fun _ => by omega⟩⟩
  · rw [pk_un e, pk_un e, pk_un e]
    exact h i hi
theorem tw_timOff {T k : Nat} {on due per : Nat → Int32} (h : tw_Tim T 16 on due per) : tw_Tim T 16 (upd on k 0) due per := by
  intro i hi
  by_cases e : i = k
  · subst e
    rw [pk_us]
    exact ⟨Or.inl rfl, (h i hi).2.1, fun z => absurd rfl z⟩
  · rw [pk_un e]
    exact h i hi
theorem tw_timPer {T k p : Nat} {on due per : Nat → Int32} (h : tw_Tim T 16 on due per) (hp : p ≤ 500) : tw_Tim T 16 on due (upd per k (nI p)) := by
  intro i hi
  by_cases e : i = k
  · subst e
    rw [pk_us]
    exact ⟨(h i hi).1, ⟨p, hp, rfl⟩, (h i hi).2.2⟩
  · rw [pk_un e]
    exact h i hi
/-- a timer that isn't set, or is not due, is passed over -/
theorem tw_timNo {T j : Nat} {on due per : Nat → Int32} (h : tw_Tim T j on due per) (hn : ¬ on j = 0 → ¬ due j = nI T) : tw_Tim T (j + 1) on due per := by
  intro i hi
  obtain ⟨h1, h2, h3⟩ := h i hi
  refine ⟨h1, h2, fun z => ?_⟩
  obtain ⟨d, e, a, b, c⟩ := h3 z
  refine ⟨d, e, a, b, fun y => ?_⟩
  by_cases g : i = j
  · subst g
    by_cases k : d = T
    · subst k
      exact absurd e (hn z)
    · omega
  · exact c (by omega)
/-- a timer with no period rings -/
theorem tw_timR0 {T j : Nat} {on due per : Nat → Int32} (h : tw_Tim T j on due per) : tw_Tim T (j + 1) (upd on j 0) due per := by
  intro i hi
  by_cases e : i = j
  · subst e
    rw [pk_us]
    exact ⟨Or.inl rfl, (h i hi).2.1, fun z => absurd rfl z⟩
  · rw [pk_un e]
    obtain ⟨h1, h2, h3⟩ := h i hi
    refine ⟨h1, h2, fun z => ?_⟩
    obtain ⟨d, e, a, b, c⟩ := h3 z
    exact ⟨d, e, a, b, fun y => c (by omega)⟩
/-- a timer with a period rings -/
theorem tw_timR1 {T j p : Nat} {on due per : Nat → Int32} (h : tw_Tim T j on due per) (hp : 1 ≤ p) (hp2 : p ≤ 500) : tw_Tim T (j + 1) on (upd due j (nI (T + p))) per := by
  intro i hi
  by_cases e : i = j
  · subst e
    rw [pk_us]
    exact ⟨(h i hi).1, (h i hi).2.1, fun _ => ⟨T + p, rfl, by omega, by omega, fun _ => by omega⟩⟩
  · rw [pk_un e]
    obtain ⟨h1, h2, h3⟩ := h i hi
    refine ⟨h1, h2, fun z => ?_⟩
    obtain ⟨d, e, a, b, c⟩ := h3 z
    exact ⟨d, e, a, b, fun y => c (by omega)⟩
/-- the number of rings that the row keeps -/
def tw_mn (R : Nat) : Nat := if R < 20 then R else 20
theorem tw_mn_lt {R : Nat} (h : tw_mn R < 20) : tw_mn R + 1 = tw_mn (R + 1) := by
  unfold tw_mn at *
  split at h
  · rw [if_pos (by assumption)]
    split <;> omega
  · omega
theorem tw_mn_ge {R : Nat} (h : ¬ tw_mn R < 20) : tw_mn R = tw_mn (R + 1) := by
  unfold tw_mn at *
  split at h
  · omega
  · rw [if_neg (by assumption), if_neg (by omega)]
theorem tw_mn_le (R : Nat) : tw_mn R ≤ 20 := by
  unfold tw_mn
  split <;> omega
theorem tw_mn_in (i R : Nat) : i < tw_mn R ↔ i ≤ 19 ∧ i < R := by
  unfold tw_mn
  split <;> omega
end
section
/-! the two states, and the small methods of both sides -/
abbrev tw_X (T R q : Nat) (on due per rt rk : Nat → Int32) : SX := (nI T, nI q, nI (tw_mn R), nI R, on, due, per, rt, rk)
abbrev tw_Y (T R : Nat) (on due per who wh : Nat → Int32) : SY := (nI T, nI R, on, due, per, who, wh)
theorem tw_b0 : vp_nar .boolean 0 = 0 := by decide
theorem tw_b1 : vp_nar .boolean 1 = 1 := by decide
theorem tw_10 : ¬ (1 : Int32) = 0 := by decide
/-- x is no number below n -/
def tw_out (n : Nat) (x : Int32) : Prop := x < 0 ∨ ∃ j : Nat, n ≤ j ∧ j < 2 ^ 31 ∧ x = nI j
theorem tw_ix (n : Nat) (x : Int32) : tw_out n x ∨ ∃ j : Nat, j < n ∧ j < 2 ^ 31 ∧ x = nI j := by
  by_cases h : x < 0
  · exact Or.inl (Or.inl h)
  · obtain ⟨j, hj, rfl⟩ := nI_of h
    by_cases g : j < n
    · exact Or.inr ⟨j, g, hj, rfl⟩
    · exact Or.inl (Or.inr ⟨j, by omega, hj, rfl⟩)
theorem tw_xT0 {post : Int32 → Prop} {x : Int32} (hx : tw_out 16 x) (h : post 0) : wpX_isTimer post x := by
  rcases hx with hx | ⟨j, hn, hj, rfl⟩
  · exact br_t hx h
  · exact br_f (nI_pos hj) (br_t (nI_le (a := 16) hn hj) h)
theorem tw_xT1 {post : Int32 → Prop} {j : Nat} (hj : j < 16) (h : post 1) : wpX_isTimer post (nI j) :=
  br_f (nI_pos (by omega)) (br_f (nI_ge (b := 16) hj (by decide)) h)
theorem tw_xP0 {post : Int32 → Prop} {x : Int32} (hx : tw_out 501 x) (h : post 0) : wpX_isPeriod post x := by
  rcases hx with hx | ⟨j, hn, hj, rfl⟩
  · exact br_t hx h
  · exact br_f (nI_pos hj) (br_t (nI_lt (a := 500) (by omega) hj) h)
theorem tw_xP1 {post : Int32 → Prop} {j : Nat} (hj : j < 501) (h : post 1) : wpX_isPeriod post (nI j) :=
  br_f (nI_pos (by omega)) (br_f (nI_nlt (a := 500) (by omega) (by decide)) h)
section
variable {T R q : Nat} {on due per rt rk who wh : Nat → Int32}
theorem tw_xS0 {post : Int32 → Prop} {x : Int32} (hx : tw_out 16 x) (h : post 0) : wpX_isTimerSet post (tw_X T R q on due per rt rk) x := by
  unfold wpX_isTimerSet
  dsimp only
  exact tw_xT0 hx (br_t rfl h)
theorem tw_xSn {post : Int32 → Prop} {j : Nat} (hj : j < 16) (z : on j = 0) (h : post 0) : wpX_isTimerSet post (tw_X T R q on due per rt rk) (nI j) := by
  unfold wpX_isTimerSet
  dsimp only
  have c : (nI j).toNatClampNeg = j := nI_clamp (by omega)
  exact tw_xT1 hj (br_f tw_10 ⟨vp_in_nI hj (by omega), br_t (by rw [c]; exact z) h⟩)
theorem tw_xSy {post : Int32 → Prop} {j : Nat} (hj : j < 16) (z : ¬ on j = 0) (h : post 1) : wpX_isTimerSet post (tw_X T R q on due per rt rk) (nI j) := by
  unfold wpX_isTimerSet
  dsimp only
  have c : (nI j).toNatClampNeg = j := nI_clamp (by omega)
  exact tw_xT1 hj (br_f tw_10 ⟨vp_in_nI hj (by omega), br_f (by rw [c]; exact z) h⟩)
theorem tw_yS0 {post : Int32 → Prop} {x : Int32} (hx : tw_out 16 x) (h : post 0) : wpY_is post (tw_Y T R on due per who wh) x := by
  unfold wpY_is
  dsimp only
  rcases hx with hx | ⟨j, hn, hj, rfl⟩
  · exact br_t hx h
  · exact br_f (nI_pos hj) (br_t (nI_lt (a := 15) (by omega) hj) h)
theorem tw_ySn {post : Int32 → Prop} {j : Nat} (hj : j < 16) (z : on j = 0) (h : post 0) : wpY_is post (tw_Y T R on due per who wh) (nI j) := by
  unfold wpY_is
  dsimp only
  have c : (nI j).toNatClampNeg = j := nI_clamp (by omega)
  exact br_f (nI_pos (by omega)) (br_f (nI_nlt (a := 15) (by omega) (by decide)) ⟨vp_in_nI hj (by omega), br_t (by rw [c]; exact z) h⟩)
theorem tw_ySy {post : Int32 → Prop} {j : Nat} (hj : j < 16) (z : ¬ on j = 0) (h : post 1) : wpY_is post (tw_Y T R on due per who wh) (nI j) := by
  unfold wpY_is
  dsimp only
  have c : (nI j).toNatClampNeg = j := nI_clamp (by omega)
  exact br_f (nI_pos (by omega)) (br_f (nI_nlt (a := 15) (by omega) (by decide)) ⟨vp_in_nI hj (by omega), br_f (by rw [c]; exact z) h⟩)
/-- a ring is noted -/
theorem tw_xNote {post : SX → Prop} {j : Nat} (hq : q < 20)
    (h : post (tw_X T (R + 1) ((q + 1) % 20) on due per (upd rt ((q + 1) % 20) (nI j)) (upd rk ((q + 1) % 20) (nI T)))) :
    wpX_note post (tw_X T R q on due per rt rk) (nI j) := by
  unfold wpX_note
  dsimp only
  have e : (nI q + 1) - (nI q + 1) / 20 * 20 = nI ((q + 1) % 20) := by
    rw [nI_1]
    exact pk_rem (d := 20) (by omega) (by omega) (by omega)
  have hi : vp_in (nI ((q + 1) % 20)) 20 := vp_in_nI (by omega) (by omega)
  have c : (nI ((q + 1) % 20)).toNatClampNeg = (q + 1) % 20 := nI_clamp (by omega)
  refine nm_r (nI_1 R) ⟨by decide, nm_r e ⟨hi, nm_r (e' := upd rt ((q + 1) % 20) (nI j)) (by rw [c]) ⟨hi, nm_r (e' := upd rk ((q + 1) % 20) (nI T)) (by rw [c]) ?_⟩⟩⟩
  by_cases m : tw_mn R < 20
  · exact br_f (nI_ge (b := 20) m (by decide)) (nm_r (e' := nI (tw_mn (R + 1))) (by rw [nI_1, tw_mn_lt m]) h)
  · have l := tw_mn_le R
    refine br_t (nI_le (a := 20) (by omega) (by omega)) ?_
    rw [tw_mn_ge m]
    exact h
theorem tw_xAgain0 {post : SX → Prop} {j : Nat} (hj : j < 16) (hp : per j = 0)
    (h : post (tw_X T R q (upd on j 0) due per rt rk)) : wpX_setAgain post (tw_X T R q on due per rt rk) (nI j) := by
  unfold wpX_setAgain
  dsimp only
  have c : (nI j).toNatClampNeg = j := nI_clamp (by omega)
  have hi : vp_in (nI j) 16 := vp_in_nI hj (by omega)
  exact ⟨hi, br_t (by rw [c]; exact hp) ⟨hi, nm_r (e' := upd on j 0) (by rw [c, tw_b0]) h⟩⟩
theorem tw_xAgain1 {post : SX → Prop} {j p : Nat} (hj : j < 16) (hp : per j = nI p) (h1 : 1 ≤ p) (h2 : p ≤ 500)
    (h : post (tw_X T R q on (upd due j (nI (T + p))) per rt rk)) : wpX_setAgain post (tw_X T R q on due per rt rk) (nI j) := by
  unfold wpX_setAgain
  dsimp only
  have c : (nI j).toNatClampNeg = j := nI_clamp (by omega)
  have hi : vp_in (nI j) 16 := vp_in_nI hj (by omega)
  exact ⟨hi, br_f (by rw [c, hp]; exact nI_ne0 (by omega) (by omega)) ⟨hi, hi, nm_r (e' := upd due j (nI (T + p))) (by rw [c, hp, nI_add]) h⟩⟩
/-- the reference's ring: its rows move on by one -/
theorem tw_yRing3 {post : SY → Prop} {j : Nat} {b : Int32} (hj : j < 16) (hb : (per j ≤ 0 ∧ b = 0) ∨ (¬ per j ≤ 0 ∧ b = 1)) :
    ∀ (i n : Nat) (who wh : Nat → Int32), i < 20 → i < n →
    post (tw_Y T (R + 1) (upd on j b) (upd due j (due j + per j)) per (upd (tw_sh who i) 0 (nI j)) (upd (tw_sh wh i) 0 (nI T))) →
    wY_ring_3 post (nI j) (nI T) (nI R) n (nI i) on due per who wh := by
  have c : (nI j).toNatClampNeg = j := nI_clamp (by omega)
  have hi : vp_in (nI j) 16 := vp_in_nI hj (by omega)
  intro i
  induction i with
  | zero =>
    intro n who wh _ hn h
    rw [tw_sh0, tw_sh0] at h
    obtain ⟨m, rfl⟩ : ∃ m, n = m + 1 := ⟨n - 1, by omega⟩
    refine br_t (by decide) (nm_e (nm_e (nm_r (nI_1 R) ⟨hi, ?_⟩)))
    rcases hb with ⟨hb, rfl⟩ | ⟨hb, rfl⟩
    · exact br_t (by rw [c]; exact hb) ⟨hi, nm_r (e' := upd on j 0) (by rw [c, tw_b0]) ⟨hi, hi, hi, nm_r (e' := upd due j (due j + per j)) (by rw [c]) h⟩⟩
    · exact br_f (by rw [c]; exact hb) ⟨hi, nm_r (e' := upd on j 1) (by rw [c, tw_b1]) ⟨hi, hi, hi, nm_r (e' := upd due j (due j + per j)) (by rw [c]) h⟩⟩
  | succ i ih =>
    intro n who wh hi2 hn h
    obtain ⟨m, rfl⟩ : ∃ m, n = m + 1 := ⟨n - 1, by omega⟩
    have d0 : vp_in (nI (i + 1) - 1) 20 := by
      rw [nI_pred]
      exact vp_in_nI (by omega) (by omega)
    have d1 : vp_in (nI (i + 1)) 20 := vp_in_nI (by omega) (by omega)
    have c1 : (nI (i + 1)).toNatClampNeg = i + 1 := nI_clamp (by omega)
    have c0 : (nI (i + 1) - 1).toNatClampNeg = i := by
      rw [nI_pred]
      exact nI_clamp (by omega)
    refine br_f (nI_nle (by omega) (by omega)) ⟨d0, d1, nm_r (e' := upd who (i + 1) (who i)) (by rw [c1, c0]) ⟨d0, d1, nm_r (e' := upd wh (i + 1) (wh i)) (by rw [c1, c0]) (nm_r (pk_m1 i) (ih m _ _ (by omega) (by omega) ?_))⟩⟩
    rw [tw_shs, tw_shs]
    exact h
theorem tw_yRing {post : SY → Prop} {j : Nat} {b : Int32} (hj : j < 16) (hb : (per j ≤ 0 ∧ b = 0) ∨ (¬ per j ≤ 0 ∧ b = 1))
    (h : post (tw_Y T (R + 1) (upd on j b) (upd due j (due j + per j)) per (upd (tw_sh who 19) 0 (nI j)) (upd (tw_sh wh 19) 0 (nI T)))) :
    wpY_ring post (tw_Y T R on due per who wh) (nI j) :=
  ⟨20, tw_yRing3 hj hb 19 20 who wh (by omega) (by omega) h⟩
end
end
section
/-! one tick, and many: both sides side by side -/
def tw_M (T j q : Nat) (on due per rt rk who wh : Nat → Int32) : Prop :=
  q < 20 ∧ tw_Tim T j on due per ∧ tw_Row q rt who ∧ tw_Row q rk wh
theorem tw_tick (T : Nat) (per : Nat → Int32) : ∀ (d j R q : Nat) (on due rt rk who wh : Nat → Int32), j + d = 16 → tw_M T j q on due per rt rk who wh →
    ∃ (R' q' : Nat) (on' due' rt' rk' who' wh' : Nat → Int32), R ≤ R' ∧ R' ≤ R + d ∧ tw_M T 16 q' on' due' per rt' rk' who' wh' ∧
      (∀ (post : SX → Prop) (n : Nat), d < n → post (tw_X T R' q' on' due' per rt' rk') → wX_ringAllDue_2 post n (nI j) (nI T) (nI q) (nI (tw_mn R)) (nI R) on due per rt rk) ∧
      (∀ (post : Int32 → SY → Prop) (n c : Nat), d < n → post (nI (c + (R' - R))) (tw_Y T R' on' due' per who' wh') → wY_tick_14 post n (nI c) (nI j) (nI T) (nI R) on due per who wh) := by
  intro d
  induction d with
  | zero =>
    intro j R q on due rt rk who wh hd hM
    obtain rfl : j = 16 := by omega
    refine ⟨R, q, on, due, rt, rk, who, wh, by omega, by omega, hM, fun post n hn h => ?_, fun post n c hn h => ?_⟩
    · obtain ⟨m, rfl⟩ : ∃ m, n = m + 1 := ⟨n - 1, by omega⟩
      exact br_t (by decide) h
    · obtain ⟨m, rfl⟩ : ∃ m, n = m + 1 := ⟨n - 1, by omega⟩
      rw [Nat.sub_self, Nat.add_zero] at h
      exact br_t (by decide) h
  | succ d ih =>
    intro j R q on due rt rk who wh hd hM
    have hj : j < 16 := by omega
    have c0 : (nI j).toNatClampNeg = j := nI_clamp (by omega)
    have hi : vp_in (nI j) 16 := vp_in_nI hj (by omega)
    have hg : ¬ (16 : Int32) ≤ nI j := nI_ge (b := 16) hj (by decide)
    obtain ⟨hq, hT, hw, hh⟩ := hM
    by_cases z : on j = 0
    · obtain ⟨R', q', on', due', rt', rk', who', wh', h1, h2, h3, hX, hY⟩ := ih (j + 1) R q on due rt rk who wh (by omega) ⟨hq, tw_timNo hT (fun y => absurd z y), hw, hh⟩
      refine ⟨R', q', on', due', rt', rk', who', wh', h1, by omega, h3, fun post n hn h => ?_, fun post n c hn h => ?_⟩
      · obtain ⟨m, rfl⟩ : ∃ m, n = m + 1 := ⟨n - 1, by omega⟩
        exact br_f hg ⟨hi, br_t (by rw [c0]; exact z) (nm_r (nI_1 j) (hX post m (by omega) h))⟩
      · obtain ⟨m, rfl⟩ : ∃ m, n = m + 1 := ⟨n - 1, by omega⟩
        exact br_f hg ⟨hi, br_t (by rw [c0]; exact z) (nm_r (nI_1 j) (hY post m c (by omega) h))⟩
    · by_cases e : due j = nI T
      · obtain ⟨p, hp, ep⟩ := (hT j hj).2.1
        by_cases p0 : p = 0
        · subst p0
          have ep0 : per j = 0 := ep
          have ed : upd due j (due j + per j) = due := tw_same (by rw [ep0]; exact (Int32.add_zero _).symm)
          obtain ⟨R', q', on', due', rt', rk', who', wh', h1, h2, h3, hX, hY⟩ := ih (j + 1) (R + 1) ((q + 1) % 20) (upd on j 0) due _ _ _ _ (by omega) ⟨by omega, tw_timR0 hT, tw_row hw hq (nI j), tw_row hh hq (nI T)⟩
          refine ⟨R', q', on', due', rt', rk', who', wh', by omega, by omega, h3, fun post n hn h => ?_, fun post n c hn h => ?_⟩
          · obtain ⟨m, rfl⟩ : ∃ m, n = m + 1 := ⟨n - 1, by omega⟩
            refine br_f hg ⟨hi, br_f (by rw [c0]; exact z) ⟨hi, br_t (by rw [c0]; exact e) ?_⟩⟩
            refine tw_xNote hq ?_
            dsimp only
            refine tw_xAgain0 hj ep0 ?_
            dsimp only
            exact nm_r (nI_1 j) (hX post m (by omega) h)
          · obtain ⟨m, rfl⟩ : ∃ m, n = m + 1 := ⟨n - 1, by omega⟩
            refine br_f hg ⟨hi, br_f (by rw [c0]; exact z) ⟨hi, br_t (by rw [c0]; exact e) ?_⟩⟩
            refine tw_yRing (b := 0) hj (Or.inl ⟨by rw [ep0]; decide, rfl⟩) ?_
            rw [ed]
            dsimp only
            refine nm_r (nI_1 c) (nm_r (nI_1 j) (hY post m (c + 1) (by omega) ?_))
            rw [show c + 1 + (R' - (R + 1)) = c + (R' - R) by omega]
            exact h
        · have ed : upd due j (due j + per j) = upd due j (nI (T + p)) := by rw [e, ep, nI_add]
          have eo : upd on j 1 = on := tw_same (by
            rcases (hT j hj).1 with y | y
            · exact absurd y z
            · exact y)
          obtain ⟨R', q', on', due', rt', rk', who', wh', h1, h2, h3, hX, hY⟩ := ih (j + 1) (R + 1) ((q + 1) % 20) on (upd due j (nI (T + p))) _ _ _ _ (by omega) ⟨by omega, tw_timR1 hT (by omega) hp, tw_row hw hq (nI j), tw_row hh hq (nI T)⟩
          refine ⟨R', q', on', due', rt', rk', who', wh', by omega, by omega, h3, fun post n hn h => ?_, fun post n c hn h => ?_⟩
          · obtain ⟨m, rfl⟩ : ∃ m, n = m + 1 := ⟨n - 1, by omega⟩
            refine br_f hg ⟨hi, br_f (by rw [c0]; exact z) ⟨hi, br_t (by rw [c0]; exact e) ?_⟩⟩
            refine tw_xNote hq ?_
            dsimp only
            refine tw_xAgain1 hj ep (by omega) hp ?_
            dsimp only
            exact nm_r (nI_1 j) (hX post m (by omega) h)
          · obtain ⟨m, rfl⟩ : ∃ m, n = m + 1 := ⟨n - 1, by omega⟩
            refine br_f hg ⟨hi, br_f (by rw [c0]; exact z) ⟨hi, br_t (by rw [c0]; exact e) ?_⟩⟩
            refine tw_yRing (b := 1) hj (Or.inr ⟨by rw [ep]; exact nI_nle (by omega) (by omega), rfl⟩) ?_
            rw [ed, eo]
            dsimp only
            refine nm_r (nI_1 c) (nm_r (nI_1 j) (hY post m (c + 1) (by omega) ?_))
            rw [show c + 1 + (R' - (R + 1)) = c + (R' - R) by omega]
            exact h
      · obtain ⟨R', q', on', due', rt', rk', who', wh', h1, h2, h3, hX, hY⟩ := ih (j + 1) R q on due rt rk who wh (by omega) ⟨hq, tw_timNo hT (fun _ => e), hw, hh⟩
        refine ⟨R', q', on', due', rt', rk', who', wh', h1, by omega, h3, fun post n hn h => ?_, fun post n c hn h => ?_⟩
        · obtain ⟨m, rfl⟩ : ∃ m, n = m + 1 := ⟨n - 1, by omega⟩
          exact br_f hg ⟨hi, br_f (by rw [c0]; exact z) ⟨hi, br_f (by rw [c0]; exact e) (nm_r (nI_1 j) (hX post m (by omega) h))⟩⟩
        · obtain ⟨m, rfl⟩ : ∃ m, n = m + 1 := ⟨n - 1, by omega⟩
          exact br_f hg ⟨hi, br_f (by rw [c0]; exact z) ⟨hi, br_f (by rw [c0]; exact e) (nm_r (nI_1 j) (hY post m c (by omega) h))⟩⟩
/-- one whole tick -/
theorem tw_tick1 (T : Nat) (per : Nat → Int32) (R q : Nat) (on due rt rk who wh : Nat → Int32) (hM : tw_M T 16 q on due per rt rk who wh) :
    ∃ (R' q' : Nat) (on' due' rt' rk' who' wh' : Nat → Int32), R ≤ R' ∧ R' ≤ R + 16 ∧ tw_M (T + 1) 16 q' on' due' per rt' rk' who' wh' ∧
      (∀ (post : SX → Prop), post (tw_X (T + 1) R' q' on' due' per rt' rk') → wpX_ringAllDue post (tw_X (T + 1) R q on due per rt rk)) ∧
      (∀ (post : Int32 → SY → Prop), post (nI (R' - R)) (tw_Y (T + 1) R' on' due' per who' wh') → wpY_tick post (tw_Y T R on due per who wh)) := by
  obtain ⟨R', q', on', due', rt', rk', who', wh', h1, h2, h3, hX, hY⟩ := tw_tick (T + 1) per 16 0 R q on due rt rk who wh rfl ⟨hM.1, tw_timT hM.2.1, hM.2.2⟩
  refine ⟨R', q', on', due', rt', rk', who', wh', h1, h2, h3, fun post h => ⟨17, hX post 17 (by omega) h⟩, fun post h => ?_⟩
  refine nm_r (nI_1 T) ⟨17, hY post 17 0 (by omega) ?_⟩
  rw [Nat.zero_add]
  exact h
/-- the ticks i .. N: letPass beside pass, and beside toNext -/
theorem tw_go (N C : Nat) (hN : N ≤ 1000) (per : Nat → Int32) : ∀ (d i T R q : Nat) (on due rt rk who wh : Nat → Int32), i + d = N → C ≤ R → tw_M T 16 q on due per rt rk who wh →
    ∃ (R' q' : Nat) (on' due' rt' rk' who' wh' : Nat → Int32), R ≤ R' ∧ R' ≤ R + 16 * d ∧ tw_M (T + d) 16 q' on' due' per rt' rk' who' wh' ∧
      (∀ (post : Int32 → SX → Prop) (n : Nat), d < n → post (nI (R' - C)) (tw_X (T + d) R' q' on' due' per rt' rk') → wX_letPass_7 post (nI N) (nI C) n (nI i) (nI T) (nI q) (nI (tw_mn R)) (nI R) on due per rt rk) ∧
      (∀ (post : Int32 → SY → Prop) (n c : Nat), d < n → post (nI (c + (R' - R))) (tw_Y (T + d) R' on' due' per who' wh') → wY_pass_4 post (nI N) n (nI c) (nI i) (nI T) (nI R) on due per who wh) ∧
      (∀ (post : Int32 → SY → Prop) (n : Nat), d < n → post (nI N) (tw_Y (T + d) R' on' due' per who' wh') → wY_toNext_26 post (nI N) n (nI i) (nI T) (nI R) on due per who wh) := by
  intro d
  induction d with
  | zero =>
    intro i T R q on due rt rk who wh hd hC hM
    obtain rfl : i = N := by omega
    have hg : nI i ≤ nI i := nI_le (by omega) (by omega)
    refine ⟨R, q, on, due, rt, rk, who, wh, by omega, by omega, hM, fun post n hn h => ?_, fun post n c hn h => ?_, fun post n hn h => ?_⟩
    · obtain ⟨m, rfl⟩ : ∃ m, n = m + 1 := ⟨n - 1, by omega⟩
      refine br_t hg ?_
      rw [pk_sub hC]
      exact h
    · obtain ⟨m, rfl⟩ : ∃ m, n = m + 1 := ⟨n - 1, by omega⟩
      rw [Nat.sub_self, Nat.add_zero] at h
      exact br_t hg (br_f (nI_pos (by omega)) (br_t (nI_le (b := 1000) hN (by decide)) h))
    · obtain ⟨m, rfl⟩ : ∃ m, n = m + 1 := ⟨n - 1, by omega⟩
      exact br_t hg h
  | succ d ih =>
    intro i T R q on due rt rk who wh hd hC hM
    have hg : ¬ nI N ≤ nI i := nI_ge (by omega) (by omega)
    obtain ⟨R1, q1, on1, due1, rt1, rk1, who1, wh1, a1, a2, a3, aX, aY⟩ := tw_tick1 T per R q on due rt rk who wh hM
    obtain ⟨R', q', on', due', rt', rk', who', wh', h1, h2, h3, hX, hY, hZ⟩ := ih (i + 1) (T + 1) R1 q1 on1 due1 rt1 rk1 who1 wh1 (by omega) (by omega) a3
    rw [show T + 1 + d = T + (d + 1) by omega] at h3 hX hY hZ
    refine ⟨R', q', on', due', rt', rk', who', wh', by omega, by omega, h3, fun post n hn h => ?_, fun post n c hn h => ?_, fun post n hn h => ?_⟩
    · obtain ⟨m, rfl⟩ : ∃ m, n = m + 1 := ⟨n - 1, by omega⟩
      refine br_f hg (nm_r (nI_1 T) ?_)
      refine aX _ ?_
      dsimp only
      exact nm_r (nI_1 i) (hX post m (by omega) h)
    · obtain ⟨m, rfl⟩ : ∃ m, n = m + 1 := ⟨n - 1, by omega⟩
      refine br_f hg (br_f (nI_nlt (a := 1000) hN (by decide)) ?_)
      refine aY _ ?_
      dsimp only
      refine nm_r (nI_add c (R1 - R)) (nm_r (nI_1 i) (hY post m (c + (R1 - R)) (by omega) ?_))
      rw [show c + (R1 - R) + (R' - R1) = c + (R' - R) by omega]
      exact h
    · obtain ⟨m, rfl⟩ : ∃ m, n = m + 1 := ⟨n - 1, by omega⟩
      refine br_f hg ?_
      refine aY _ ?_
      dsimp only
      exact nm_r (nI_1 i) (hZ post m (by omega) h)
end
section
/-! the scans over the sixteen timers: timers, within, next -/
section
variable {T R q : Nat} {on due per rt rk who wh : Nat → Int32}
theorem tw_timers : ∀ (d j : Nat) (b : Int32), j + d = 16 →
    ∃ r : Int32, (∀ post : Int32 → Prop, post r → wX_timers_4 post (nI T) (nI q) (nI (tw_mn R)) (nI R) on due per rt rk (d + 1) b (nI j)) ∧
      (∀ post : Int32 → Prop, post r → wY_timers_4 post (nI T) (nI R) on due per who wh (d + 1) b (nI j)) := by
  intro d
  induction d with
  | zero =>
    intro j b hd
    obtain rfl : j = 16 := by omega
    exact ⟨b, fun _ h => br_t (by decide) h, fun _ h => br_t (by decide) h⟩
  | succ d ih =>
    intro j b hd
    have hj : j < 16 := by omega
    have c0 : (nI j).toNatClampNeg = j := nI_clamp (by omega)
    have hi : vp_in (nI j) 16 := vp_in_nI hj (by omega)
    have hg : ¬ (16 : Int32) ≤ nI j := nI_ge (b := 16) hj (by decide)
    by_cases z : on j = 0
    · obtain ⟨r, hX, hY⟩ := ih (j + 1) b (by omega)
      exact ⟨r, fun post h => br_f hg ⟨hi, br_t (by rw [c0]; exact z) (nm_r (nI_1 j) (hX post h))⟩,
        fun post h => br_f hg ⟨hi, br_t (by rw [c0]; exact z) (nm_r (nI_1 j) (hY post h))⟩⟩
    · obtain ⟨r, hX, hY⟩ := ih (j + 1) (b ||| ((1 : Int32) <<< (nI j &&& 31))) (by omega)
      exact ⟨r, fun post h => br_f hg ⟨hi, br_f (by rw [c0]; exact z) (nm_e (nm_r (nI_1 j) (hX post h)))⟩,
        fun post h => br_f hg ⟨hi, br_f (by rw [c0]; exact z) (nm_e (nm_r (nI_1 j) (hY post h)))⟩⟩
theorem tw_within (x : Int32) : ∀ (d j : Nat) (b : Int32), j + d = 16 →
    ∃ r : Int32, (∀ post : Int32 → Prop, post r → wX_within_4 post x (nI T) (nI q) (nI (tw_mn R)) (nI R) on due per rt rk (d + 1) b (nI j)) ∧
      (∀ post : Int32 → Prop, post r → wY_within_4 post x (nI T) (nI R) on due per who wh (d + 1) b (nI j)) := by
  intro d
  induction d with
  | zero =>
    intro j b hd
    obtain rfl : j = 16 := by omega
    exact ⟨b, fun _ h => br_t (by decide) h, fun _ h => br_t (by decide) h⟩
  | succ d ih =>
    intro j b hd
    have hj : j < 16 := by omega
    have c0 : (nI j).toNatClampNeg = j := nI_clamp (by omega)
    have hi : vp_in (nI j) 16 := vp_in_nI hj (by omega)
    have hg : ¬ (16 : Int32) ≤ nI j := nI_ge (b := 16) hj (by decide)
    by_cases z : on j = 0
    · obtain ⟨r, hX, hY⟩ := ih (j + 1) b (by omega)
      exact ⟨r, fun post h => br_f hg ⟨hi, br_t (by rw [c0]; exact z) (nm_r (nI_1 j) (hX post h))⟩,
        fun post h => br_f hg ⟨hi, br_t (by rw [c0]; exact z) (nm_r (nI_1 j) (hY post h))⟩⟩
    · by_cases y : x < due j - nI T
      · obtain ⟨r, hX, hY⟩ := ih (j + 1) b (by omega)
        exact ⟨r, fun post h => br_f hg ⟨hi, br_f (by rw [c0]; exact z) ⟨hi, br_t (by rw [c0]; exact y) (nm_r (nI_1 j) (hX post h))⟩⟩,
          fun post h => br_f hg ⟨hi, br_f (by rw [c0]; exact z) ⟨hi, br_t (by rw [c0]; exact y) (nm_r (nI_1 j) (hY post h))⟩⟩⟩
      · obtain ⟨r, hX, hY⟩ := ih (j + 1) (b + 1) (by omega)
        exact ⟨r, fun post h => br_f hg ⟨hi, br_f (by rw [c0]; exact z) ⟨hi, br_f (by rw [c0]; exact y) (nm_e (nm_r (nI_1 j) (hX post h)))⟩⟩,
          fun post h => br_f hg ⟨hi, br_f (by rw [c0]; exact z) ⟨hi, br_f (by rw [c0]; exact y) (nm_e (nm_r (nI_1 j) (hY post h)))⟩⟩⟩
/-- from a best timer b on -/
theorem tw_next1 (hT : T < 2 ^ 29) (hM : tw_Tim T 16 on due per) : ∀ (d j b e : Nat), j + d = 16 → b < 16 → ¬ on b = 0 → due b = nI e → T < e → e ≤ T + 500 →
    ∃ r : Nat, r < 16 ∧ ¬ on r = 0 ∧ (∀ post : Int32 → Prop, post (nI r) → wX_next_9 post (nI T) (nI q) (nI (tw_mn R)) (nI R) on due per rt rk (d + 1) (nI b) (nI (e - T)) (nI j)) ∧
      (∀ post : Int32 → Prop, post (nI r) → wY_next_5 post (nI T) (nI R) on due per who wh (d + 1) (nI b) (nI j)) := by
  intro d
  induction d with
  | zero =>
    intro j b e hd hb ob _ _ _
    obtain rfl : j = 16 := by omega
    exact ⟨b, hb, ob, fun _ h => br_t (by decide) h, fun _ h => br_t (by decide) h⟩
  | succ d ih =>
    intro j b e hd hb ob eb e1 e2
    have hj : j < 16 := by omega
    have c0 : (nI j).toNatClampNeg = j := nI_clamp (by omega)
    have cb : (nI b).toNatClampNeg = b := nI_clamp (by omega)
    have hi : vp_in (nI j) 16 := vp_in_nI hj (by omega)
    have hib : vp_in (nI b) 16 := vp_in_nI hb (by omega)
    have hg : ¬ (16 : Int32) ≤ nI j := nI_ge (b := 16) hj (by decide)
    by_cases z : on j = 0
    · obtain ⟨r, r1, r2, hX, hY⟩ := ih (j + 1) b e (by omega) hb ob eb e1 e2
      exact ⟨r, r1, r2, fun post h => br_f hg ⟨hi, br_t (by rw [c0]; exact z) (nm_r (nI_1 j) (hX post h))⟩,
        fun post h => br_f hg ⟨hi, br_t (by rw [c0]; exact z) (nm_r (nI_1 j) (hY post h))⟩⟩
    · obtain ⟨f, ef, f1, f2, f3⟩ := (hM j hj).2.2 z
      have f4 : T < f := f3 hj
      have es : due j - nI T = nI (f - T) := by
        rw [ef]
        exact pk_sub (by omega)
      by_cases y : e ≤ f
      · obtain ⟨r, r1, r2, hX, hY⟩ := ih (j + 1) b e (by omega) hb ob eb e1 e2
        refine ⟨r, r1, r2, fun post h => br_f hg ⟨hi, br_f (by rw [c0]; exact z) ⟨hi, br_t ?_ (nm_r (nI_1 j) (hX post h))⟩⟩,
          fun post h => br_f hg ⟨hi, br_f (by rw [c0]; exact z) (br_f (nI_pos (by omega)) ⟨hi, hib, br_t ?_ (nm_r (nI_1 j) (hY post h))⟩)⟩⟩
        · rw [c0, es]
          exact nI_le (by omega) (by omega)
        · rw [c0, cb, eb, ef]
          exact nI_le (by omega) (by omega)
      · obtain ⟨r, r1, r2, hX, hY⟩ := ih (j + 1) j f (by omega) hj z ef f4 f2
        refine ⟨r, r1, r2, fun post h => br_f hg ⟨hi, br_f (by rw [c0]; exact z) ⟨hi, br_f ?_ ⟨hi, nm_r (e' := nI (f - T)) (by rw [c0, es]) (nm_r (nI_1 j) (hX post h))⟩⟩⟩,
          fun post h => br_f hg ⟨hi, br_f (by rw [c0]; exact z) (br_f (nI_pos (by omega)) ⟨hi, hib, br_f ?_ (nm_r (nI_1 j) (hY post h))⟩)⟩⟩
        · rw [c0, es]
          exact nI_ge (by omega) (by omega)
        · rw [c0, cb, eb, ef]
          exact nI_ge (by omega) (by omega)
/-- no timer found so far -/
theorem tw_next0 (hT : T < 2 ^ 29) (hM : tw_Tim T 16 on due per) : ∀ (d j : Nat), j + d = 16 →
    ∃ r : Int32, (r = -2 ∨ ∃ b : Nat, b < 16 ∧ ¬ on b = 0 ∧ r = nI b) ∧ (∀ post : Int32 → Prop, post r → wX_next_9 post (nI T) (nI q) (nI (tw_mn R)) (nI R) on due per rt rk (d + 1) (-2) 501 (nI j)) ∧
      (∀ post : Int32 → Prop, post r → wY_next_5 post (nI T) (nI R) on due per who wh (d + 1) (-2) (nI j)) := by
  intro d
  induction d with
  | zero =>
    intro j hd
    obtain rfl : j = 16 := by omega
    exact ⟨-2, Or.inl rfl, fun _ h => br_t (by decide) h, fun _ h => br_t (by decide) h⟩
  | succ d ih =>
    intro j hd
    have hj : j < 16 := by omega
    have c0 : (nI j).toNatClampNeg = j := nI_clamp (by omega)
    have hi : vp_in (nI j) 16 := vp_in_nI hj (by omega)
    have hg : ¬ (16 : Int32) ≤ nI j := nI_ge (b := 16) hj (by decide)
    by_cases z : on j = 0
    · obtain ⟨r, hr, hX, hY⟩ := ih (j + 1) (by omega)
      exact ⟨r, hr, fun post h => br_f hg ⟨hi, br_t (by rw [c0]; exact z) (nm_r (nI_1 j) (hX post h))⟩,
        fun post h => br_f hg ⟨hi, br_t (by rw [c0]; exact z) (nm_r (nI_1 j) (hY post h))⟩⟩
    · obtain ⟨f, ef, f1, f2, f3⟩ := (hM j hj).2.2 z
      have f4 : T < f := f3 hj
      have es : due j - nI T = nI (f - T) := by
        rw [ef]
        exact pk_sub (by omega)
      obtain ⟨r, r1, r2, hX, hY⟩ := tw_next1 (R := R) (q := q) (rt := rt) (rk := rk) (who := who) (wh := wh) hT hM d (j + 1) j f (by omega) hj z ef f4 f2
      refine ⟨nI r, Or.inr ⟨r, r1, r2, rfl⟩, fun post h => br_f hg ⟨hi, br_f (by rw [c0]; exact z) ⟨hi, br_f ?_ ⟨hi, nm_r (e' := nI (f - T)) (by rw [c0, es]) (nm_r (nI_1 j) (hX post h))⟩⟩⟩,
        fun post h => br_f hg ⟨hi, br_f (by rw [c0]; exact z) (br_t (by decide) (nm_r (nI_1 j) (hY post h)))⟩⟩
      rw [c0, es]
      exact nI_ge (b := 501) (by omega) (by decide)
end
end
section
/-- both sides hold the same time, timers, periods and count of rings; the reference's rows are the component's circles, read backwards -/
def i_Rel (k : Nat) (u : SX) (v : SY) : Prop :=
  ∃ (T R q : Nat) (on due per rt rk who wh : Nat → Int32), u = tw_X T R q on due per rt rk ∧ v = tw_Y T R on due per who wh ∧
    T ≤ 250 * k ∧ R ≤ 16 * T ∧ tw_M T 16 q on due per rt rk who wh
theorem i_up {k : Nat} {u : SX} {v : SY} (h : i_Rel k u v) : i_Rel (k + 4) u v := by
  obtain ⟨T, R, q, on, due, per, rt, rk, who, wh, rfl, rfl, hT, hR, hM⟩ := h
  exact ⟨T, R, q, on, due, per, rt, rk, who, wh, rfl, rfl, by omega, hR, hM⟩
theorem i_vc0 : wpX_init (fun u => wpY_init (fun v => i_Rel 0 u v)) :=
  ⟨0, 0, 0, fun _ => 0, fun _ => 0, fun _ => 0, fun _ => 0, fun _ => 0, fun _ => 0, fun _ => 0, rfl, rfl, by omega, by omega, by omega, tw_tim0, tw_row0, tw_row0⟩
theorem i_vc_set {k : Nat} {u : SX} {v : SY} (I : i_Rel k u v) (hk : k + 4 ≤ 2048) (v1 : Int32) (v2 : Int32) (v3 : Int32) : wpX_set (fun r u' => wpY_set (fun r' v' => r' = r ∧ i_Rel (k + 4) u' v') v v1 v2 v3) u v1 v2 v3 := by
  have J := i_up I
  obtain ⟨T, R, q, on, due, per, rt, rk, who, wh, rfl, rfl, hT, hR, hq, hM, hw, hh⟩ := I
  unfold wpX_set wpY_set
  dsimp only
  rcases tw_ix 16 v1 with h1 | ⟨j, hj, _, rfl⟩
  · refine tw_xT0 h1 (br_t rfl ?_)
    rcases h1 with h1 | ⟨j, hn, hj, rfl⟩
    · exact br_t h1 ⟨rfl, J⟩
    · exact br_f (nI_pos hj) (br_t (nI_lt (a := 15) (by omega) hj) ⟨rfl, J⟩)
  have g0 : ¬ nI j < 0 := nI_pos (by omega)
  have g1 : ¬ (15 : Int32) < nI j := nI_nlt (a := 15) (by omega) (by decide)
  have c0 : (nI j).toNatClampNeg = j := nI_clamp (by omega)
  have hi : vp_in (nI j) 16 := vp_in_nI hj (by omega)
  refine tw_xT1 hj (br_f tw_10 ?_)
  by_cases h2 : v2 < 1
  · exact br_t h2 (br_f g0 (br_f g1 (br_t h2 ⟨rfl, J⟩)))
  by_cases h3 : 500 < v2
  · exact br_f h2 (br_t h3 (br_f g0 (br_f g1 (br_f h2 (br_t h3 ⟨rfl, J⟩)))))
  refine br_f h2 (br_f h3 ?_)
  rcases tw_ix 501 v3 with h4 | ⟨p, hp, _, rfl⟩
  · refine tw_xP0 h4 (br_t rfl (br_f g0 (br_f g1 (br_f h2 (br_f h3 ?_)))))
    rcases h4 with h4 | ⟨p, hn, hp, rfl⟩
    · exact br_t h4 ⟨rfl, J⟩
    · exact br_f (nI_pos hp) (br_f (nI_ge (a := 500) (by omega) hp) ⟨rfl, J⟩)
  obtain ⟨d, hd1, hd2, rfl⟩ : ∃ d : Nat, 1 ≤ d ∧ d ≤ 500 ∧ v2 = nI d := by
    rcases tw_ix 501 v2 with (h | ⟨d, hn, hd, rfl⟩) | ⟨d, hn, hd, rfl⟩
    · exact absurd (Int32.lt_trans h (by decide)) h2
    · exact absurd (nI_lt (a := 500) (by omega) hd) h3
    · refine ⟨d, ?_, by omega, rfl⟩
      by_cases y : d = 0
      · subst y
        exact absurd (by decide) h2
      · omega
  refine tw_xP1 hp (br_f tw_10 ⟨hi, nm_r (e' := upd on j 1) (by rw [c0, tw_b1]) ⟨hi, nm_r (e' := upd due j (nI (T + d))) (by rw [c0, nI_add]) ⟨hi, nm_r (e' := upd per j (nI p)) (by rw [c0]) ⟨hi, ?_⟩⟩⟩⟩)
  refine br_f g0 (br_f g1 (br_f h2 (br_f h3 (br_f (nI_pos (by omega)) (br_t (nI_le (b := 500) (by omega) (by decide)) ⟨hi, nm_r (e' := upd on j 1) (by rw [c0, tw_b1]) ⟨hi, nm_r (e' := upd due j (nI (T + d))) (by rw [c0, nI_add]) ⟨hi, nm_r (e' := upd per j (nI p)) (by rw [c0]) ⟨hi, rfl, ?_⟩⟩⟩⟩)))))
  exact ⟨T, R, q, _, _, _, rt, rk, who, wh, rfl, rfl, by omega, hR, hq, tw_timSet hM hd1 hd2 (by omega), hw, hh⟩
theorem i_vc_cancel {k : Nat} {u : SX} {v : SY} (I : i_Rel k u v) (hk : k + 4 ≤ 2048) (v1 : Int32) : wpX_cancel (fun r u' => wpY_cancel (fun r' v' => r' = r ∧ i_Rel (k + 4) u' v') v v1) u v1 := by
  have J := i_up I
  obtain ⟨T, R, q, on, due, per, rt, rk, who, wh, rfl, rfl, hT, hR, hq, hM, hw, hh⟩ := I
  unfold wpX_cancel wpY_cancel
  dsimp only
  rcases tw_ix 16 v1 with h1 | ⟨j, hj, _, rfl⟩
  · exact tw_xS0 h1 (br_t rfl (tw_yS0 h1 (br_t rfl ⟨rfl, J⟩)))
  have c0 : (nI j).toNatClampNeg = j := nI_clamp (by omega)
  have hi : vp_in (nI j) 16 := vp_in_nI hj (by omega)
  by_cases z : on j = 0
  · exact tw_xSn hj z (br_t rfl (tw_ySn hj z (br_t rfl ⟨rfl, J⟩)))
  refine tw_xSy hj z (br_f tw_10 ⟨hi, nm_r (e' := upd on j 0) (by rw [c0, tw_b0]) ⟨hi, ?_⟩⟩)
  refine tw_ySy hj z (br_f tw_10 ⟨hi, nm_r (e' := upd on j 0) (by rw [c0, tw_b0]) ⟨hi, rfl, ?_⟩⟩)
  exact ⟨T, R, q, _, _, _, rt, rk, who, wh, rfl, rfl, by omega, hR, hq, tw_timOff hM, hw, hh⟩
theorem i_vc_pass {k : Nat} {u : SX} {v : SY} (I : i_Rel k u v) (hk : k + 4 ≤ 2048) (v1 : Int32) : wpX_pass (fun r u' => wpY_pass (fun r' v' => r' = r ∧ i_Rel (k + 4) u' v') v v1) u v1 := by
  have J := i_up I
  obtain ⟨T, R, q, on, due, per, rt, rk, who, wh, rfl, rfl, hT, hR, hM⟩ := I
  unfold wpX_pass wpY_pass
  dsimp only
  rcases tw_ix 1001 v1 with (h1 | ⟨n, hn, hn2, rfl⟩) | ⟨n, hn, hn2, rfl⟩
  · have h0 : v1 ≤ 0 := Int32.le_of_lt h1
    exact br_t h1 ⟨1, br_t h0 (br_t h1 ⟨rfl, J⟩)⟩
  · have a : ¬ nI n < 0 := nI_pos hn2
    have b : ¬ nI n ≤ 1000 := nI_ge (a := 1000) (by omega) hn2
    have c : ¬ nI n ≤ 0 := nI_nle (by omega) hn2
    have d : (1000 : Int32) < nI n := nI_lt (a := 1000) (by omega) hn2
    exact br_f a (br_f b ⟨1, br_f c (br_t d (br_f a (br_f b ⟨rfl, J⟩)))⟩)
  · obtain ⟨R', q', on', due', rt', rk', who', wh', h1, h2, h3, hX, hY, _⟩ := tw_go n R (by omega) per n 0 T R q on due rt rk who wh (by omega) (by omega) hM
    refine br_f (nI_pos hn2) (br_t (nI_le (b := 1000) (by omega) (by decide)) ?_)
    unfold wpX_letPass
    dsimp only
    refine ⟨n + 1, hX _ (n + 1) (by omega) ?_⟩
    dsimp only
    refine ⟨n + 1, hY _ (n + 1) 0 (by omega) ?_⟩
    rw [Nat.zero_add]
    exact ⟨rfl, T + n, R', q', on', due', per, rt', rk', who', wh', rfl, rfl, by omega, by omega, h3⟩
theorem tw_m2 {b : Nat} (h : b < 16) : ¬ nI b = -2 := fun e => nI_pos (n := b) (by omega) (by rw [e]; decide)
theorem i_vc_toNext {k : Nat} {u : SX} {v : SY} (I : i_Rel k u v) (hk : k + 4 ≤ 2048) : wpX_toNext (fun r u' => wpY_toNext (fun r' v' => r' = r ∧ i_Rel (k + 4) u' v') v) u := by
  have J := i_up I
  obtain ⟨T, R, q, on, due, per, rt, rk, who, wh, rfl, rfl, hT, hR, hM⟩ := I
  unfold wpX_toNext wpY_toNext
  dsimp only
  unfold wpX_next wpY_next
  dsimp only
  obtain ⟨r, hr, hX, hY⟩ := tw_next0 (R := R) (q := q) (rt := rt) (rk := rk) (who := who) (wh := wh) (by omega) hM.2.1 16 0 rfl
  refine ⟨17, hX _ ?_⟩
  rcases hr with rfl | ⟨b, hb, ob, rfl⟩
  · exact br_t rfl ⟨17, hY _ (br_f (by decide) ⟨rfl, J⟩)⟩
  · obtain ⟨f, ef, f1, f2, f3⟩ := (hM.2.1 b hb).2.2 ob
    have cb : (nI b).toNatClampNeg = b := nI_clamp (by omega)
    have hib : vp_in (nI b) 16 := vp_in_nI hb (by omega)
    have es : due (nI b).toNatClampNeg - nI T = nI (f - T) := by
      rw [cb, ef]
      exact pk_sub (by omega)
    obtain ⟨R', q', on', due', rt', rk', who', wh', h1, h2, h3, aX, _, aZ⟩ := tw_go (f - T) R (by omega) per (f - T) 0 T R q on due rt rk who wh (by omega) (by omega) hM
    refine br_f (tw_m2 hb) ⟨hib, nm_r es ?_⟩
    unfold wpX_letPass
    dsimp only
    refine ⟨f - T + 1, aX _ (f - T + 1) (by omega) ?_⟩
    dsimp only
    refine ⟨17, hY _ (br_t (nI_pos' (by omega)) ⟨hib, nm_r es ⟨f - T + 1, aZ _ (f - T + 1) (by omega) ?_⟩⟩)⟩
    exact ⟨rfl, T + (f - T), R', q', on', due', per, rt', rk', who', wh', rfl, rfl, by omega, by omega, h3⟩
theorem i_vc_now {k : Nat} {u : SX} {v : SY} (I : i_Rel k u v) (hk : k + 4 ≤ 2048) : wpX_now (fun r => wpY_now (fun r' => r' = r ∧ i_Rel (k + 4) u v) v) u := by
  have J := i_up I
  obtain ⟨T, R, q, on, due, per, rt, rk, who, wh, rfl, rfl, hT, hR, hM⟩ := I
  exact ⟨rfl, J⟩
theorem i_vc_timers {k : Nat} {u : SX} {v : SY} (I : i_Rel k u v) (hk : k + 4 ≤ 2048) : wpX_timers (fun r => wpY_timers (fun r' => r' = r ∧ i_Rel (k + 4) u v) v) u := by
  have J := i_up I
  obtain ⟨T, R, q, on, due, per, rt, rk, who, wh, rfl, rfl, hT, hR, hM⟩ := I
  unfold wpX_timers wpY_timers
  dsimp only
  obtain ⟨r, hX, hY⟩ := tw_timers (T := T) (R := R) (q := q) (on := on) (due := due) (per := per) (rt := rt) (rk := rk) (who := who) (wh := wh) 16 0 0 rfl
  exact ⟨17, hX _ ⟨17, hY _ ⟨rfl, J⟩⟩⟩
theorem i_vc_left {k : Nat} {u : SX} {v : SY} (I : i_Rel k u v) (hk : k + 4 ≤ 2048) (v1 : Int32) : wpX_left (fun r => wpY_left (fun r' => r' = r ∧ i_Rel (k + 4) u v) v v1) u v1 := by
  have J := i_up I
  obtain ⟨T, R, q, on, due, per, rt, rk, who, wh, rfl, rfl, hT, hR, hM⟩ := I
  unfold wpX_left wpY_left
  dsimp only
  rcases tw_ix 16 v1 with h1 | ⟨j, hj, _, rfl⟩
  · exact tw_xS0 h1 (br_t rfl (tw_yS0 h1 (br_t rfl ⟨rfl, J⟩)))
  have hi : vp_in (nI j) 16 := vp_in_nI hj (by omega)
  by_cases z : on j = 0
  · exact tw_xSn hj z (br_t rfl (tw_ySn hj z (br_t rfl ⟨rfl, J⟩)))
  · exact tw_xSy hj z (br_f tw_10 ⟨hi, tw_ySy hj z (br_f tw_10 ⟨hi, rfl, J⟩)⟩)
theorem i_vc_next {k : Nat} {u : SX} {v : SY} (I : i_Rel k u v) (hk : k + 4 ≤ 2048) : wpX_next (fun r => wpY_next (fun r' => r' = r ∧ i_Rel (k + 4) u v) v) u := by
  have J := i_up I
  obtain ⟨T, R, q, on, due, per, rt, rk, who, wh, rfl, rfl, hT, hR, hM⟩ := I
  unfold wpX_next wpY_next
  dsimp only
  obtain ⟨r, hr, hX, hY⟩ := tw_next0 (R := R) (q := q) (rt := rt) (rk := rk) (who := who) (wh := wh) (by omega) hM.2.1 16 0 rfl
  exact ⟨17, hX _ ⟨17, hY _ ⟨rfl, J⟩⟩⟩
theorem i_vc_within {k : Nat} {u : SX} {v : SY} (I : i_Rel k u v) (hk : k + 4 ≤ 2048) (v1 : Int32) : wpX_within (fun r => wpY_within (fun r' => r' = r ∧ i_Rel (k + 4) u v) v v1) u v1 := by
  have J := i_up I
  obtain ⟨T, R, q, on, due, per, rt, rk, who, wh, rfl, rfl, hT, hR, hM⟩ := I
  unfold wpX_within wpY_within
  dsimp only
  obtain ⟨r, hX, hY⟩ := tw_within (T := T) (R := R) (q := q) (on := on) (due := due) (per := per) (rt := rt) (rk := rk) (who := who) (wh := wh) v1 16 0 0 rfl
  exact ⟨17, hX _ ⟨17, hY _ ⟨rfl, J⟩⟩⟩
theorem i_vc_rings {k : Nat} {u : SX} {v : SY} (I : i_Rel k u v) (hk : k + 4 ≤ 2048) : wpX_rings (fun r => wpY_rings (fun r' => r' = r ∧ i_Rel (k + 4) u v) v) u := by
  have J := i_up I
  obtain ⟨T, R, q, on, due, per, rt, rk, who, wh, rfl, rfl, hT, hR, hM⟩ := I
  exact ⟨rfl, J⟩
/-- the place of the ring i before the last one -/
theorem tw_place {q i : Nat} (hq : q < 20) (hi : i < 20) : ((nI q - nI i) + 20) - ((nI q - nI i) + 20) / 20 * 20 = nI ((q + 20 - i) % 20) := by
  have e : (nI q - nI i) + 20 = nI (q + 20 - i) := by
    rw [← pk_sub (a := q + 20) (b := i) (by omega), ← nI_add, Int32.sub_eq_add_neg, Int32.sub_eq_add_neg, Int32.add_assoc (nI q), Int32.add_assoc (nI q), Int32.add_comm (-nI i)]
    rfl
  rw [e]
  exact pk_rem (d := 20) (by omega) (by omega) (by omega)
theorem i_vc_rung {k : Nat} {u : SX} {v : SY} (I : i_Rel k u v) (hk : k + 4 ≤ 2048) (v1 : Int32) : wpX_rung (fun r => wpY_rung (fun r' => r' = r ∧ i_Rel (k + 4) u v) v v1) u v1 := by
  have J := i_up I
  obtain ⟨T, R, q, on, due, per, rt, rk, who, wh, rfl, rfl, hT, hR, hq, hM, hw, hh⟩ := I
  unfold wpX_rung wpY_rung
  dsimp only
  unfold wpX_isNoted wpY_kept wpX_placeInRow
  dsimp only
  have l := tw_mn_le R
  by_cases h0 : v1 < 0
  · exact br_t h0 (br_t rfl (br_t h0 (br_t rfl ⟨rfl, J⟩)))
  obtain ⟨i, hi, rfl⟩ := nI_of h0
  by_cases h1 : i < tw_mn R
  · have h2 := (tw_mn_in i R).mp h1
    have e := tw_place (q := q) (i := i) hq (by omega)
    have c : (nI ((q + 20 - i) % 20)).toNatClampNeg = (q + 20 - i) % 20 := nI_clamp (by omega)
    have ci : (nI i).toNatClampNeg = i := nI_clamp hi
    have hv : vp_in (nI ((q + 20 - i) % 20)) 20 := vp_in_nI (by omega) (by omega)
    refine br_f h0 (br_f (nI_ge h1 (by omega)) (br_f tw_10 ⟨by decide, ?_⟩))
    rw [e]
    refine ⟨hv, br_f h0 (br_f (nI_nlt (a := 19) (by omega) (by decide)) (br_f (nI_ge h2.2 (by omega)) (br_f tw_10 ⟨vp_in_nI (by omega) (by omega), ?_, J⟩)))⟩
    rw [c, ci]
    exact hw i (by omega)
  · refine br_f h0 (br_t (nI_le (by omega) hi) (br_t rfl (br_f h0 ?_)))
    by_cases h2 : 19 < i
    · exact br_t (nI_lt (a := 19) h2 hi) (br_t rfl ⟨rfl, J⟩)
    · have h3 : R ≤ i := by
        by_cases y : i < R
        · exact absurd ((tw_mn_in i R).mpr ⟨by omega, y⟩) h1
        · omega
      exact br_f (nI_nlt (a := 19) (by omega) (by decide)) (br_t (nI_le h3 hi) (br_t rfl ⟨rfl, J⟩))
theorem i_vc_rungAt {k : Nat} {u : SX} {v : SY} (I : i_Rel k u v) (hk : k + 4 ≤ 2048) (v1 : Int32) : wpX_rungAt (fun r => wpY_rungAt (fun r' => r' = r ∧ i_Rel (k + 4) u v) v v1) u v1 := by
  have J := i_up I
  obtain ⟨T, R, q, on, due, per, rt, rk, who, wh, rfl, rfl, hT, hR, hq, hM, hw, hh⟩ := I
  unfold wpX_rungAt wpY_rungAt
  dsimp only
  unfold wpX_isNoted wpY_kept wpX_placeInRow
  dsimp only
  have l := tw_mn_le R
  by_cases h0 : v1 < 0
  · exact br_t h0 (br_t rfl (br_t h0 (br_t rfl ⟨rfl, J⟩)))
  obtain ⟨i, hi, rfl⟩ := nI_of h0
  by_cases h1 : i < tw_mn R
  · have h2 := (tw_mn_in i R).mp h1
    have e := tw_place (q := q) (i := i) hq (by omega)
    have c : (nI ((q + 20 - i) % 20)).toNatClampNeg = (q + 20 - i) % 20 := nI_clamp (by omega)
    have ci : (nI i).toNatClampNeg = i := nI_clamp hi
    have hv : vp_in (nI ((q + 20 - i) % 20)) 20 := vp_in_nI (by omega) (by omega)
    refine br_f h0 (br_f (nI_ge h1 (by omega)) (br_f tw_10 ⟨by decide, ?_⟩))
    rw [e]
    refine ⟨hv, br_f h0 (br_f (nI_nlt (a := 19) (by omega) (by decide)) (br_f (nI_ge h2.2 (by omega)) (br_f tw_10 ⟨vp_in_nI (by omega) (by omega), ?_, J⟩)))⟩
    rw [c, ci]
    exact hh i (by omega)
  · refine br_f h0 (br_t (nI_le (by omega) hi) (br_t rfl (br_f h0 ?_)))
    by_cases h2 : 19 < i
    · exact br_t (nI_lt (a := 19) h2 hi) (br_t rfl ⟨rfl, J⟩)
    · have h3 : R ≤ i := by
        by_cases y : i < R
        · exact absurd ((tw_mn_in i R).mpr ⟨by omega, y⟩) h1
        · omega
      exact br_f (nI_nlt (a := 19) (by omega) (by decide)) (br_t (nI_le h3 hi) (br_t rfl ⟨rfl, J⟩))
theorem i_vc_repeat {k : Nat} {u : SX} {v : SY} (I : i_Rel k u v) (hk : k + 4 ≤ 2048) (v1 : Int32) (v2 : Int32) : wpX_repeat (fun r u' => wpY_repeat (fun r' v' => r' = r ∧ i_Rel (k + 4) u' v') v v1 v2) u v1 v2 := by
  have J := i_up I
  obtain ⟨T, R, q, on, due, per, rt, rk, who, wh, rfl, rfl, hT, hR, hq, hM, hw, hh⟩ := I
  unfold wpX_repeat wpY_repeat
  dsimp only
  rcases tw_ix 16 v1 with h1 | ⟨j, hj, _, rfl⟩
  · exact tw_xS0 h1 (br_t rfl (tw_yS0 h1 (br_t rfl ⟨rfl, J⟩)))
  have c0 : (nI j).toNatClampNeg = j := nI_clamp (by omega)
  have hi : vp_in (nI j) 16 := vp_in_nI hj (by omega)
  by_cases z : on j = 0
  · exact tw_xSn hj z (br_t rfl (tw_ySn hj z (br_t rfl ⟨rfl, J⟩)))
  refine tw_xSy hj z (br_f tw_10 ?_)
  rcases tw_ix 501 v2 with h4 | ⟨p, hp, _, rfl⟩
  · refine tw_xP0 h4 (br_t rfl (tw_ySy hj z (br_f tw_10 ?_)))
    rcases h4 with h4 | ⟨p, hn, hp, rfl⟩
    · exact br_t h4 ⟨rfl, J⟩
    · exact br_f (nI_pos hp) (br_f (nI_ge (a := 500) (by omega) hp) ⟨rfl, J⟩)
  refine tw_xP1 hp (br_f tw_10 ⟨hi, nm_r (e' := upd per j (nI p)) (by rw [c0]) ?_⟩)
  refine tw_ySy hj z (br_f tw_10 (br_f (nI_pos (by omega)) (br_t (nI_le (b := 500) (by omega) (by decide)) ⟨hi, nm_r (e' := upd per j (nI p)) (by rw [c0]) ⟨rfl, ?_⟩⟩)))
  exact ⟨T, R, q, _, _, _, rt, rk, who, wh, rfl, rfl, by omega, hR, hq, tw_timPer hM (by omega), hw, hh⟩
theorem i_vc_period {k : Nat} {u : SX} {v : SY} (I : i_Rel k u v) (hk : k + 4 ≤ 2048) (v1 : Int32) : wpX_period (fun r => wpY_period (fun r' => r' = r ∧ i_Rel (k + 4) u v) v v1) u v1 := by
  have J := i_up I
  obtain ⟨T, R, q, on, due, per, rt, rk, who, wh, rfl, rfl, hT, hR, hM⟩ := I
  unfold wpX_period wpY_period
  dsimp only
  rcases tw_ix 16 v1 with h1 | ⟨j, hj, _, rfl⟩
  · exact tw_xS0 h1 (br_t rfl (tw_yS0 h1 (br_t rfl ⟨rfl, J⟩)))
  have hi : vp_in (nI j) 16 := vp_in_nI hj (by omega)
  by_cases z : on j = 0
  · exact tw_xSn hj z (br_t rfl (tw_ySn hj z (br_t rfl ⟨rfl, J⟩)))
  · exact tw_xSy hj z (br_f tw_10 ⟨hi, tw_ySy hj z (br_f tw_10 ⟨hi, rfl, J⟩)⟩)
end
