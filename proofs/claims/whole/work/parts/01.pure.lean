theorem pk_us {f : Nat → Int32} {k : Nat} {x : Int32} : upd f k x k = x := if_pos rfl
theorem pk_un {f : Nat → Int32} {k j : Nat} {x : Int32} (h : j ≠ k) : upd f k x j = f j := if_neg h
theorem pk_sub {a b : Nat} (h : b ≤ a) : nI a - nI b = nI (a - b) := by
  obtain ⟨c, rfl⟩ : ∃ c, a = c + b := ⟨a - b, by omega⟩
  rw [← nI_add, Int32.add_sub_cancel, Nat.add_sub_cancel]
theorem pk_m1 (n : Nat) : nI (n + 1) + (-1) = nI n := by
  rw [← nI_1, Int32.add_assoc, show (1 : Int32) + (-1) = 0 from rfl, Int32.add_zero]
theorem pk_mul (a b : Nat) : nI a * nI b = nI (a * b) := (Int32.ofNat_mul a b).symm
theorem pk_div {a d : Nat} (ha : a < 2 ^ 31) (h0 : 0 < d) (hd : d < 2 ^ 31) : nI a / nI d = nI (a / d) := by
  apply Int32.toInt_inj.mp
  rw [lg_idiv_nonneg (by rw [nI_toInt ha]; omega) (by rw [nI_toInt hd]; omega), nI_toInt ha, nI_toInt hd, nI_toInt (Nat.lt_of_le_of_lt (Nat.div_le_self a d) ha)]
  first | rfl | exact (Int.natCast_ediv _ _).symm
theorem pk_rem {a d : Nat} (ha : a < 2 ^ 31) (h0 : 0 < d) (hd : d < 2 ^ 31) : nI a - nI a / nI d * nI d = nI (a % d) := by
  rw [pk_div ha h0 hd, pk_mul, pk_sub (Nat.div_mul_le_self a d)]
  exact congrArg nI (by have := Nat.div_add_mod' a d; omega)
theorem pk_sub_toInt {a b : Nat} (ha : a < 2 ^ 30) (hb : b < 2 ^ 30) : (nI a - nI b).toInt = (a : Int) - b := by
  rw [Int32.toInt_sub, nI_toInt (by omega), nI_toInt (by omega)]
  exact Int.bmod_eq_of_le (by omega) (by omega)
theorem pk_le {x y : Int32} {A B : Prop} (a b : Nat) (f : a ≤ b → A) (g : b < a → B) (hx : x = nI a := by rfl) (hy : y = nI b := by rfl) (ha : a < 2 ^ 31 := by omega) (hb : b < 2 ^ 31 := by omega) : (x ≤ y → A) ∧ (¬ x ≤ y → B) := by
  subst hx hy
  rw [nI_leI ha hb]
  exact ⟨f, fun z => g (by omega)⟩
theorem pk_lt {x y : Int32} {A B : Prop} (a b : Nat) (f : a < b → A) (g : b ≤ a → B) (hx : x = nI a := by rfl) (hy : y = nI b := by rfl) (ha : a < 2 ^ 31 := by omega) (hb : b < 2 ^ 31 := by omega) : (x < y → A) ∧ (¬ x < y → B) := by
  subst hx hy
  rw [nI_ltI ha hb]
  exact ⟨f, fun z => g (by omega)⟩
theorem pk_eq {x y : Int32} {A B : Prop} (a b : Nat) (f : a = b → A) (g : a ≠ b → B) (hx : x = nI a := by rfl) (hy : y = nI b := by rfl) (ha : a < 2 ^ 31 := by omega) (hb : b < 2 ^ 31 := by omega) : (x = y → A) ∧ (¬ x = y → B) := by
  subst hx hy
  rw [nI_eq ha hb]
  exact ⟨f, g⟩
theorem pk_in {x : Int32} (n N : Nat) (h : n < N) (hx : x = nI n := by rfl) (hN : N < 2 ^ 31 := by omega) : vp_in x N := by
  subst hx
  exact vp_in_nI h hN
theorem pk_cl {x : Int32} (n : Nat) (hx : x = nI n := by rfl) (h : n < 2 ^ 31 := by omega) : x.toNatClampNeg = n := by
  subst hx
  exact nI_clamp h

/-! the timers and the row of rings, by themselves -/
theorem tw_same {f : Nat → Int32} {k : Nat} {x : Int32} (h : f k = x) : upd f k x = f := by
  funext j
  by_cases e : j = k
  · subst e
    rw [pk_us]
    exact h.symm
  · rw [pk_un e]
/-- the row w moved on by one, up to place i -/
def tw_sh (w : Nat → Int32) (i : Nat) : Nat → Int32 := fun j => if 1 ≤ j ∧ j ≤ i then w (j - 1) else w j
theorem tw_sh0 (w : Nat → Int32) : tw_sh w 0 = w := by
  funext j
  show (if 1 ≤ j ∧ j ≤ 0 then w (j - 1) else w j) = w j
  rw [if_neg (by omega)]
theorem tw_shs (w : Nat → Int32) (i : Nat) : tw_sh (upd w (i + 1) (w i)) i = tw_sh w (i + 1) := by
  funext j
  show (if 1 ≤ j ∧ j ≤ i then upd w (i + 1) (w i) (j - 1) else upd w (i + 1) (w i) j) = (if 1 ≤ j ∧ j ≤ i + 1 then w (j - 1) else w j)
  by_cases h : 1 ≤ j ∧ j ≤ i
  · rw [if_pos h, if_pos (by omega), pk_un (by omega)]
  · rw [if_neg h]
    by_cases e : j = i + 1
    · subst e
      rw [pk_us, if_pos (by omega)]
      rfl
    · rw [pk_un e, if_neg (by omega)]
/-- the reference's row who is the component's circle rt, read backwards from q -/
def tw_Row (q : Nat) (rt who : Nat → Int32) : Prop := ∀ i, i < 20 → who i = rt ((q + 20 - i) % 20)
theorem tw_row0 : tw_Row 0 (fun _ => 0) (fun _ => 0) := fun _ _ => rfl
theorem tw_row {q : Nat} {rt who : Nat → Int32} (h : tw_Row q rt who) (hq : q < 20) (x : Int32) :
    tw_Row ((q + 1) % 20) (upd rt ((q + 1) % 20) x) (upd (tw_sh who 19) 0 x) := by
  intro i hi
  by_cases e : i = 0
  · subst e
    rw [pk_us, show ((q + 1) % 20 + 20 - 0) % 20 = (q + 1) % 20 by omega, pk_us]
  · rw [pk_un e, pk_un (by omega)]
    show (if 1 ≤ i ∧ i ≤ 19 then who (i - 1) else who i) = _
    rw [if_pos (by omega), h (i - 1) (by omega)]
    exact congrArg rt (by omega)
/-- the sixteen timers at time T, those below j have been looked at in this tick -/
def tw_Tim (T j : Nat) (on due per : Nat → Int32) : Prop :=
  ∀ i, i < 16 → (on i = 0 ∨ on i = 1) ∧ (∃ p, p ≤ 500 ∧ per i = nI p) ∧ (¬ on i = 0 → ∃ d, due i = nI d ∧ T ≤ d ∧ d ≤ T + 500 ∧ (i < j → T < d))
theorem tw_tim0 : tw_Tim 0 16 (fun _ => 0) (fun _ => 0) (fun _ => 0) := fun _ _ =>
  ⟨Or.inl rfl, ⟨0, by omega, rfl⟩, fun h => absurd rfl h⟩
theorem tw_timT {T : Nat} {on due per : Nat → Int32} (h : tw_Tim T 16 on due per) : tw_Tim (T + 1) 0 on due per := by
  intro i hi
  obtain ⟨h1, h2, h3⟩ := h i hi
  refine ⟨h1, h2, fun z => ?_⟩
  obtain ⟨d, e, a, b, c⟩ := h3 z
  have := c hi
  exact ⟨d, e, by omega, by omega, fun y => absurd y (by omega)⟩
theorem tw_timSet {T k d p : Nat} {on due per : Nat → Int32} (h : tw_Tim T 16 on due per) (hd : 1 ≤ d) (hd2 : d ≤ 500) (hp : p ≤ 500) :
    tw_Tim T 16 (upd on k 1) (upd due k (nI (T + d))) (upd per k (nI p)) := by
  intro i hi
  by_cases e : i = k
  · subst e
    rw [pk_us, pk_us, pk_us]
    exact ⟨Or.inr rfl, ⟨p, hp, rfl⟩, fun _ => ⟨T + d, rfl, by omega, by omega, fun _ => by omega⟩⟩
  · rw [pk_un e, pk_un e, pk_un e]
    exact h i hi
theorem tw_timOff {T k : Nat} {on due per : Nat → Int32} (h : tw_Tim T 16 on due per) : tw_Tim T 16 (upd on k 0) due per := by
  intro i hi
  by_cases e : i = k
  · subst e
    rw [pk_us]
    exact ⟨Or.inl rfl, (h i hi).2.1, fun z => absurd rfl z⟩
  · rw [pk_un e]
    exact h i hi
theorem tw_timPer {T k p : Nat} {on due per : Nat → Int32} (h : tw_Tim T 16 on due per) (hp : p ≤ 500) : tw_Tim T 16 on due (upd per k (nI p)) := by
  intro i hi
  by_cases e : i = k
  · subst e
    rw [pk_us]
    exact ⟨(h i hi).1, ⟨p, hp, rfl⟩, (h i hi).2.2⟩
  · rw [pk_un e]
    exact h i hi
/-- a timer that isn't set, or is not due, is passed over -/
theorem tw_timNo {T j : Nat} {on due per : Nat → Int32} (h : tw_Tim T j on due per) (hn : ¬ on j = 0 → ¬ due j = nI T) : tw_Tim T (j + 1) on due per := by
  intro i hi
  obtain ⟨h1, h2, h3⟩ := h i hi
  refine ⟨h1, h2, fun z => ?_⟩
  obtain ⟨d, e, a, b, c⟩ := h3 z
  refine ⟨d, e, a, b, fun y => ?_⟩
  by_cases g : i = j
  · subst g
    by_cases k : d = T
    · subst k
      exact absurd e (hn z)
    · omega
  · exact c (by omega)
/-- a timer with no period rings -/
theorem tw_timR0 {T j : Nat} {on due per : Nat → Int32} (h : tw_Tim T j on due per) : tw_Tim T (j + 1) (upd on j 0) due per := by
  intro i hi
  by_cases e : i = j
  · subst e
    rw [pk_us]
    exact ⟨Or.inl rfl, (h i hi).2.1, fun z => absurd rfl z⟩
  · rw [pk_un e]
    obtain ⟨h1, h2, h3⟩ := h i hi
    refine ⟨h1, h2, fun z => ?_⟩
    obtain ⟨d, e, a, b, c⟩ := h3 z
    exact ⟨d, e, a, b, fun y => c (by omega)⟩
/-- a timer with a period rings -/
theorem tw_timR1 {T j p : Nat} {on due per : Nat → Int32} (h : tw_Tim T j on due per) (hp : 1 ≤ p) (hp2 : p ≤ 500) : tw_Tim T (j + 1) on (upd due j (nI (T + p))) per := by
  intro i hi
  by_cases e : i = j
  · subst e
    rw [pk_us]
    exact ⟨(h i hi).1, (h i hi).2.1, fun _ => ⟨T + p, rfl, by omega, by omega, fun _ => by omega⟩⟩
  · rw [pk_un e]
    obtain ⟨h1, h2, h3⟩ := h i hi
    refine ⟨h1, h2, fun z => ?_⟩
    obtain ⟨d, e, a, b, c⟩ := h3 z
    exact ⟨d, e, a, b, fun y => c (by omega)⟩
/-- the number of rings that the row keeps -/
def tw_mn (R : Nat) : Nat := if R < 20 then R else 20
theorem tw_mn_lt {R : Nat} (h : tw_mn R < 20) : tw_mn R + 1 = tw_mn (R + 1) := by
  unfold tw_mn at *
  split at h
  · rw [if_pos (by assumption)]
    split <;> omega
  · omega
theorem tw_mn_ge {R : Nat} (h : ¬ tw_mn R < 20) : tw_mn R = tw_mn (R + 1) := by
  unfold tw_mn at *
  split at h
  · omega
  · rw [if_neg (by assumption), if_neg (by omega)]
theorem tw_mn_le (R : Nat) : tw_mn R ≤ 20 := by
  unfold tw_mn
  split <;> omega
theorem tw_mn_in (i R : Nat) : i < tw_mn R ↔ i ≤ 19 ∧ i < R := by
  unfold tw_mn
  split <;> omega
