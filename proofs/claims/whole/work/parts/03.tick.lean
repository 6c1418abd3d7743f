/-! one tick, and many: both sides side by side -/
def tw_M (T j q : Nat) (on due per rt rk who wh : Nat → Int32) : Prop :=
  q < 20 ∧ tw_Tim T j on due per ∧ tw_Row q rt who ∧ tw_Row q rk wh
theorem tw_tick (T : Nat) (per : Nat → Int32) : ∀ (d j R q : Nat) (on due rt rk who wh : Nat → Int32), j + d = 16 → tw_M T j q on due per rt rk who wh →
    ∃ (R' q' : Nat) (on' due' rt' rk' who' wh' : Nat → Int32), R ≤ R' ∧ R' ≤ R + d ∧ tw_M T 16 q' on' due' per rt' rk' who' wh' ∧
      (∀ (post : SX → Prop) (n : Nat), d < n → post (tw_X T R' q' on' due' per rt' rk') → wX_ringAllDue_2 post n (nI j) (nI T) (nI q) (nI (tw_mn R)) (nI R) on due per rt rk) ∧
      (∀ (post : Int32 → SY → Prop) (n c : Nat), d < n → post (nI (c + (R' - R))) (tw_Y T R' on' due' per who' wh') → wY_tick_14 post n (nI c) (nI j) (nI T) (nI R) on due per who wh) := by
  intro d
  induction d with
  | zero =>
    intro j R q on due rt rk who wh hd hM
    obtain rfl : j = 16 := by omega
    refine ⟨R, q, on, due, rt, rk, who, wh, by omega, by omega, hM, fun post n hn h => ?_, fun post n c hn h => ?_⟩
    · obtain ⟨m, rfl⟩ : ∃ m, n = m + 1 := ⟨n - 1, by omega⟩
      exact br_t (by decide) h
    · obtain ⟨m, rfl⟩ : ∃ m, n = m + 1 := ⟨n - 1, by omega⟩
      rw [Nat.sub_self, Nat.add_zero] at h
      exact br_t (by decide) h
  | succ d ih =>
    intro j R q on due rt rk who wh hd hM
    have hj : j < 16 := by omega
    have c0 : (nI j).toNatClampNeg = j := nI_clamp (by omega)
    have hi : vp_in (nI j) 16 := vp_in_nI hj (by omega)
    have hg : ¬ (16 : Int32) ≤ nI j := nI_ge (b := 16) hj (by decide)
    obtain ⟨hq, hT, hw, hh⟩ := hM
    by_cases z : on j = 0
    · obtain ⟨R', q', on', due', rt', rk', who', wh', h1, h2, h3, hX, hY⟩ := ih (j + 1) R q on due rt rk who wh (by omega) ⟨hq, tw_timNo hT (fun y => absurd z y), hw, hh⟩
      refine ⟨R', q', on', due', rt', rk', who', wh', h1, by omega, h3, fun post n hn h => ?_, fun post n c hn h => ?_⟩
      · obtain ⟨m, rfl⟩ : ∃ m, n = m + 1 := ⟨n - 1, by omega⟩
        exact br_f hg ⟨hi, br_t (by rw [c0]; exact z) (nm_r (nI_1 j) (hX post m (by omega) h))⟩
      · obtain ⟨m, rfl⟩ : ∃ m, n = m + 1 := ⟨n - 1, by omega⟩
        exact br_f hg ⟨hi, br_t (by rw [c0]; exact z) (nm_r (nI_1 j) (hY post m c (by omega) h))⟩
    · by_cases e : due j = nI T
      · obtain ⟨p, hp, ep⟩ := (hT j hj).2.1
        by_cases p0 : p = 0
        · subst p0
          have ep0 : per j = 0 := ep
          have ed : upd due j (due j + per j) = due := tw_same (by rw [ep0]; exact (Int32.add_zero _).symm)
          obtain ⟨R', q', on', due', rt', rk', who', wh', h1, h2, h3, hX, hY⟩ := ih (j + 1) (R + 1) ((q + 1) % 20) (upd on j 0) due _ _ _ _ (by omega) ⟨by omega, tw_timR0 hT, tw_row hw hq (nI j), tw_row hh hq (nI T)⟩
          refine ⟨R', q', on', due', rt', rk', who', wh', by omega, by omega, h3, fun post n hn h => ?_, fun post n c hn h => ?_⟩
          · obtain ⟨m, rfl⟩ : ∃ m, n = m + 1 := ⟨n - 1, by omega⟩
            refine br_f hg ⟨hi, br_f (by rw [c0]; exact z) ⟨hi, br_t (by rw [c0]; exact e) ?_⟩⟩
            refine tw_xNote hq ?_
            dsimp only
            refine tw_xAgain0 hj ep0 ?_
            dsimp only
            exact nm_r (nI_1 j) (hX post m (by omega) h)
          · obtain ⟨m, rfl⟩ : ∃ m, n = m + 1 := ⟨n - 1, by omega⟩
            refine br_f hg ⟨hi, br_f (by rw [c0]; exact z) ⟨hi, br_t (by rw [c0]; exact e) ?_⟩⟩
            refine tw_yRing (b := 0) hj (Or.inl ⟨by rw [ep0]; decide, rfl⟩) ?_
            rw [ed]
            dsimp only
            refine nm_r (nI_1 c) (nm_r (nI_1 j) (hY post m (c + 1) (by omega) ?_))
            rw [show c + 1 + (R' - (R + 1)) = c + (R' - R) by omega]
            exact h
        · have ed : upd due j (due j + per j) = upd due j (nI (T + p)) := by rw [e, ep, nI_add]
          have eo : upd on j 1 = on := tw_same (by
            rcases (hT j hj).1 with y | y
            · exact absurd y z
            · exact y)
          obtain ⟨R', q', on', due', rt', rk', who', wh', h1, h2, h3, hX, hY⟩ := ih (j + 1) (R + 1) ((q + 1) % 20) on (upd due j (nI (T + p))) _ _ _ _ (by omega) ⟨by omega, tw_timR1 hT (by omega) hp, tw_row hw hq (nI j), tw_row hh hq (nI T)⟩
          refine ⟨R', q', on', due', rt', rk', who', wh', by omega, by omega, h3, fun post n hn h => ?_, fun post n c hn h => ?_⟩
          · obtain ⟨m, rfl⟩ : ∃ m, n = m + 1 := ⟨n - 1, by omega⟩
            refine br_f hg ⟨hi, br_f (by rw [c0]; exact z) ⟨hi, br_t (by rw [c0]; exact e) ?_⟩⟩
            refine tw_xNote hq ?_
            dsimp only
            refine tw_xAgain1 hj ep (by omega) hp ?_
            dsimp only
            exact nm_r (nI_1 j) (hX post m (by omega) h)
          · obtain ⟨m, rfl⟩ : ∃ m, n = m + 1 := ⟨n - 1, by omega⟩
            refine br_f hg ⟨hi, br_f (by rw [c0]; exact z) ⟨hi, br_t (by rw [c0]; exact e) ?_⟩⟩
            refine tw_yRing (b := 1) hj (Or.inr ⟨by rw [ep]; exact nI_nle (by omega) (by omega), rfl⟩) ?_
            rw [ed, eo]
            dsimp only
            refine nm_r (nI_1 c) (nm_r (nI_1 j) (hY post m (c + 1) (by omega) ?_))
            rw [show c + 1 + (R' - (R + 1)) = c + (R' - R) by omega]
            exact h
      · obtain ⟨R', q', on', due', rt', rk', who', wh', h1, h2, h3, hX, hY⟩ := ih (j + 1) R q on due rt rk who wh (by omega) ⟨hq, tw_timNo hT (fun _ => e), hw, hh⟩
        refine ⟨R', q', on', due', rt', rk', who', wh', h1, by omega, h3, fun post n hn h => ?_, fun post n c hn h => ?_⟩
        · obtain ⟨m, rfl⟩ : ∃ m, n = m + 1 := ⟨n - 1, by omega⟩
          exact br_f hg ⟨hi, br_f (by rw [c0]; exact z) ⟨hi, br_f (by rw [c0]; exact e) (nm_r (nI_1 j) (hX post m (by omega) h))⟩⟩
        · obtain ⟨m, rfl⟩ : ∃ m, n = m + 1 := ⟨n - 1, by omega⟩
          exact br_f hg ⟨hi, br_f (by rw [c0]; exact z) ⟨hi, br_f (by rw [c0]; exact e) (nm_r (nI_1 j) (hY post m c (by omega) h))⟩⟩
/-- one whole tick -/
theorem tw_tick1 (T : Nat) (per : Nat → Int32) (R q : Nat) (on due rt rk who wh : Nat → Int32) (hM : tw_M T 16 q on due per rt rk who wh) :
    ∃ (R' q' : Nat) (on' due' rt' rk' who' wh' : Nat → Int32), R ≤ R' ∧ R' ≤ R + 16 ∧ tw_M (T + 1) 16 q' on' due' per rt' rk' who' wh' ∧
      (∀ (post : SX → Prop), post (tw_X (T + 1) R' q' on' due' per rt' rk') → wpX_ringAllDue post (tw_X (T + 1) R q on due per rt rk)) ∧
      (∀ (post : Int32 → SY → Prop), post (nI (R' - R)) (tw_Y (T + 1) R' on' due' per who' wh') → wpY_tick post (tw_Y T R on due per who wh)) := by
  obtain ⟨R', q', on', due', rt', rk', who', wh', h1, h2, h3, hX, hY⟩ := tw_tick (T + 1) per 16 0 R q on due rt rk who wh rfl ⟨hM.1, tw_timT hM.2.1, hM.2.2⟩
  refine ⟨R', q', on', due', rt', rk', who', wh', h1, h2, h3, fun post h => ⟨17, hX post 17 (by omega) h⟩, fun post h => ?_⟩
  refine nm_r (nI_1 T) ⟨17, hY post 17 0 (by omega) ?_⟩
  rw [Nat.zero_add]
  exact h
/-- the ticks i .. N: letPass beside pass, and beside toNext -/
theorem tw_go (N C : Nat) (hN : N ≤ 1000) (per : Nat → Int32) : ∀ (d i T R q : Nat) (on due rt rk who wh : Nat → Int32), i + d = N → C ≤ R → tw_M T 16 q on due per rt rk who wh →
    ∃ (R' q' : Nat) (on' due' rt' rk' who' wh' : Nat → Int32), R ≤ R' ∧ R' ≤ R + 16 * d ∧ tw_M (T + d) 16 q' on' due' per rt' rk' who' wh' ∧
      (∀ (post : Int32 → SX → Prop) (n : Nat), d < n → post (nI (R' - C)) (tw_X (T + d) R' q' on' due' per rt' rk') → wX_letPass_7 post (nI N) (nI C) n (nI i) (nI T) (nI q) (nI (tw_mn R)) (nI R) on due per rt rk) ∧
      (∀ (post : Int32 → SY → Prop) (n c : Nat), d < n → post (nI (c + (R' - R))) (tw_Y (T + d) R' on' due' per who' wh') → wY_pass_4 post (nI N) n (nI c) (nI i) (nI T) (nI R) on due per who wh) ∧
      (∀ (post : Int32 → SY → Prop) (n : Nat), d < n → post (nI N) (tw_Y (T + d) R' on' due' per who' wh') → wY_toNext_26 post (nI N) n (nI i) (nI T) (nI R) on due per who wh) := by
  intro d
  induction d with
  | zero =>
    intro i T R q on due rt rk who wh hd hC hM
    obtain rfl : i = N := by omega
    have hg : nI i ≤ nI i := nI_le (by omega) (by omega)
    refine ⟨R, q, on, due, rt, rk, who, wh, by omega, by omega, hM, fun post n hn h => ?_, fun post n c hn h => ?_, fun post n hn h => ?_⟩
    · obtain ⟨m, rfl⟩ : ∃ m, n = m + 1 := ⟨n - 1, by omega⟩
      refine br_t hg ?_
      rw [pk_sub hC]
      exact h
    · obtain ⟨m, rfl⟩ : ∃ m, n = m + 1 := ⟨n - 1, by omega⟩
      rw [Nat.sub_self, Nat.add_zero] at h
      exact br_t hg (br_f (nI_pos (by omega)) (br_t (nI_le (b := 1000) hN (by decide)) h))
    · obtain ⟨m, rfl⟩ : ∃ m, n = m + 1 := ⟨n - 1, by omega⟩
      exact br_t hg h
  | succ d ih =>
    intro i T R q on due rt rk who wh hd hC hM
    have hg : ¬ nI N ≤ nI i := nI_ge (by omega) (by omega)
    obtain ⟨R1, q1, on1, due1, rt1, rk1, who1, wh1, a1, a2, a3, aX, aY⟩ := tw_tick1 T per R q on due rt rk who wh hM
    obtain ⟨R', q', on', due', rt', rk', who', wh', h1, h2, h3, hX, hY, hZ⟩ := ih (i + 1) (T + 1) R1 q1 on1 due1 rt1 rk1 who1 wh1 (by omega) (by omega) a3
    rw [show T + 1 + d = T + (d + 1) by omega] at h3 hX hY hZ
    refine ⟨R', q', on', due', rt', rk', who', wh', by omega, by omega, h3, fun post n hn h => ?_, fun post n c hn h => ?_, fun post n hn h => ?_⟩
    · obtain ⟨m, rfl⟩ : ∃ m, n = m + 1 := ⟨n - 1, by omega⟩
      refine br_f hg (nm_r (nI_1 T) ?_)
      refine aX _ ?_
      dsimp only
      exact nm_r (nI_1 i) (hX post m (by omega) h)
    · obtain ⟨m, rfl⟩ : ∃ m, n = m + 1 := ⟨n - 1, by omega⟩
      refine br_f hg (br_f (nI_nlt (a := 1000) hN (by decide)) ?_)
      refine aY _ ?_
      dsimp only
      refine nm_r (nI_add c (R1 - R)) (nm_r (nI_1 i) (hY post m (c + (R1 - R)) (by omega) ?_))
      rw [show c + (R1 - R) + (R' - R1) = c + (R' - R) by omega]
      exact h
    · obtain ⟨m, rfl⟩ : ∃ m, n = m + 1 := ⟨n - 1, by omega⟩
      refine br_f hg ?_
      refine aY _ ?_
      dsimp only
      exact nm_r (nI_1 i) (hZ post m (by omega) h)
