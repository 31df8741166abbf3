/-! ===== the fills, the start, the search ===== -/
theorem tt_fillW_L {N : Nat} {P : TS → Prop} : ∀ (k fuel i : Nat) (u : TS), i + k = 2048 → k < fuel → (∀ j, j < i → u.1.1 j = 0) → (∀ u1 : TS, (∀ j, j < 2048 → u1.1.1 j = 0) → u1.1.2 = u.1.2 → P u1) → w_fillW_6 N P fuel u 0 (nI i) (nI 2048) := by
  intro k
  induction k with
  | zero =>
    intro fuel i u hi hf h0 H
    match fuel, hf with
    | fuel + 1, _ =>
      rw [w_fillW_6]
      exact b_lt (by omega) (by decide) (fun h => by omega) (fun _ => H u (fun j hj => h0 j (by omega)) rfl)
  | succ k ih =>
    intro fuel i u hi hf h0 H
    match fuel, hf with
    | fuel + 1, hf =>
      rw [w_fillW_6]
      refine b_lt (by omega) (by decide) (fun _ => ⟨vp_in_nI (by omega) (by decide), ?_⟩) (fun h => by omega)
      unfold zlet
      rw [nI_1, nI_clamp (by omega)]
      refine ih fuel (i + 1) _ (by omega) (by omega) (fun j hj => ?_) (fun u1 a b => H u1 a b)
      show vp_updL u.1.1 i 0 j = 0
      unfold vp_updL
      by_cases e : j = i
      · rw [if_pos e]
      · rw [if_neg e]; exact h0 j (by omega)
theorem tt_fillF_L {N : Nat} {P : TS → Prop} : ∀ (k fuel i : Nat) (u : TS), i + k = 72 → k < fuel → (∀ j, j < i → u.1.2.2.1 j = 0) → (∀ u1 : TS, (∀ j, j < 72 → u1.1.2.2.1 j = 0) → u1.1.1 = u.1.1 → u1.1.2.1 = u.1.2.1 → u1.1.2.2.2 = u.1.2.2.2 → P u1) → w_fillF_5 N P fuel u 0 (nI i) (nI 72) := by
  intro k
  induction k with
  | zero =>
    intro fuel i u hi hf h0 H
    match fuel, hf with
    | fuel + 1, _ =>
      rw [w_fillF_5]
      exact b_lt (by omega) (by decide) (fun h => by omega) (fun _ => H u (fun j hj => h0 j (by omega)) rfl rfl rfl)
  | succ k ih =>
    intro fuel i u hi hf h0 H
    match fuel, hf with
    | fuel + 1, hf =>
      rw [w_fillF_5]
      refine b_lt (by omega) (by decide) (fun _ => ⟨vp_in_nI (by omega) (by decide), ?_⟩) (fun h => by omega)
      unfold zlet
      rw [nI_1, nI_clamp (by omega)]
      refine ih fuel (i + 1) _ (by omega) (by omega) (fun j hj => ?_) (fun u1 a b c d => H u1 a b c d)
      show upd u.1.2.2.1 i 0 j = 0
      unfold upd
      by_cases e : j = i
      · rw [if_pos e]
      · rw [if_neg e]; exact h0 j (by omega)
/-- the pool of m words, one free block -/
def frW (m : Nat) : Nat → Nat := lndW (fun _ => 0) m (fun _ => 0) 0 (m - 1)
def frF (m : Nat) : Nat → Nat := un (fun _ => 0) (cls (m - 1)) 1
theorem okL_fr {m : Nat} (h : 16 ≤ m) : okL (fun _ => 0) m (fun _ => 0) 0 (m - 1) := ⟨by omega, by omega, Or.inl rfl, fun h => by omega⟩
theorem tt_begin {N m : Nat} {u : TS} {P : TS → Prop} (hN : 3000 ≤ N) (h1 : 16 ≤ m) (h2 : m ≤ 2048) (H : ∀ u1 : TS, Rc u1.1 (frW m) m (frF m) (0, 0, 0, -1) → P u1) : w_X4_begin N u (nI m) P := by
  unfold w_X4_begin w_X3_clear w_fillW
  refine tt_fillW_L 2048 N 0 u (by decide) (by omega) (fun j hj => absurd hj (Nat.not_lt_zero j)) (fun u1 a1 b1 => ?_)
  unfold zlet w_X2_clear w_fillF
  refine tt_fillF_L 72 N 0 _ (by decide) (by omega) (fun j hj => absurd hj (Nat.not_lt_zero j)) (fun u2 a2 b2 c2 d2 => ?_)
  have r2 : Rc u2.1 (fun _ => 0) m (fun _ => 0) u2.1.2.2.2 := ⟨fun j hj => by rw [b2]; exact a1 j hj, c2, fun j hj => a2 j hj, rfl, h2⟩
  rw [show nI m - (1 : Int32) = nI (m - 1) from pk_sub (b := 1) (by omega)]
  refine tt_makeFree (a := 0) r2 (okL_fr h1) (fun u3 r3 => ?_)
  refine tt_forget r3 (fun u4 r4 => H _ ?_)
  exact ⟨r4.1, r4.2.1, r4.2.2.1, by show (u4.1.2.2.2.1, _) = _; rw [r4.2.2.2.1], h2⟩
theorem mm_lay_L2 {N m : Nat} {P : MS → Prop} (hN : 3000 ≤ N) (h1 : 16 ≤ m) (h2 : m ≤ 2048) (H : ∀ v1 : MS, Rc v1.1 (frW m) m (frF m) (0, 0, 0, -1) → P v1) : ∀ (k fuel i : Nat) (v : MS), i + k = 72 → k < fuel → (∀ j, j < i → v.1.2.2.1 j = 0) → (∀ j, j < 2048 → v.1.1 j = 0) → w_X5_lay_24 N P fuel v (nI m) (nI i) := by
  intro k
  induction k with
  | zero =>
    intro fuel i v hi hf h0 hw
    match fuel, hf with
    | fuel + 1, _ =>
      rw [w_X5_lay_24]
      refine b_lt (b := 72) (by omega) (by decide) (fun h => by omega) (fun _ => ?_)
      unfold zlet
      rw [show nI m - (1 : Int32) = nI (m - 1) from pk_sub (b := 1) (by omega)]
      have r2 : Rc (sWa (sRf (sSp (sN v.1 (nI m)) 0) 0) (-1)) (fun _ => 0) m (fun _ => 0) (v.1.2.2.2.1, 0, 0, -1) := ⟨hw, rfl, fun j hj => h0 j (by omega), rfl, h2⟩
      refine mm_lend (a := 0) (by omega) r2 (okL_fr h1) (fun v3 r3 => H _ ?_)
      exact r3.mv 0
  | succ k ih =>
    intro fuel i v hi hf h0 hw
    match fuel, hf with
    | fuel + 1, hf =>
      rw [w_X5_lay_24]
      refine b_lt (b := 72) (by omega) (by decide) (fun _ => ⟨vp_in_nI (by omega) (by decide), ?_⟩) (fun h => by omega)
      unfold zlet
      rw [nI_1, nI_clamp (by omega)]
      refine ih fuel (i + 1) _ (by omega) (by omega) (fun j hj => ?_) hw
      show upd v.1.2.2.1 i 0 j = 0
      unfold upd
      by_cases e : j = i
      · rw [if_pos e]
      · rw [if_neg e]; exact h0 j (by omega)
theorem mm_lay_L1 {N m : Nat} {P : MS → Prop} (hN : 3000 ≤ N) (h1 : 16 ≤ m) (h2 : m ≤ 2048) (H : ∀ v1 : MS, Rc v1.1 (frW m) m (frF m) (0, 0, 0, -1) → P v1) : ∀ (k fuel i : Nat) (v : MS), i + k = 2048 → k < fuel → (∀ j, j < i → v.1.1 j = 0) → w_X5_lay_2 N P fuel v (nI m) (nI i) := by
  intro k
  induction k with
  | zero =>
    intro fuel i v hi hf h0
    match fuel, hf with
    | fuel + 1, _ =>
      rw [w_X5_lay_2]
      refine b_lt (b := 2048) (by omega) (by decide) (fun h => by omega) (fun _ => ?_)
      exact mm_lay_L2 hN h1 h2 H 72 N 0 v (by decide) (by omega) (fun j hj => absurd hj (Nat.not_lt_zero j)) (fun j hj => h0 j (by omega))
  | succ k ih =>
    intro fuel i v hi hf h0
    match fuel, hf with
    | fuel + 1, hf =>
      rw [w_X5_lay_2]
      refine b_lt (b := 2048) (by omega) (by decide) (fun _ => ⟨vp_in_nI (by omega) (by decide), ?_⟩) (fun h => by omega)
      unfold zlet
      rw [nI_1, nI_clamp (by omega)]
      refine ih fuel (i + 1) _ (by omega) (by omega) (fun j hj => ?_)
      show vp_updL v.1.1 i 0 j = 0
      unfold vp_updL
      by_cases e : j = i
      · rw [if_pos e]
      · rw [if_neg e]; exact h0 j (by omega)
theorem mm_lay {N m : Nat} {v : MS} {P : MS → Prop} (hN : 3000 ≤ N) (h1 : 16 ≤ m) (h2 : m ≤ 2048) (H : ∀ v1 : MS, Rc v1.1 (frW m) m (frF m) (0, 0, 0, -1) → P v1) : w_X5_lay N v (nI m) P := mm_lay_L1 hN h1 h2 H 2048 N 0 v (by decide) (by omega) (fun j hj => absurd hj (Nat.not_lt_zero j))
/-- the first of the first list, from class c on, that has some; 0: none -/
def fdL (F : Nat → Nat) : Nat → Nat → Nat
  | 0, _ => 0
  | k + 1, c => if F c = 0 then fdL F k (c + 1) else F c
def fd (F : Nat → Nat) (c : Nat) : Nat := fdL F (72 - c) c
theorem fdL_sp (F : Nat → Nat) : ∀ k c, fdL F k c = 0 ∨ ∃ d, c ≤ d ∧ d < c + k ∧ F d ≠ 0 ∧ fdL F k c = F d := by
  intro k
  induction k with
  | zero => intro c; exact Or.inl rfl
  | succ k ih =>
    intro c
    rw [fdL]
    by_cases e : F c = 0
    · rw [if_pos e]
      rcases ih (c + 1) with h | ⟨d, h1, h2, h3, h4⟩
      · exact Or.inl h
      · exact Or.inr ⟨d, by omega, by omega, h3, h4⟩
    · rw [if_neg e]; exact Or.inr ⟨c, Nat.le_refl _, by omega, e, rfl⟩
theorem fd_sp (F : Nat → Nat) (c : Nat) : fd F c = 0 ∨ ∃ d, c ≤ d ∧ d < 72 ∧ F d ≠ 0 ∧ fd F c = F d := by
  rcases fdL_sp F (72 - c) c with h | ⟨d, h1, h2, h3, h4⟩
  · exact Or.inl h
  · exact Or.inr ⟨d, h1, by omega, h3, h4⟩
theorem tt_headerFor_L {N : Nat} {u : TS} {W F : Nat → Nat} {m : Nat} {sc : SC} {P : TS → Int32 → Prop} (hR : Rc u.1 W m F sc) (hF : ∀ c, c < 72 → F c < 2 ^ 31) : ∀ (k fuel c : Nat), k = 72 - c → k < fuel → c < 2 ^ 31 → P u (if fdL F k c = 0 then -1 else nI (fdL F k c - 1)) → w_X2_headerFor_5 N P fuel u (nI c) := by
  intro k
  induction k with
  | zero =>
    intro fuel c hk hf hc H
    match fuel, hf with
    | fuel + 1, _ =>
      rw [w_X2_headerFor_5]
      exact b_lt (b := 72) hc (by decide) (fun h => by omega) (fun _ => H)
  | succ k ih =>
    intro fuel c hk hf hc H
    match fuel, hf with
    | fuel + 1, hf =>
      rw [w_X2_headerFor_5]
      refine b_lt (b := 72) hc (by decide) (fun h => ?_) (fun h => by omega)
      refine tt_firstOf hR h ?_
      rw [fdL] at H
      refine b_eq (a := F c) (b := 0) (hF c h) (by decide) (fun e => ?_) (fun e => ?_)
      · rw [if_pos e] at H
        rw [nI_1]
        exact ih fuel (c + 1) (by omega) (by omega) (by omega) H
      · rw [if_neg e, if_neg e] at H
        refine tt_firstOf hR h ?_
        rw [show nI (F c) - (1 : Int32) = nI (F c - 1) from pk_sub (b := 1) (by omega)]; exact H
theorem tt_headerFor {N n : Nat} {u : TS} {W F : Nat → Nat} {m : Nat} {sc : SC} {P : TS → Int32 → Prop} (hN : 3000 ≤ N) (hR : Rc u.1 W m F sc) (hF : ∀ c, c < 72 → F c < 2 ^ 31) (hn : n < 2300) (H : P u (if fd F (wsh n) = 0 then -1 else nI (fd F (wsh n) - 1))) : w_X2_headerFor N u (nI n) P := by
  unfold w_X2_headerFor
  refine l_ofWish N _ (by omega) ?_
  have hw : wsh n < 100 := of_decide_eq_true (nm_fin (fun n => decide (wsh n < 100)) 2300 (by decide +kernel) hn)
  exact tt_headerFor_L hR hF (72 - wsh n) N (wsh n) rfl (by omega) (by omega) H
theorem mm_lookFor_L {N : Nat} {v : MS} {W F : Nat → Nat} {m : Nat} {sc : SC} {P : MS → Int32 → Prop} (hR : Rc v.1 W m F sc) (hF : ∀ c, c < 72 → F c < 2 ^ 31) : ∀ (k fuel c : Nat), k = 72 - c → k < fuel → c < 2 ^ 31 → P v (nI (fdL F k c)) → w_X5_lookFor_5 N P fuel v (nI c) := by
  intro k
  induction k with
  | zero =>
    intro fuel c hk hf hc H
    match fuel, hf with
    | fuel + 1, _ =>
      rw [w_X5_lookFor_5]
      exact b_lt (b := 72) hc (by decide) (fun h => by omega) (fun _ => H)
  | succ k ih =>
    intro fuel c hk hf hc H
    match fuel, hf with
    | fuel + 1, hf =>
      rw [w_X5_lookFor_5]
      refine b_lt (b := 72) hc (by decide) (fun h => ⟨vp_in_nI h (by decide), ?_⟩) (fun h => by omega)
      rw [nI_clamp hc, hR.2.2.1 c h]
      rw [fdL] at H
      refine b_eq (a := F c) (b := 0) (hF c h) (by decide) (fun e => ?_) (fun e => ⟨vp_in_nI h (by decide), ?_⟩)
      · rw [if_pos e] at H
        rw [nI_1]
        exact ih fuel (c + 1) (by omega) (by omega) (by omega) H
      · rw [if_neg e] at H; exact H
theorem mm_lookFor {N n : Nat} {v : MS} {W F : Nat → Nat} {m : Nat} {sc : SC} {P : MS → Int32 → Prop} (hN : 3000 ≤ N) (hR : Rc v.1 W m F sc) (hF : ∀ c, c < 72 → F c < 2 ^ 31) (hn : n < 2300) (H : P v (nI (fd F (wsh n)))) : w_X5_lookFor N v (nI n) P := by
  unfold w_X5_lookFor
  refine l_wishIn N _ (by omega) (by omega) ?_
  have hw : wsh n < 100 := of_decide_eq_true (nm_fin (fun n => decide (wsh n < 100)) 2300 (by decide +kernel) hn)
  exact mm_lookFor_L hR hF (72 - wsh n) N (wsh n) rfl (by omega) (by omega) H
