/-! ===== what a core holds, in plain numbers; the class's and the reference's small methods ===== -/
def un (f : Nat → Nat) (k x : Nat) : Nat → Nat := fun j => if j = k then x else f j
theorem un_s {f : Nat → Nat} {k x : Nat} : un f k x k = x := if_pos rfl
theorem un_n {f : Nat → Nat} {k x j : Nat} (h : j ≠ k) : un f k x j = f j := if_neg h
abbrev SC : Type := Int32 × Int32 × Int32 × Int32
def Rc (c : CS) (W : Nat → Nat) (m : Nat) (F : Nat → Nat) (sc : SC) : Prop := (∀ j, j < 2048 → c.1 j = lN (W j)) ∧ c.2.1 = nI m ∧ (∀ j, j < 72 → c.2.2.1 j = nI (F j)) ∧ c.2.2.2 = sc ∧ m ≤ 2048
theorem Rc.congr {c : CS} {W W' : Nat → Nat} {m : Nat} {F F' : Nat → Nat} {sc : SC} (h : Rc c W m F sc) (e : ∀ j, j < 2048 → W j = W' j) (f : ∀ j, j < 72 → F j = F' j) : Rc c W' m F' sc := ⟨fun j hj => by rw [← e j hj]; exact h.1 j hj, h.2.1, fun j hj => by rw [← f j hj]; exact h.2.2.1 j hj, h.2.2.2.1, h.2.2.2.2⟩
theorem Rc.put {c : CS} {W : Nat → Nat} {m : Nat} {F : Nat → Nat} {sc : SC} (h : Rc c W m F sc) (a y : Nat) : Rc (sW c (vp_updL c.1 a (lN y))) (un W a y) m F sc := ⟨fun j hj => by
  show vp_updL c.1 a (lN y) j = lN (un W a y j)
  unfold vp_updL un
  by_cases e : j = a
  · rw [if_pos e, if_pos e]
  · rw [if_neg e, if_neg e]; exact h.1 j hj, h.2.1, h.2.2.1, h.2.2.2.1, h.2.2.2.2⟩
theorem Rc.putF {c : CS} {W : Nat → Nat} {m : Nat} {F : Nat → Nat} {sc : SC} (h : Rc c W m F sc) (a y : Nat) : Rc (sF c (upd c.2.2.1 a (nI y))) W m (un F a y) sc := ⟨h.1, h.2.1, fun j hj => by
  show upd c.2.2.1 a (nI y) j = nI (un F a y j)
  unfold upd un
  by_cases e : j = a
  · rw [if_pos e, if_pos e]
  · rw [if_neg e, if_neg e]; exact h.2.2.1 j hj, h.2.2.2.1, h.2.2.2.2⟩
theorem Rc.mv {c : CS} {W : Nat → Nat} {m : Nat} {F : Nat → Nat} {sc : SC} (h : Rc c W m F sc) (x : Int32) : Rc (sMv c x) W m F (x, sc.2) := ⟨h.1, h.2.1, h.2.2.1, by show (x, c.2.2.2.2) = _; rw [h.2.2.2.1], h.2.2.2.2⟩
theorem Rc.mv' {c : CS} {W : Nat → Nat} {m : Nat} {F : Nat → Nat} {sc : SC} {x y : Int32} (h : Rc c W m F sc) (e : x = y) : Rc (sMv c x) W m F (y, sc.2) := by subst e; exact h.mv x
section PT
variable {N : Nat} {u : TS} {W F : Nat → Nat} {m : Nat} {sc : SC}
theorem tt_at {a : Nat} {P : TS → Int64 → Prop} (hR : Rc u.1 W m F sc) (ha : a < m) (H : P u (lN (W a))) : w_X3_at N u (nI a) P := by
  have hm := hR.2.2.2.2
  unfold w_X3_at
  rw [hR.2.1, nI_clamp (by omega), hR.1 a (by omega)]
  exact ⟨fun h => absurd h (nI_pos (by omega)), fun _ => b_lt (by omega) (by omega) (fun _ => ⟨vp_in_nI (by omega) (by decide), H⟩) (fun h => by omega)⟩
theorem tt_at0 {a : Nat} {P : TS → Int64 → Prop} (hR : Rc u.1 W m F sc) (ha : m ≤ a) (ha2 : a < 2 ^ 31) (H : P u 0) : w_X3_at N u (nI a) P := by
  have hm := hR.2.2.2.2
  unfold w_X3_at
  rw [hR.2.1]
  exact ⟨fun _ => H, fun _ => b_lt ha2 (by omega) (fun h => by omega) (fun _ => H)⟩
theorem tt_lay {a y : Nat} {x : Int64} {P : TS → Prop} (hR : Rc u.1 W m F sc) (ha : a < m) (hx : x = lN y) (H : ∀ u1 : TS, Rc u1.1 (un W a y) m F sc → P u1) : w_X3_lay N u (nI a) x P := by
  have hm := hR.2.2.2.2
  subst hx
  unfold w_X3_lay zlet
  rw [hR.2.1, nI_clamp (by omega)]
  exact ⟨fun h => absurd h (nI_pos (by omega)), fun _ => b_lt (by omega) (by omega) (fun _ => ⟨vp_in_nI (by omega) (by decide), H _ (hR.put a y)⟩) (fun h => by omega)⟩
theorem tt_lay0 {a : Nat} {x : Int64} {P : TS → Prop} (hR : Rc u.1 W m F sc) (ha : m ≤ a) (ha2 : a < 2 ^ 31) (H : P u) : w_X3_lay N u (nI a) x P := by
  have hm := hR.2.2.2.2
  unfold w_X3_lay
  rw [hR.2.1]
  exact ⟨fun _ => H, fun _ => b_lt ha2 (by omega) (fun h => by omega) (fun _ => H)⟩
theorem tt_has {a : Nat} {P : TS → Int32 → Prop} (hR : Rc u.1 W m F sc) (ha2 : a < 2 ^ 31) (H : P u (if a < m then 1 else 0)) : w_X3_has N u (nI a) P := by
  have hm := hR.2.2.2.2
  unfold w_X3_has
  rw [hR.2.1]
  refine ⟨fun h => absurd h (nI_pos ha2), fun _ => b_lt ha2 (by omega) (fun h => ?_) (fun h => ?_)⟩
  · rw [if_pos h] at H; exact H
  · rw [if_neg (by omega)] at H; exact H
theorem tt_bodyOf {a : Nat} {P : TS → Int32 → Prop} (hR : Rc u.1 W m F sc) (ha : a < m) (hw : W a < 2 ^ 63) (H : P u (nI (W a / 4))) : w_X3_bodyOf N u (nI a) P := by
  unfold w_X3_bodyOf
  refine tt_at hR ha ?_
  rw [nm_div4 hw, lN_i]; exact H
theorem tt_behind {a : Nat} {P : TS → Int32 → Prop} (hR : Rc u.1 W m F sc) (ha : a < m) (hw : W a < 2 ^ 63) (H : P u (nI (a + 1 + W a / 4))) : w_X3_behind N u (nI a) P := by
  unfold w_X3_behind
  refine tt_at hR ha ?_
  rw [nm_div4 hw, lN_i, nI_1, nI_add]; exact H
theorem tt_isFree {a : Nat} {P : TS → Int32 → Prop} (hR : Rc u.1 W m F sc) (ha : a < m) (hw : W a < 2 ^ 64) (H : P u (nI (W a % 2))) : w_X3_isFree N u (nI a) P := by
  unfold w_X3_isFree
  refine tt_at hR ha ?_
  rw [nm_and1 hw]
  rcases Nat.mod_two_eq_zero_or_one (W a) with e | e <;> rw [e] at H ⊢
  · exact ⟨fun _ => H, fun h => absurd rfl h⟩
  · exact ⟨fun h => absurd h (by decide), fun _ => H⟩
theorem tt_isFree0 {a : Nat} {P : TS → Int32 → Prop} (hR : Rc u.1 W m F sc) (ha : m ≤ a) (ha2 : a < 2 ^ 31) (H : P u 0) : w_X3_isFree N u (nI a) P := by
  unfold w_X3_isFree
  exact tt_at0 hR ha ha2 ⟨fun _ => H, fun h => absurd rfl h⟩
theorem tt_isAhead {a : Nat} {P : TS → Int32 → Prop} (hR : Rc u.1 W m F sc) (ha : a < m) (hw : W a < 2 ^ 64) (H : P u (nI (W a / 2 % 2))) : w_X3_isAheadFree N u (nI a) P := by
  unfold w_X3_isAheadFree
  refine tt_at hR ha ?_
  rw [nm_and2 hw]
  rcases Nat.mod_two_eq_zero_or_one (W a / 2) with e | e <;> rw [e] at H ⊢
  · exact ⟨fun _ => H, fun h => absurd rfl h⟩
  · exact ⟨fun h => absurd h (by decide), fun _ => H⟩
theorem tt_layHeader {a b k : Nat} {P : TS → Prop} (hR : Rc u.1 W m F sc) (ha : a < m) (hb : b < 2 ^ 31) (hk : k < 2 ^ 31) (H : ∀ u1 : TS, Rc u1.1 (un W a (4 * b + k)) m F sc → P u1) : w_X3_layHeader N u (nI a) (nI b) (nI k) P := by
  unfold w_X3_layHeader
  refine tt_lay (y := 4 * b + k) hR ha ?_ H
  rw [nI_l hb, nI_l hk]
  show lN b * lN 4 + lN k = _
  rw [lN_mul, lN_add, Nat.mul_comm]
theorem tt_layBody {a b : Nat} {P : TS → Prop} (hR : Rc u.1 W m F sc) (ha : a < m) (hb : b < 2 ^ 31) (hw : W a < 2 ^ 64) (H : ∀ u1 : TS, Rc u1.1 (un W a (4 * b + W a % 4)) m F sc → P u1) : w_X3_layBody N u (nI a) (nI b) P := by
  unfold w_X3_layBody
  refine tt_at hR ha ?_
  rw [nm_and3 hw, lN_i]
  exact tt_layHeader hR ha hb (by omega) H
/-- the header behind bears whether this block is free -/
theorem tt_tellBehind {a : Nat} {P : TS → Prop} (hR : Rc u.1 W m F sc) (ha : a < m) (hw : W a < 8192) (hw2 : a + 1 + W a / 4 < m → W (a + 1 + W a / 4) < 8192)
    (H : ∀ u1 : TS, Rc u1.1 (if a + 1 + W a / 4 < m then un W (a + 1 + W a / 4) (if W a % 2 = 0 then clr2 (W (a + 1 + W a / 4)) else set2 (W (a + 1 + W a / 4))) else W) m F sc → P u1) : w_X3_tellBehind N u (nI a) P := by
  have hm := hR.2.2.2.2
  unfold w_X3_tellBehind
  refine tt_behind hR ha (by omega) ?_
  generalize hb : a + 1 + W a / 4 = b at hw2 H ⊢
  have hb2 : b < 2 ^ 31 := by omega
  by_cases h : b < m
  · rw [if_pos h] at H
    refine tt_at hR h ?_
    rw [nm_clr (hw2 h)]
    refine tt_isFree hR ha (by omega) ?_
    rcases Nat.mod_two_eq_zero_or_one (W a) with e | e <;> rw [e] at H ⊢
    · rw [if_pos rfl] at H
      exact ⟨fun _ => tt_lay hR h rfl H, fun z => absurd rfl z⟩
    · rw [if_neg (by decide)] at H
      refine ⟨fun z => absurd z (by decide), fun _ => tt_lay (y := set2 (W b)) hR h ?_ H⟩
      show lN (clr2 (W b)) + lN 2 = _
      rw [lN_add]; rfl
  · rw [if_neg h] at H
    refine tt_at0 hR (by omega) hb2 ?_
    refine tt_isFree hR ha (by omega) ?_
    exact ⟨fun _ => tt_lay0 hR (by omega) hb2 (H _ hR), fun _ => tt_lay0 hR (by omega) hb2 (H _ hR)⟩
theorem tt_freeAhead {a : Nat} {P : TS → Int32 → Prop} (hR : Rc u.1 W m F sc) (ha : a < m) (h0 : 0 < a) (hw : W (a - 1) < a) (H : P u (nI (a - 1 - W (a - 1)))) : w_X3_freeAhead N u (nI a) P := by
  have hm := hR.2.2.2.2
  unfold w_X3_freeAhead
  rw [show nI a - (1 : Int32) = nI (a - 1) from pk_sub (b := 1) (by omega)]
  refine tt_at hR (by omega) ?_
  rw [lN_i, pk_sub (by omega)]; exact H
theorem tt_firstOf {c : Nat} {P : TS → Int32 → Prop} (hR : Rc u.1 W m F sc) (hc : c < 72) (H : P u (nI (F c))) : w_X2_firstOf N u (nI c) P := by
  unfold w_X2_firstOf
  rw [nI_clamp (by omega), hR.2.2.1 c hc]
  exact ⟨fun h => absurd h (nI_pos (by omega)), fun _ => b_lt (b := 72) (by omega) (by decide) (fun _ => ⟨vp_in_nI hc (by decide), H⟩) (fun h => by omega)⟩
theorem tt_layFirst {c y : Nat} {P : TS → Prop} (hR : Rc u.1 W m F sc) (hc : c < 72) (H : ∀ u1 : TS, Rc u1.1 W m (un F c y) sc → P u1) : w_X2_layFirst N u (nI c) (nI y) P := by
  unfold w_X2_layFirst zlet
  rw [nI_clamp (by omega)]
  exact ⟨fun h => absurd h (nI_pos (by omega)), fun _ => b_lt (b := 72) (by omega) (by decide) (fun _ => ⟨vp_in_nI hc (by decide), H _ (hR.putF c y)⟩) (fun h => by omega)⟩
theorem tt_forget {P : TS → Prop} (hR : Rc u.1 W m F sc) (H : ∀ u1 : TS, Rc u1.1 W m F (0, sc.2) → P u1) : w_X2_forgetMoves N u P := H _ (hR.mv 0)
end PT
section PM
variable {N : Nat} {v : MS} {W F : Nat → Nat} {m : Nat} {sc : SC}
theorem mm_words {a : Nat} {P : MS → Int32 → Prop} (hR : Rc v.1 W m F sc) (ha : a < 2048) (hw : W a < 2 ^ 62) (H : P v (nI (W a / 4))) : w_X5_words N v (nI (a + 1)) P := by
  unfold w_X5_words
  rw [show nI (a + 1) - (1 : Int32) = nI a from nI_pred a, nI_clamp (by omega), hR.1 a ha, nm_shr2 hw, lN_i]
  exact ⟨vp_in_nI ha (by decide), H⟩
theorem mm_isFree {a : Nat} {P : MS → Int32 → Prop} (hR : Rc v.1 W m F sc) (ha : a < 2048) (hw : W a < 2 ^ 64) (H : P v (nI (W a % 2))) : w_X5_isFree N v (nI (a + 1)) P := by
  unfold w_X5_isFree
  rw [show nI (a + 1) - (1 : Int32) = nI a from nI_pred a, nI_clamp (by omega), hR.1 a ha, nm_and1 hw]
  refine ⟨vp_in_nI ha (by decide), ?_⟩
  rcases Nat.mod_two_eq_zero_or_one (W a) with e | e <;> rw [e] at H ⊢
  · exact ⟨fun z => absurd z (by decide), fun _ => H⟩
  · exact ⟨fun _ => H, fun z => absurd rfl z⟩
theorem mm_behind {a : Nat} {P : MS → Int32 → Prop} (hR : Rc v.1 W m F sc) (ha : a < 2048) (hw : W a < 2 ^ 30) (H : P v (nI (if a + 1 + W a / 4 < m then a + 1 + W a / 4 + 1 else 0))) : w_X5_behind N v (nI (a + 1)) P := by
  have hm := hR.2.2.2.2
  unfold w_X5_behind
  refine mm_words hR ha (by omega) ?_
  rw [nI_add, nI_1, hR.2.1]
  refine b_lt (a := m) (b := a + 1 + W a / 4 + 1) (by omega) (by omega) (fun h => ?_) (fun h => ?_)
  · rw [if_neg (by omega)] at H; exact H
  · rw [if_pos (by omega)] at H; exact H
theorem mm_tell0 {k : Int32} {P : MS → Prop} (H : P v) : w_X5_tell N v (nI 0) k P := by
  unfold w_X5_tell
  exact ⟨fun h => absurd h (by decide), fun _ => H⟩
theorem mm_tell {b : Nat} {k : Int32} {P : MS → Prop} (hR : Rc v.1 W m F sc) (hb : b < 2048) (hw : W b < 8192) (H : ∀ v1 : MS, Rc v1.1 (un W b (if k = 0 then clr2 (W b) else set2 (W b))) m F sc → P v1) : w_X5_tell N v (nI (b + 1)) k P := by
  unfold w_X5_tell zlet
  rw [show nI (b + 1) - (1 : Int32) = nI b from nI_pred b, nI_clamp (by omega), hR.1 b hb, nm_clr hw, nm_or2 hw]
  refine b_lt (a := 0) (b := b + 1) (by decide) (by omega) (fun _ => ⟨fun e => ?_, fun e => ?_⟩) (fun h => by omega)
  · rw [if_pos e] at H
    exact ⟨vp_in_nI hb (by decide), vp_in_nI hb (by decide), H _ (hR.put b _)⟩
  · rw [if_neg e] at H
    exact ⟨vp_in_nI hb (by decide), vp_in_nI hb (by decide), H _ (hR.put b _)⟩
end PM
