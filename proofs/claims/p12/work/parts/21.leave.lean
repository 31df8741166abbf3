def lvF (W F : Nat → Nat) (a : Nat) : Nat → Nat := if W (a + 2) = 0 then un F (cls (W a / 4)) (W (a + 1)) else F
def lv1 (W : Nat → Nat) (a : Nat) : Nat → Nat := if W (a + 2) = 0 then W else un W (W (a + 2)) (W (a + 1))
def lvW (W : Nat → Nat) (a : Nat) : Nat → Nat := if W (a + 1) = 0 then lv1 W a else un (lv1 W a) (W (a + 1) + 1) (W (a + 2))
/-- what a block that leaves its list must be -/
def okV (W : Nat → Nat) (m a : Nat) : Prop := a + 2 < m ∧ W a < 8192 ∧ (W (a + 1) = 0 ∨ (W (a + 1) + 1 < m ∧ W (a + 1) + 1 ≠ a ∧ W (a + 1) + 1 ≠ W (a + 2))) ∧ (W (a + 2) = 0 ∨ (W (a + 2) < m ∧ W (a + 2) ≠ a))
theorem lvW_a {W : Nat → Nat} {m a : Nat} (h : okV W m a) : lvW W a a = W a := by
  obtain ⟨h1, h2, h3, h4⟩ := h
  have e1 : lv1 W a a = W a := by
    unfold lv1
    split
    · rfl
    · rename_i e; rcases h4 with z | z
      · exact absurd z e
      · exact un_n (fun q => z.2 q.symm)
  unfold lvW
  split
  · exact e1
  · rename_i e; rcases h3 with z | z
    · exact absurd z e
    · rw [un_n (fun q => z.2.1 q.symm)]; exact e1
section VT
variable {N : Nat} {u : TS} {W F : Nat → Nat} {m : Nat} {sc : SC}
theorem tt_leave {a : Nat} {P : TS → Prop} (hR : Rc u.1 W m F sc) (ok : okV W m a) (H : ∀ u1 : TS, Rc u1.1 (lvW W a) m (lvF W F a) (sc.1 + 1, sc.2) → P u1) : w_X2_leave N u (nI a) P := by
  have hm := hR.2.2.2.2
  obtain ⟨h1, h2, h3, h4⟩ := id ok
  have b1 : W (a + 1) < 2 ^ 31 := by omega
  have b2 : W (a + 2) < 2 ^ 31 := by omega
  unfold w_X2_leave
  rw [nI_1]
  refine tt_at hR (by omega) ?_
  rw [nI_1]
  refine tt_at hR (show a + 1 + 1 < m by omega) ?_
  rw [lN_i, lN_i, nI_l b2]
  have fin : ∀ u2 : TS, ∀ W2 : Nat → Nat, Rc u2.1 W2 m F sc → W2 a = W a → (∀ j, j < 2048 → (if W (a + 2) = 0 then W2 else un W2 (W (a + 2)) (W (a + 1))) j = lvW W a j) → w_X2_leave_44 N P u2 (nI a) (nI (W (a + 1))) (nI (W (a + 1 + 1))) := fun u2 W2 r2 ea ew => by
    have last : ∀ (u3 : TS), Rc u3.1 (lvW W a) m (lvF W F a) sc → w_X2_leave_79 N P u3 := fun u3 r3 => by
      unfold w_X2_leave_79 zlet
      exact H _ (r3.mv' (x := u3.1.2.2.2.1 + 1) (y := sc.1 + 1) (by rw [r3.2.2.2.1]))
    unfold w_X2_leave_44
    refine b_eq (a := W (a + 1 + 1)) (b := 0) b2 (by decide) (fun e => ?_) (fun e => ?_)
    · have e : W (a + 2) = 0 := e
      refine tt_bodyOf r2 (by omega) (by rw [ea]; omega) ?_
      rw [ea]
      refine l_ofBody N _ (by omega) ?_
      refine tt_layFirst r2 (cls_lt (by omega)) (fun u3 r3 => last u3 ?_)
      rw [show lvF W F a = un F (cls (W a / 4)) (W (a + 1)) by unfold lvF; rw [if_pos e]]
      exact r3.congr (fun j hj => by have := ew j hj; rw [if_pos e] at this; exact this) (fun _ _ => rfl)
    · have e : ¬ W (a + 2) = 0 := e
      rw [nI_l b1]
      refine tt_lay r2 (by rcases h4 with z | z; exact absurd z e; exact z.1) rfl (fun u3 r3 => last u3 ?_)
      rw [show lvF W F a = F by unfold lvF; rw [if_neg e]]
      exact r3.congr (fun j hj => by have := ew j hj; rw [if_neg e] at this; exact this) (fun _ _ => rfl)
  refine b_eq (a := W (a + 1)) (b := 0) b1 (by decide) (fun e => ?_) (fun e => ?_)
  · exact fin u W hR rfl (fun j _ => by unfold lvW lv1; rw [if_pos e])
  · rw [nI_1]
    rcases h3 with z | z
    · exact absurd z e
    · refine tt_lay hR z.1 rfl (fun u2 r2 => fin u2 _ r2 (un_n (fun q => z.2.1 q.symm)) (fun j _ => ?_))
      unfold lvW lv1
      rw [if_neg e]
      by_cases e2 : W (a + 2) = 0
      · rw [if_pos e2, if_pos e2]
      · rw [if_neg e2, if_neg e2]
        show un (un W (W (a + 1) + 1) (W (a + 2))) (W (a + 2)) (W (a + 1)) j = un (un W (W (a + 2)) (W (a + 1))) (W (a + 1) + 1) (W (a + 2)) j
        unfold un
        by_cases q1 : j = W (a + 2)
        · rw [if_pos q1, if_neg (fun q => z.2.2 (q.symm.trans q1)), if_pos q1]
        · rw [if_neg q1]
          by_cases q2 : j = W (a + 1) + 1
          · rw [if_pos q2, if_pos q2]
          · rw [if_neg q2, if_neg q2, if_neg q1]
end VT
section VM
variable {N : Nat} {v : MS} {W F : Nat → Nat} {m : Nat} {sc : SC}
theorem mm_leave {a : Nat} {P : MS → Prop} (hN : 20 ≤ N) (hR : Rc v.1 W m F sc) (ok : okV W m a) (H : ∀ v1 : MS, Rc v1.1 (lvW W a) m (lvF W F a) (sc.1 + 1, sc.2) → P v1) : w_X5_leave N v (nI (a + 1)) P := by
  have hm := hR.2.2.2.2
  obtain ⟨h1, h2, h3, h4⟩ := id ok
  have b1 : W (a + 1) < 2 ^ 31 := by omega
  have b2 : W (a + 2) < 2 ^ 31 := by omega
  unfold w_X5_leave zlet
  rw [nI_1, nI_clamp (by omega : a + 1 < 2 ^ 31), nI_clamp (by omega : a + 1 + 1 < 2 ^ 31), hR.1 (a + 1) (by omega), hR.1 (a + 1 + 1) (by omega), lN_i, lN_i, nI_clamp (by omega : W (a + 1 + 1) < 2 ^ 31), nI_l b1]
  refine ⟨vp_in_nI (by omega) (by decide), vp_in_nI (by omega) (by decide), ?_⟩
  have fin : ∀ v2 : MS, Rc v2.1 (lv1 W a) m (lvF W F a) sc → w_X5_leave_47 N P v2 (nI (W (a + 1))) (nI (W (a + 1 + 1))) := fun v2 r2 => by
    have last : ∀ v3 : MS, Rc v3.1 (lvW W a) m (lvF W F a) sc → w_X5_leave_61 N P v3 := fun v3 r3 => by
      unfold w_X5_leave_61 zlet
      exact H _ (r3.mv' (x := v3.1.2.2.2.1 + 1) (y := sc.1 + 1) (by rw [r3.2.2.2.1]))
    unfold w_X5_leave_47 zlet
    refine b_eq (a := W (a + 1)) (b := 0) b1 (by decide) (fun e => last _ ?_) (fun e => ?_)
    · rw [show lvW W a = lv1 W a by unfold lvW; rw [if_pos e]]; exact r2
    · rcases h3 with z | z
      · exact absurd z e
      · rw [nI_1, nI_clamp (by omega : W (a + 1) + 1 < 2 ^ 31), nI_l (by omega : W (a + 1 + 1) < 2 ^ 31)]
        refine ⟨vp_in_nI (by omega) (by decide), last _ ?_⟩
        rw [show lvW W a = un (lv1 W a) (W (a + 1) + 1) (W (a + 2)) by unfold lvW; rw [if_neg e]]
        exact r2.put _ _
  refine b_eq (a := W (a + 1 + 1)) (b := 0) (by omega) (by decide) (fun e => ?_) (fun e => ?_)
  · have e : W (a + 2) = 0 := e
    refine mm_words hR (by omega) (by omega) ?_
    refine l_classIn N _ hN (by omega) ?_
    rw [nI_clamp (by have := cls_lt (n := W a / 4) (by omega); omega : cls (W a / 4) < 2 ^ 31)]
    refine ⟨vp_in_nI (cls_lt (by omega)) (by decide), fin _ ?_⟩
    rw [show lv1 W a = W by unfold lv1; rw [if_pos e], show lvF W F a = un F (cls (W a / 4)) (W (a + 1)) by unfold lvF; rw [if_pos e]]
    exact hR.putF _ _
  · have e : ¬ W (a + 2) = 0 := e
    rcases h4 with z | z
    · exact absurd z e
    · refine ⟨vp_in_nI (show W (a + 1 + 1) < 2048 from Nat.lt_of_lt_of_le z.1 hm) (by decide), fin _ ?_⟩
      rw [show lv1 W a = un W (W (a + 2)) (W (a + 1)) by unfold lv1; rw [if_neg e], show lvF W F a = F by unfold lvF; rw [if_neg e]]
      exact hR.put _ _
end VM
