/-! ===== a free block comes to its list, and leaves it ===== -/
theorem cls_lt {n : Nat} (h : n < 2048) : cls n < 72 := by
  have := nm_fin (fun n => decide (cls n < 72)) 2048 (by decide +kernel) h
  simpa using this
theorem cls_step {n : Nat} (h : n < 4096) : cls n ≤ cls (n + 1) := by
  have := nm_fin (fun n => decide (cls n ≤ cls (n + 1))) 4096 (by decide +kernel) h
  simpa using this
theorem cls_mono {a b : Nat} (h : a ≤ b) (hb : b ≤ 4096) : cls a ≤ cls b := by
  induction b with
  | zero => rw [show a = 0 by omega]; exact Nat.le_refl _
  | succ b ih =>
    rcases Nat.lt_or_ge b a with h1 | h1
    · rw [show a = b + 1 by omega]; exact Nat.le_refl _
    · exact Nat.le_trans (ih h1 (by omega)) (cls_step (by omega))
/-- a class that is enough for a wish has only blocks that are -/
theorem wsh_lt {n : Nat} (h : n < 2300) : (n ≤ 3 → 3 ≤ wsh n) ∧ (3 < n → cls (n - 1) < wsh n) := by
  have := nm_fin (fun n => decide ((n ≤ 3 → 3 ≤ wsh n) ∧ (3 < n → cls (n - 1) < wsh n))) 2300 (by decide +kernel) h
  exact of_decide_eq_true this
theorem wsh_enough {n b : Nat} (hn : n < 2300) (hb : b < 2048) (h : wsh n ≤ cls b) : n ≤ b ∧ 3 ≤ b := by
  obtain ⟨h1, h2⟩ := wsh_lt hn
  have key : ∀ k, b < k → k ≤ 8 → cls b < k := fun k hk hk8 => by unfold cls; rw [if_pos (by omega)]; exact hk
  by_cases h3 : n ≤ 3
  · have a := h1 h3
    have : ¬ b < 3 := fun z => by have := key 3 z (by decide); omega
    omega
  · have a := h2 (by omega)
    have : ¬ b < n := fun z => by have := cls_mono (show b ≤ n - 1 by omega) (by omega); omega
    omega
def lnd1 (W F : Nat → Nat) (a n : Nat) : Nat → Nat := un (un (un (un W a (4 * n + 1)) (a + 1) (F (cls n))) (a + 2) 0) (a + n) n
def lnd2 (W F : Nat → Nat) (a n : Nat) : Nat → Nat := if F (cls n) = 0 then lnd1 W F a n else un (lnd1 W F a n) (F (cls n) + 1) (a + 1)
def lndW (W : Nat → Nat) (m : Nat) (F : Nat → Nat) (a n : Nat) : Nat → Nat := if a + 1 + n < m then un (lnd2 W F a n) (a + 1 + n) (set2 (lnd2 W F a n (a + 1 + n))) else lnd2 W F a n
/-- what the place and the length of a block that comes must be -/
def okL (W : Nat → Nat) (m : Nat) (F : Nat → Nat) (a n : Nat) : Prop := 3 ≤ n ∧ a + n < m ∧ (F (cls n) = 0 ∨ (F (cls n) + 1 < m ∧ F (cls n) + 1 ≠ a)) ∧ (a + 1 + n < m → W (a + 1 + n) < 8192)
theorem lnd1_a {W F : Nat → Nat} {a n : Nat} (h : 3 ≤ n) : lnd1 W F a n a = 4 * n + 1 := by
  unfold lnd1; rw [un_n (by omega), un_n (by omega), un_n (by omega), un_s]
theorem lnd2_a {W F : Nat → Nat} {m a n : Nat} (h : okL W m F a n) : lnd2 W F a n a = 4 * n + 1 := by
  unfold lnd2
  split
  · exact lnd1_a h.1
  · rename_i e
    rw [un_n (by rcases h.2.2.1 with z | z; exact absurd z e; exact fun q => z.2 q.symm)]; exact lnd1_a h.1
theorem lnd1_b {W F : Nat → Nat} {a n : Nat} (h : 3 ≤ n) : lnd1 W F a n (a + 1 + n) = W (a + 1 + n) := by
  unfold lnd1; rw [un_n (by omega), un_n (by omega), un_n (by omega), un_n (by omega)]
theorem lnd2_b {W F : Nat → Nat} {m a n : Nat} (h : okL W m F a n) (hm : m ≤ 2048) (hb : a + 1 + n < m) : lnd2 W F a n (a + 1 + n) < 8192 := by
  unfold lnd2
  split
  · rw [lnd1_b h.1]; exact h.2.2.2 hb
  · unfold un
    split
    · omega
    · have := lnd1_b (W := W) (F := F) (a := a) h.1
      rw [this]; exact h.2.2.2 hb
section LT
variable {N : Nat} {u : TS} {W F : Nat → Nat} {m : Nat} {sc : SC}
theorem tt_come63 {a c : Nat} {P : TS → Prop} (hR : Rc u.1 W m F sc) (hc : c < 72) (H : ∀ u1 : TS, Rc u1.1 W m (un F c a) (sc.1 + 1, sc.2) → P u1) : w_X2_come_63 N P u (nI c) (nI a) := by
  unfold w_X2_come_63 zlet
  refine tt_layFirst hR hc (fun u1 h1 => H _ ?_)
  have := h1.mv (u1.1.2.2.2.1 + 1)
  rw [show u1.1.2.2.2.1 = sc.1 by rw [h1.2.2.2.1]] at this
  rw [show u1.1.2.2.2.1 = sc.1 by rw [h1.2.2.2.1]]
  exact this
theorem tt_makeFree {a n : Nat} {P : TS → Prop} (hR : Rc u.1 W m F sc) (ok : okL W m F a n) (H : ∀ u1 : TS, Rc u1.1 (lndW W m F a n) m (un F (cls n) (a + 1)) (sc.1 + 1, sc.2) → P u1) : w_X4_makeFree N u (nI a) (nI n) P := by
  have hm := hR.2.2.2.2
  obtain ⟨h3, han, hF, hB⟩ := id ok
  have hc : cls n < 72 := cls_lt (by omega)
  unfold w_X4_makeFree
  rw [show (1 : Int32) = nI 1 from rfl, nI_add, nI_l (by omega : n < 2 ^ 31)]
  refine tt_layHeader hR (by omega) (by omega) (by decide) (fun u1 r1 => ?_)
  refine tt_lay r1 han rfl (fun u2 r2 => ?_)
  unfold w_X2_come
  have ea : un (un W a (4 * n + 1)) (a + n) n a = 4 * n + 1 := by rw [un_n (by omega), un_s]
  refine tt_bodyOf r2 (by omega) (by rw [ea]; omega) ?_
  rw [ea, show (4 * n + 1) / 4 = n by omega]
  refine l_ofBody N _ (by omega) ?_
  refine tt_firstOf r2 hc ?_
  have hFb : F (cls n) < 2 ^ 31 := by rcases hF with e | e <;> omega
  rw [nI_l hFb, nI_1]
  refine tt_lay r2 (by omega) rfl (fun u3 r3 => ?_)
  rw [nI_1]
  refine tt_lay (y := 0) r3 (by omega) rfl (fun u4 r4 => ?_)
  have r4 : Rc u4.1 (lnd1 W F a n) m F sc := r4.congr (fun j _ => by
    unfold lnd1 un
    by_cases e1 : j = a + 1 + 1
    · rw [if_pos e1, if_neg (by omega), if_pos (by omega)]
    · rw [if_neg e1]
      by_cases e2 : j = a + 1
      · rw [if_pos e2, if_neg (by omega), if_neg (by omega), if_pos e2]
      · rw [if_neg e2]
        by_cases e3 : j = a + n
        · rw [if_pos e3, if_pos e3]
        · rw [if_neg e3, if_neg e3, if_neg (show ¬ j = a + 2 by omega), if_neg e2]) (fun _ _ => rfl)
  have fin : ∀ u5 : TS, Rc u5.1 (lnd2 W F a n) m (un F (cls n) (a + 1)) (sc.1 + 1, sc.2) → w_X3_tellBehind N u5 (nI a) fun u8 => P u8 := fun u5 r5 => by
    have e1 := lnd2_a ok
    refine tt_tellBehind r5 (by omega) (by rw [e1]; omega) (fun hb => ?_) (fun u6 r6 => H u6 ?_)
    · rw [e1, show (4 * n + 1) / 4 = n by omega] at hb ⊢; exact lnd2_b ok hm hb
    · rw [e1, show (4 * n + 1) / 4 = n by omega, show (4 * n + 1) % 2 = 1 by omega, if_neg (show ¬ (1 = 0) by decide)] at r6
      exact r6
  refine b_eq (a := F (cls n)) (b := 0) hFb (by decide) (fun e => ?_) (fun e => ?_)
  · refine tt_come63 r4 hc (fun u5 r5 => fin u5 ?_)
    rw [show lnd2 W F a n = lnd1 W F a n by unfold lnd2; rw [if_pos e]]; exact r5
  · rw [nI_1, nI_l (by omega : a + 1 < 2 ^ 31)]
    rcases hF with z | z
    · exact absurd z e
    · refine tt_lay r4 z.1 rfl (fun u5 r5 => ?_)
      refine tt_come63 r5 hc (fun u6 r6 => fin u6 ?_)
      rw [show lnd2 W F a n = un (lnd1 W F a n) (F (cls n) + 1) (a + 1) by unfold lnd2; rw [if_neg e]]; exact r6
end LT
section LM
variable {N : Nat} {v : MS} {W F : Nat → Nat} {m : Nat} {sc : SC}
theorem mm_lend {a n : Nat} {P : MS → Prop} (hN : 20 ≤ N) (hR : Rc v.1 W m F sc) (ok : okL W m F a n) (H : ∀ v1 : MS, Rc v1.1 (lndW W m F a n) m (un F (cls n) (a + 1)) (sc.1 + 1, sc.2) → P v1) : w_X5_lend N v (nI (a + 1)) (nI n) 0 P := by
  have hm := hR.2.2.2.2
  obtain ⟨h3, han, hF, hB⟩ := id ok
  have hc : cls n < 72 := cls_lt (by omega)
  have hFb : F (cls n) < 2 ^ 31 := by rcases hF with e | e <;> omega
  unfold w_X5_lend zlet
  refine l_classIn N _ hN (by omega) ?_
  rw [show nI (a + 1) - (1 : Int32) = nI a from nI_pred a, nI_clamp (by omega : a < 2 ^ 31), nI_clamp (by omega : cls n < 2 ^ 31), nI_clamp (by omega : a + 1 < 2 ^ 31), nI_1, nI_clamp (by omega : a + 1 + 1 < 2 ^ 31), nI_add, show nI (a + 1 + n) - (1 : Int32) = nI (a + n) by rw [show a + 1 + n = (a + n) + 1 by omega]; exact nI_pred _, nI_clamp (by omega : a + n < 2 ^ 31), nI_l (by omega : n < 2 ^ 31), show (4 : Int64) * lN n + 0 + 1 = lN (4 * n + 1) by show lN 4 * lN n + lN 0 + lN 1 = _; rw [lN_mul, lN_add, lN_add]]
  refine ⟨vp_in_nI (by omega) (by decide), vp_in_nI hc (by decide), vp_in_nI (by omega) (by decide), ?_⟩
  have r1 := hR.put a (4 * n + 1)
  have e1 : v.1.2.2.1 (cls n) = nI (F (cls n)) := hR.2.2.1 _ hc
  simp only [e1, nI_l hFb]
  have r2 := r1.put (a + 1) (F (cls n))
  have r3 := r2.put (a + 1 + 1) 0
  have r4 : Rc _ (lnd1 W F a n) m F sc := r3.put (a + n) n
  refine ⟨vp_in_nI (by omega) (by decide), vp_in_nI (by omega) (by decide), vp_in_nI hc (by decide), ?_⟩
  have fin : ∀ (v5 : MS), Rc v5.1 (lnd2 W F a n) m F sc → w_X5_lend_85 N P v5 (nI (a + 1)) (nI (cls n)) := fun v5 r5 => by
    unfold w_X5_lend_85 zlet
    rw [nI_clamp (by omega : cls n < 2 ^ 31)]
    refine ⟨vp_in_nI hc (by decide), ?_⟩
    have es : v5.1.2.2.2.1 = sc.1 := by rw [r5.2.2.2.1]
    have r6 := (r5.putF (cls n) (a + 1)).mv' (x := v5.1.2.2.2.1 + 1) (y := sc.1 + 1) (by rw [es])
    have e2 := lnd2_a ok
    refine mm_behind r6 (by omega) (by rw [e2]; omega) ?_
    rw [e2, show (4 * n + 1) / 4 = n by omega]
    by_cases hb : a + 1 + n < m
    · rw [if_pos hb]
      refine mm_tell r6 (by omega) (lnd2_b ok hm hb) (fun v1 h1 => H v1 ?_)
      rw [if_neg (by decide)] at h1
      rw [show lndW W m F a n = un (lnd2 W F a n) (a + 1 + n) (set2 (lnd2 W F a n (a + 1 + n))) by unfold lndW; rw [if_pos hb]]
      exact h1
    · rw [if_neg hb]
      refine mm_tell0 (H _ ?_)
      rw [show lndW W m F a n = lnd2 W F a n by unfold lndW; rw [if_neg hb]]
      exact r6
  refine b_eq (a := F (cls n)) (b := 0) hFb (by decide) (fun e => ?_) (fun e => ?_)
  · refine fin _ ?_
    rw [show lnd2 W F a n = lnd1 W F a n by unfold lnd2; rw [if_pos e]]; exact r4
  · rcases hF with z | z
    · exact absurd z e
    · rw [nI_1, nI_clamp (by omega : F (cls n) + 1 < 2 ^ 31), nI_l (by omega : a + 1 < 2 ^ 31)]
      refine ⟨vp_in_nI hc (by decide), vp_in_nI (by omega) (by decide), fin _ ?_⟩
      rw [show lnd2 W F a n = un (lnd1 W F a n) (F (cls n) + 1) (a + 1) by unfold lnd2; rw [if_neg e]]
      exact r4.put _ _
end LM
