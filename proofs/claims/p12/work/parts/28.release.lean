/-! ===== a block is released: the free one behind it leaves its list, then the one ahead, then the whole comes ===== -/
def rbS (W : Nat → Nat) (h : Nat) : Nat := h - 1 - W (h - 1)
def rbW (W : Nat → Nat) (m : Nat) (F : Nat → Nat) (h n p : Nat) : Nat → Nat := if p = 0 then lndW W m F h n else lndW (lvW W (rbS W h)) m (lvF W F (rbS W h)) (rbS W h) (W (h - 1) + 1 + n)
def rbF (W F : Nat → Nat) (h n p : Nat) : Nat → Nat := if p = 0 then un F (cls n) (h + 1) else un (lvF W F (rbS W h)) (cls (W (h - 1) + 1 + n)) (rbS W h + 1)
def rbC (sc : SC) (p : Nat) : SC := if p = 0 then (sc.1 + 1, sc.2) else (sc.1 + 1 + 1, sc.2)
def rbN (W : Nat → Nat) (h n p : Nat) : Nat := if p = 0 then n else W (h - 1) + 1 + n
theorem HI.rbWF {W : Nat → Nat} {m : Nat} {F : Nat → Nat} {S : Nat → Prop} {h n p : Nat} (hI : HI W m F S h n p) : ∃ S', WF (rbW W m F h n p) m (rbF W F h n p) S' := by
  have hp := hI.1.2.2.2.2.2.1
  rcases (show p = 0 ∨ p = 1 by omega) with e | e
  · subst e; exact ⟨S, hI.free⟩
  · subst e
    obtain ⟨s, s1, s2, s3, s4, s5, s6, s7, s8, s9⟩ := hI.ahead
    refine ⟨fun x => S x ∧ x ≠ h, ?_⟩
    have k := s9.free
    rw [s5] at k
    unfold rbW rbF rbS
    rw [if_neg (by decide), if_neg (by decide), ← s7]
    exact k
section RT
variable {N : Nat} {u : TS} {W F : Nat → Nat} {m : Nat} {sc : SC} {S : Nat → Prop}
theorem tt_rel56 {h n p : Nat} {P : TS → Int32 → Prop} (hR : Rc u.1 W m F sc) (hI : HI W m F S h n p) (hp : W h / 2 % 2 = p) (hw : W h < 8192) (H : ∀ u1 : TS, Rc u1.1 (rbW W m F h n p) m (rbF W F h n p) (rbC sc p) → P u1 (nI (rbN W h n p))) : w_X4_release_56 N P u (nI h) (nI h) (nI n) := by
  have hm := hR.2.2.2.2
  have g6 := hI.1.2.2.2.2.2.1
  have hM := hI.2.1.2.1
  have h3 := hI.2.1.1
  unfold w_X4_release_56
  refine tt_isAhead hR (by omega) (by omega) ?_
  rw [hp]
  rcases (show p = 0 ∨ p = 1 by omega) with e | e
  · subst e
    refine ⟨fun _ => tt_makeFree hR hI.okl (fun u1 r1 => H u1 r1), fun z => absurd rfl z⟩
  · subst e
    refine ⟨fun z => absurd z (by decide), fun _ => ?_⟩
    obtain ⟨s, s1, s2, s3, s4, s5, s6, s7, s8, s9⟩ := hI.ahead
    refine tt_freeAhead hR (by omega) (by omega) s6 ?_
    rw [← s7]
    refine tt_leave hR s8 (fun u1 r1 => ?_)
    refine tt_bodyOf r1 (by omega) (by rw [lvW_a s8]; have := s8.2.1; omega) ?_
    rw [lvW_a s8, s5, show (1 : Int32) = nI 1 from rfl, nI_add, nI_add, show n + (1 + W (h - 1)) = W (h - 1) + 1 + n by omega]
    have k := s9.okl
    rw [s5] at k
    refine tt_makeFree r1 k (fun u2 r2 => ?_)
    have := H u2 (by unfold rbW rbF rbC rbS; rw [if_neg (by decide), if_neg (by decide), if_neg (by decide), ← s7]; exact r2)
    unfold rbN at this
    rw [if_neg (by decide)] at this
    exact this
end RT
section RM
variable {N : Nat} {v : MS} {W F : Nat → Nat} {m : Nat} {sc : SC} {S : Nat → Prop}
theorem mm_rel46 {h n p : Nat} {P : MS → Int32 → Prop} (hN : 3000 ≤ N) (hR : Rc v.1 W m F sc) (hI : HI W m F S h n p) (hp : W h / 2 % 2 = p) (hw : W h < 8192) (H : ∀ v1 : MS, Rc v1.1 (rbW W m F h n p) m (rbF W F h n p) (rbC sc p) → P v1 (nI (rbN W h n p))) : w_X5_release_46 N P v (nI (h + 1)) (nI (h + 1)) (nI n) := by
  have hm := hR.2.2.2.2
  have g6 := hI.1.2.2.2.2.2.1
  have hM := hI.2.1.2.1
  have h3 := hI.2.1.1
  unfold w_X5_release_46
  rw [show nI (h + 1) - (1 : Int32) = nI h from nI_pred h, nI_clamp (by omega : h < 2 ^ 31), hR.1 h (by omega), nm_and2 (by omega), hp]
  refine ⟨vp_in_nI (by omega) (by decide), ?_⟩
  rcases (show p = 0 ∨ p = 1 by omega) with e | e
  · subst e
    refine ⟨fun z => absurd z (by decide), fun _ => ?_⟩
    unfold w_X5_release_95
    exact mm_lend (by omega) hR hI.okl (fun v1 r1 => H v1 r1)
  · subst e
    refine ⟨fun _ => ?_, fun z => absurd rfl z⟩
    obtain ⟨s, s1, s2, s3, s4, s5, s6, s7, s8, s9⟩ := hI.ahead
    rw [show nI (h + 1) - (2 : Int32) = nI (h - 1) from by show _ - nI 2 = _; rw [pk_sub (by omega)]; congr 1, nI_clamp (by omega : h - 1 < 2 ^ 31), hR.1 (h - 1) (by omega), lN_i, pk_sub (by omega), show h - W (h - 1) = s + 1 by omega, show (1 : Int32) = nI 1 from rfl, nI_add, nI_add, show n + (1 + W (h - 1)) = W (h - 1) + 1 + n by omega]
    refine ⟨vp_in_nI (by omega) (by decide), mm_leave (by omega) hR s8 (fun v1 r1 => ?_)⟩
    unfold w_X5_release_95
    have k := s9.okl
    rw [s5] at k
    refine mm_lend (by omega) r1 k (fun v2 r2 => ?_)
    have := H v2 (by unfold rbW rbF rbC rbS; rw [if_neg (by decide), if_neg (by decide), if_neg (by decide), ← s7]; exact r2)
    unfold rbN at this
    rw [if_neg (by decide)] at this
    exact this
end RM
/-- the block behind, if it is free, leaves its list -/
def raB (W : Nat → Nat) (m h : Nat) : Prop := Nx W h < m ∧ W (Nx W h) % 2 = 1
theorem rel_A {W : Nat → Nat} {m : Nat} {F : Nat → Nat} {S : Nat → Prop} (hW : WF W m F S) {h : Nat} (hs : S h) (hu : W h % 2 = 0) : (¬ raB W m h ∧ HI W m F S h (W h / 4) (W h / 2 % 2)) ∨ (raB W m h ∧ okV W m (Nx W h) ∧ lvW W (Nx W h) h = W h ∧ HI (lvW W (Nx W h)) m (lvF W F (Nx W h)) (fun x => S x ∧ x ≠ Nx W h) h (W h / 4 + 1 + W (Nx W h) / 4) (W h / 2 % 2)) := by
  by_cases e : raB W m h
  · exact Or.inr ⟨e, hW.joinNext hs hu e.1 e.2⟩
  · refine Or.inl ⟨e, hW.hole hs hu (fun z => ?_)⟩
    rcases Nat.mod_two_eq_zero_or_one (W (Nx W h)) with q | q
    · exact q
    · exact absurd ⟨z, q⟩ e
/-- what is there behind release: some well-formed pool, the same on both sides -/
def Same (c c' : CS) (W : Nat → Nat) (m : Nat) (F : Nat → Nat) (sc : SC) : Prop := Rc c W m F sc ∧ Rc c' W m F sc
theorem tt_release {N : Nat} {u : TS} {W F : Nat → Nat} {m : Nat} {sc : SC} {S : Nat → Prop} {h : Nat} {P : TS → Int32 → Prop} (hR : Rc u.1 W m F sc) (hs : h < m) (hw : W h < 8192) (hn : Nx W h ≤ m)
    (hA : (¬ raB W m h ∧ HI W m F S h (W h / 4) (W h / 2 % 2)) ∨ (raB W m h ∧ okV W m (Nx W h) ∧ lvW W (Nx W h) h = W h ∧ HI (lvW W (Nx W h)) m (lvF W F (Nx W h)) (fun x => S x ∧ x ≠ Nx W h) h (W h / 4 + 1 + W (Nx W h) / 4) (W h / 2 % 2)))
    (hb : Nx W h < m → W (Nx W h) < 8192)
    (H0 : ¬ raB W m h → ∀ u1 : TS, Rc u1.1 (rbW W m F h (W h / 4) (W h / 2 % 2)) m (rbF W F h (W h / 4) (W h / 2 % 2)) (rbC sc (W h / 2 % 2)) → P u1 (nI (rbN W h (W h / 4) (W h / 2 % 2))))
    (H1 : raB W m h → ∀ u1 : TS, Rc u1.1 (rbW (lvW W (Nx W h)) m (lvF W F (Nx W h)) h (W h / 4 + 1 + W (Nx W h) / 4) (W h / 2 % 2)) m (rbF (lvW W (Nx W h)) (lvF W F (Nx W h)) h (W h / 4 + 1 + W (Nx W h) / 4) (W h / 2 % 2)) (rbC (sc.1 + 1, sc.2) (W h / 2 % 2)) → P u1 (nI (rbN (lvW W (Nx W h)) h (W h / 4 + 1 + W (Nx W h) / 4) (W h / 2 % 2)))) : w_X4_release N u (nI h) P := by
  have hm := hR.2.2.2.2
  unfold w_X4_release
  refine tt_bodyOf hR hs (by omega) ?_
  refine tt_behind hR hs (by omega) ?_
  rw [show h + 1 + W h / 4 = Nx W h from rfl]
  by_cases hlt : Nx W h < m
  · refine tt_isFree hR hlt (by have := hb hlt; omega) ?_
    rcases hA with ⟨a1, a2⟩ | ⟨a1, a2, a3, a4⟩
    · rcases Nat.mod_two_eq_zero_or_one (W (Nx W h)) with q | q
      · rw [q]; exact ⟨fun _ => tt_rel56 hR a2 rfl hw (H0 a1), fun z => absurd rfl z⟩
      · exact absurd ⟨hlt, q⟩ a1
    · rw [a1.2]
      refine ⟨fun z => absurd z (by decide), fun _ => tt_leave hR a2 (fun u1 r1 => ?_)⟩
      refine tt_bodyOf r1 hlt (by rw [lvW_a a2]; have := a2.2.1; omega) ?_
      rw [lvW_a a2, show (1 : Int32) = nI 1 from rfl, nI_add, nI_add, show W h / 4 + (1 + W (Nx W h) / 4) = W h / 4 + 1 + W (Nx W h) / 4 by omega]
      exact tt_rel56 r1 a4 (by rw [a3]) (by rw [a3]; exact hw) (H1 a1)
  · have a1 : ¬ raB W m h := fun z => hlt z.1
    refine tt_isFree0 hR (by omega) (by omega) ⟨fun _ => ?_, fun z => absurd rfl z⟩
    rcases hA with ⟨_, a2⟩ | ⟨a1', _⟩
    · exact tt_rel56 hR a2 rfl hw (H0 a1)
    · exact absurd a1' a1
theorem mm_release {N : Nat} {v : MS} {W F : Nat → Nat} {m : Nat} {sc : SC} {S : Nat → Prop} {h : Nat} {P : MS → Int32 → Prop} (hN : 3000 ≤ N) (hR : Rc v.1 W m F sc) (hs : h < m) (hw : W h < 8192) (hn : Nx W h ≤ m)
    (hA : (¬ raB W m h ∧ HI W m F S h (W h / 4) (W h / 2 % 2)) ∨ (raB W m h ∧ okV W m (Nx W h) ∧ lvW W (Nx W h) h = W h ∧ HI (lvW W (Nx W h)) m (lvF W F (Nx W h)) (fun x => S x ∧ x ≠ Nx W h) h (W h / 4 + 1 + W (Nx W h) / 4) (W h / 2 % 2)))
    (hb : Nx W h < m → W (Nx W h) < 8192)
    (H0 : ¬ raB W m h → ∀ v1 : MS, Rc v1.1 (rbW W m F h (W h / 4) (W h / 2 % 2)) m (rbF W F h (W h / 4) (W h / 2 % 2)) (rbC sc (W h / 2 % 2)) → P v1 (nI (rbN W h (W h / 4) (W h / 2 % 2))))
    (H1 : raB W m h → ∀ v1 : MS, Rc v1.1 (rbW (lvW W (Nx W h)) m (lvF W F (Nx W h)) h (W h / 4 + 1 + W (Nx W h) / 4) (W h / 2 % 2)) m (rbF (lvW W (Nx W h)) (lvF W F (Nx W h)) h (W h / 4 + 1 + W (Nx W h) / 4) (W h / 2 % 2)) (rbC (sc.1 + 1, sc.2) (W h / 2 % 2)) → P v1 (nI (rbN (lvW W (Nx W h)) h (W h / 4 + 1 + W (Nx W h) / 4) (W h / 2 % 2)))) : w_X5_release N v (nI (h + 1)) P := by
  have hm := hR.2.2.2.2
  unfold w_X5_release
  refine mm_words hR (by omega) (by omega) ?_
  refine mm_behind hR (by omega) (by omega) ?_
  rw [show h + 1 + W h / 4 = Nx W h from rfl]
  by_cases hlt : Nx W h < m
  · rw [if_pos hlt]
    refine b_lt (a := 0) (b := Nx W h + 1) (by decide) (by omega) (fun _ => ?_) (fun z => by omega)
    refine mm_isFree hR (by omega) (by have := hb hlt; omega) ?_
    rcases hA with ⟨a1, a2⟩ | ⟨a1, a2, a3, a4⟩
    · rcases Nat.mod_two_eq_zero_or_one (W (Nx W h)) with q | q
      · rw [q]; exact ⟨fun _ => mm_rel46 hN hR a2 rfl hw (H0 a1), fun z => absurd rfl z⟩
      · exact absurd ⟨hlt, q⟩ a1
    · rw [a1.2]
      refine ⟨fun z => absurd z (by decide), fun _ => mm_leave (by omega) hR a2 (fun v1 r1 => ?_)⟩
      refine mm_words r1 (by omega) (by rw [lvW_a a2]; have := a2.2.1; omega) ?_
      rw [lvW_a a2, show (1 : Int32) = nI 1 from rfl, nI_add, nI_add, show W h / 4 + (1 + W (Nx W h) / 4) = W h / 4 + 1 + W (Nx W h) / 4 by omega]
      exact mm_rel46 hN r1 a4 (by rw [a3]) (by rw [a3]; exact hw) (H1 a1)
  · have a1 : ¬ raB W m h := fun z => hlt z.1
    rw [if_neg hlt]
    refine ⟨fun z => absurd z (by decide), fun _ => ?_⟩
    rcases hA with ⟨_, a2⟩ | ⟨a1', _⟩
    · exact mm_rel46 hN hR a2 rfl hw (H0 a1)
    · exact absurd a1' a1
