/-! ===== walks over the blocks: block, grow ===== -/
def wk (W : Nat → Nat) (m : Nat) : Nat → Nat → Nat
  | 0, y => y
  | k + 1, y => if y < m then wk W m k (Nx W y) else y
theorem wk_end (W : Nat → Nat) (m : Nat) : ∀ k, wk W m k m = m := by
  intro k
  cases k with
  | zero => rfl
  | succ k => rw [wk, if_neg (by omega)]
theorem WF.next {W : Nat → Nat} {m : Nat} {F : Nat → Nat} {S : Nat → Prop} (h : WF W m F S) {y : Nat} (hy : S y) : (S (Nx W y) ∨ Nx W y = m) ∧ y + 4 ≤ Nx W y ∧ Nx W y ≤ m ∧ W y < 8192 := by
  have b := h.2.1 y hy
  have b1 := b.1
  refine ⟨?_, by unfold Nx; omega, b.2.1, b.lt h.1.2.1⟩
  rcases Nat.lt_or_ge (Nx W y) m with z | z
  · exact Or.inl (b.2.2.2.1 z)
  · exact Or.inr (by have := b.2.1; omega)
theorem wk_in {W : Nat → Nat} {m : Nat} {F : Nat → Nat} {S : Nat → Prop} (h : WF W m F S) : ∀ k y, (S y ∨ y = m) → wk W m k y = m ∨ (S (wk W m k y) ∧ y + 4 * k ≤ wk W m k y) := by
  intro k
  induction k with
  | zero => intro y hy; rcases hy with z | z
            · exact Or.inr ⟨z, by show y + 4 * 0 ≤ y; omega⟩
            · exact Or.inl z
  | succ k ih =>
    intro y hy
    rw [wk]
    rcases hy with z | z
    · have := h.1.2.2.2.2 y z
      obtain ⟨n1, n2, n3, n4⟩ := h.next z
      rw [if_pos this]
      rcases ih (Nx W y) n1 with q | q
      · exact Or.inl q
      · exact Or.inr ⟨q.1, by omega⟩
    · subst z; rw [if_neg (by omega)]; exact Or.inl rfl
theorem tt_hob_L {N : Nat} {u : TS} {W F : Nat → Nat} {m : Nat} {sc : SC} {S : Nat → Prop} {i : Nat} {P : TS → Int32 → Prop} (hR : Rc u.1 W m F sc) (hW : WF W m F S) (hi : i < 2 ^ 31) (yf : Nat) (H : w_X4_headerOfBlock_42 N P u (nI i) (nI yf)) : ∀ (k y c fuel : Nat), m - y ≤ k → (S y ∨ y = m) → 4 * c ≤ y → c ≤ i → k < fuel → wk W m (i - c) y = yf → w_X4_headerOfBlock_4 N P fuel u (nI i) (nI y) (nI c) := by
  have hm := hR.2.2.2.2
  intro k
  induction k with
  | zero =>
    intro y c fuel hk hy hc hci hf hwk
    have ym : y = m := by
      rcases hy with z | z
      · have := hW.1.2.2.2.2 y z; omega
      · exact z
    subst ym
    rw [wk_end] at hwk
    subst hwk
    match fuel, hf with
    | fuel + 1, _ =>
      rw [w_X4_headerOfBlock_4, hR.2.1]
      exact b_lt (b := 512) (by omega) (by decide) (fun _ => b_lt (by omega) hi (fun _ => b_lt (by omega) (by omega) (fun z => by omega) (fun _ => H)) (fun _ => H)) (fun _ => H)
  | succ k ih =>
    intro y c fuel hk hy hc hci hf hwk
    match fuel, hf with
    | fuel + 1, hf =>
      rw [w_X4_headerOfBlock_4, hR.2.1]
      rcases hy with hy | hy
      · have ym := hW.1.2.2.2.2 y hy
        obtain ⟨n1, n2, n3, n4⟩ := hW.next hy
        refine b_lt (b := 512) (by omega) (by decide) (fun _ => b_lt (by omega) hi (fun lt => b_lt (by omega) (by omega) (fun _ => ?_) (fun z => by omega)) (fun ge => ?_)) (fun z => by omega)
        · refine tt_behind hR ym (by omega) ?_
          rw [nI_1]
          refine ih (Nx W y) (c + 1) fuel (by omega) n1 (by omega) (by omega) (by omega) ?_
          rw [show i - c = (i - (c + 1)) + 1 by omega, wk, if_pos ym] at hwk
          exact hwk
        · rw [show i - c = 0 by omega, wk] at hwk
          subst hwk; exact H
      · subst hy
        rw [wk_end] at hwk
        subst hwk
        exact b_lt (b := 512) (by omega) (by decide) (fun _ => b_lt (by omega) hi (fun _ => b_lt (by omega) (by omega) (fun z => by omega) (fun _ => H)) (fun _ => H)) (fun _ => H)
def pl (m y : Nat) : Nat := if y < m then y + 1 else 0
theorem mm_blk_L {N : Nat} {v : MS} {W F : Nat → Nat} {m : Nat} {sc : SC} {S : Nat → Prop} {i : Nat} {w : Int32} {P : MS → Int32 → Prop} (hR : Rc v.1 W m F sc) (hW : WF W m F S) (hi : i < 2 ^ 31) (yf : Nat) (H : w_X5_block_56 N P v w (nI (pl m yf))) : ∀ (k y c fuel : Nat), m - y ≤ k → (S y ∨ y = m) → 4 * c ≤ y + 4 → c ≤ i → k < fuel → wk W m (i - c) y = yf → w_X5_block_34 N P fuel v (nI i) w (nI (pl m y)) (nI c) := by
  have hm := hR.2.2.2.2
  intro k
  induction k with
  | zero =>
    intro y c fuel hk hy hc hci hf hwk
    have ym : y = m := by
      rcases hy with z | z
      · have := hW.1.2.2.2.2 y z; omega
      · exact z
    subst ym
    rw [wk_end] at hwk
    subst hwk
    match fuel, hf with
    | fuel + 1, _ =>
      have e : pl y y = 0 := by unfold pl; rw [if_neg (by omega)]
      rw [e] at H ⊢
      rw [w_X5_block_34]
      exact ⟨fun _ => ⟨fun z => absurd z (by decide), fun _ => H⟩, fun _ => H⟩
  | succ k ih =>
    intro y c fuel hk hy hc hci hf hwk
    match fuel, hf with
    | fuel + 1, hf =>
      rcases hy with hy | hy
      · have ym := hW.1.2.2.2.2 y hy
        obtain ⟨n1, n2, n3, n4⟩ := hW.next hy
        have e : pl m y = y + 1 := by unfold pl; rw [if_pos ym]
        rw [w_X5_block_34]
        refine b_lt (by omega) hi (fun lt => ?_) (fun ge => ?_)
        · rw [e]
          refine b_lt (a := 0) (by decide) (by omega) (fun _ => ?_) (fun z => by omega)
          refine mm_behind hR (by omega) (by omega) ?_
          rw [nI_1]
          refine ih (Nx W y) (c + 1) fuel (by omega) n1 (by omega) (by omega) (by omega) ?_
          rw [show i - c = (i - (c + 1)) + 1 by omega, wk, if_pos ym] at hwk
          exact hwk
        · rw [show i - c = 0 by omega, wk] at hwk
          subst hwk; exact H
      · subst hy
        rw [wk_end] at hwk
        subst hwk
        have e : pl y y = 0 := by unfold pl; rw [if_neg (by omega)]
        rw [e] at H ⊢
        rw [w_X5_block_34]
        exact ⟨fun _ => ⟨fun z => absurd z (by decide), fun _ => H⟩, fun _ => H⟩
theorem rel_block {N : Nat} {u : TS} {v : MS} (hN : 3000 ≤ N) (hI : Inv u v) (x w : Int32) : w_X4_block N u x w (fun u1 r1 => w_X5_block N v x w (Sm u1 r1)) := by
  obtain ⟨W, m, F, sc, hu, hv, hm, hF, hs, hW⟩ := id hI
  have m2 := hu.2.2.2.2
  have su : u.1.2.2.2.2.2.1 = sc.2.2.1 := by rw [hu.2.2.2.1]
  have sv : v.1.2.2.2.2.2.1 = sc.2.2.1 := by rw [hv.2.2.2.1]
  unfold w_X4_block
  have bad : (w < nI 0 ∨ nI 2 < w ∨ x < 0) → w_X5_block N v x w (Sm u (-2)) := fun h => by
    unfold w_X5_block
    rcases rng w (lo := 0) (hi := 2) (by decide) (by decide) with q | q | ⟨j, q1, q2, q3⟩
    · exact mm_in_lt (lo := 0) (hi := 2) (by decide) q ⟨fun _ => ⟨rfl, hI⟩, fun z => absurd rfl z⟩
    · exact mm_in_gt (lo := 0) (hi := 2) (by decide) q ⟨fun _ => ⟨rfl, hI⟩, fun z => absurd rfl z⟩
    · subst q3
      refine mm_in_ok (lo := 0) (hi := 2) q1 q2 (by decide) ⟨fun z => absurd z (by decide), fun _ => ⟨fun _ => ⟨rfl, hI⟩, fun z => ?_⟩⟩
      exfalso
      rcases h with h | h | h
      · exact absurd h (nI_pos (by omega))
      · have := (nI_ltI (by decide) (by omega)).mp h; omega
      · exact z h
  refine ⟨fun h => bad (Or.inr (Or.inr h)), fun h0 => ⟨fun h => bad (Or.inl h), fun h1 => ⟨fun h => bad (Or.inr (Or.inl h)), fun h2 => ?_⟩⟩⟩
  obtain ⟨i, hi, rfl⟩ := nI_of h0
  rcases rng w (lo := 0) (hi := 2) (by decide) (by decide) with q | q | ⟨j, q1, q2, q3⟩
  · exact absurd q h1
  · exact absurd q h2
  subst q3
  rw [su]
  refine ⟨fun s => ?_, fun s => ?_⟩
  · obtain ⟨S, hw⟩ := hW s
    have s0 := hw.1.2.2.1
    have wkin := wk_in hw i 0 (Or.inl s0)
    have ref : ∀ (u1 : TS) (r : Int32), w_X5_block_56 N (Sm u1 r) v (nI j) (nI (pl m (wk W m i 0))) → w_X5_block N v (nI i) (nI j) (Sm u1 r) := fun u1 r g => by
      unfold w_X5_block
      refine mm_in_ok (lo := 0) (hi := 2) q1 q2 (by decide) ⟨fun z => absurd z (by decide), fun _ => ⟨fun z => absurd z (nI_pos hi), fun _ => ?_⟩⟩
      rw [sv]
      refine ⟨fun _ => ?_, fun z => absurd s z⟩
      have k := mm_blk_L hv hw hi _ g m 0 0 N (by omega) (Or.inl s0) (by omega) (by omega) (by omega) rfl
      rw [show pl m 0 = 1 by unfold pl; rw [if_pos (by omega)]] at k
      exact k
    unfold w_X4_headerOfBlock
    refine tt_hob_L hu hw hi (wk W m i 0) ?_ m 0 0 N (by omega) (Or.inl s0) (by omega) (by omega) (by omega) rfl
    have none_ : wk W m i 0 = m → w_X5_block N v (nI i) (nI j) (Sm u (-1)) := fun e => ref _ _ (by
      rw [e, show pl m m = 0 by unfold pl; rw [if_neg (by omega)]]
      unfold w_X5_block_56
      exact ⟨fun _ => ⟨rfl, hI⟩, fun z => absurd rfl z⟩)
    unfold w_X4_headerOfBlock_42
    refine b_lt (b := 512) hi (by decide) (fun lt => ?_) (fun ge => ?_)
    · rcases wkin with e | ⟨e1, e2⟩
      · rw [e]
        refine tt_has hu (by omega) ?_
        rw [if_neg (by omega)]
        refine ⟨fun _ => ⟨fun _ => none_ e, fun z => absurd rfl z⟩, fun z => absurd rfl z⟩
      · generalize hy : wk W m i 0 = y at *
        have ym := hw.1.2.2.2.2 y e1
        have bl := (hw.2.1 y e1).lt m2
        have ep : pl m y = y + 1 := by unfold pl; rw [if_pos ym]
        refine tt_has hu (by omega) ?_
        rw [if_pos ym]
        refine ⟨fun z => absurd z (by decide), fun _ => ⟨fun z => absurd z (nI_m1 (by omega)), fun _ => ?_⟩⟩
        have r56 : ∀ (u1 : TS) (r : Int32), ((nI j = 0 → Sm u1 r v (nI (y + 1))) ∧ (¬ nI j = 0 → ((nI j = (1 : Int32) → (w_X5_words N v (nI (y + 1)) fun u14 r13 => Sm u1 r u14 r13)) ∧ (¬ nI j = (1 : Int32) → (w_X5_isFree N v (nI (y + 1)) fun u11 r10 => ((r10 = 0 → Sm u1 r u11 (0 : Int32)) ∧ (¬ r10 = 0 → Sm u1 r u11 (1 : Int32)))))))) → w_X5_block N v (nI i) (nI j) (Sm u1 r) := fun u1 r g => ref u1 r (by
          unfold w_X5_block_56
          rw [ep]
          exact ⟨fun z => absurd ((nm_ie (by omega)).mp z) (by omega), fun _ => g⟩)
        refine b_eq (b := 0) (by omega) (by decide) (fun e => ?_) (fun e => b_eq (b := 1) (by omega) (by decide) (fun e' => ?_) (fun e' => ?_))
        · exact r56 _ _ (b_eq (b := 0) (by omega) (by decide) (fun _ => ⟨nI_1 y, hI⟩) (fun z => absurd e z))
        · refine tt_bodyOf hu ym (by omega) (r56 _ _ ?_)
          exact b_eq (b := 0) (by omega) (by decide) (fun z => absurd z e) (fun _ => b_eq (b := 1) (by omega) (by decide) (fun _ => mm_words hv (by omega) (by omega) ⟨rfl, hI⟩) (fun z => absurd e' z))
        · refine tt_isFree hu ym (by omega) ?_
          have fin : ∀ r : Int32, (w_X5_isFree N v (nI (y + 1)) fun u11 r10 => ((r10 = 0 → Sm u r u11 (0 : Int32)) ∧ (¬ r10 = 0 → Sm u r u11 (1 : Int32)))) → w_X5_block N v (nI i) (nI j) (Sm u r) := fun r g => r56 _ _ (b_eq (b := 0) (by omega) (by decide) (fun z => absurd z e) (fun _ => b_eq (b := 1) (by omega) (by decide) (fun z => absurd z e') (fun _ => g)))
          rcases Nat.mod_two_eq_zero_or_one (W y) with q | q
          · rw [q]
            exact ⟨fun _ => fin _ (mm_isFree hv (by omega) (by omega) (by rw [q]; exact ⟨fun _ => ⟨rfl, hI⟩, fun z => absurd rfl z⟩)), fun z => absurd rfl z⟩
          · rw [q]
            exact ⟨fun z => absurd z (by decide), fun _ => fin _ (mm_isFree hv (by omega) (by omega) (by rw [q]; exact ⟨fun z => absurd z (by decide), fun _ => ⟨rfl, hI⟩⟩))⟩
    · refine ⟨fun _ => none_ ?_, fun z => absurd rfl z⟩
      rcases wkin with e | ⟨e1, e2⟩
      · exact e
      · have := hw.1.2.2.2.2 _ e1; omega
  · unfold w_X5_block
    refine mm_in_ok (lo := 0) (hi := 2) q1 q2 (by decide) ⟨fun z => absurd z (by decide), fun _ => ⟨fun z => absurd z (nI_pos hi), fun _ => ?_⟩⟩
    rw [sv]
    exact ⟨fun z => absurd z s, fun _ => ⟨rfl, hI⟩⟩
