/-! ===== count ===== -/
def acL (g : Nat → Int32 → Int32) (W : Nat → Nat) (m : Nat) : Nat → Nat → Int32 → Int32
  | 0, _, acc => acc
  | k + 1, y, acc => if y < m then acL g W m k (Nx W y) (g y acc) else acc
def gW (W : Nat → Nat) (fr y : Nat) (acc : Int32) : Int32 := if W y % 2 = fr then acc + nI (W y / 4) else acc
def gB (W : Nat → Nat) (fr y : Nat) (acc : Int32) : Int32 := if W y % 2 = fr then acc + 1 else acc
def gM (W : Nat → Nat) (y : Nat) (acc : Int32) : Int32 := if W y % 2 = 0 then acc else (if acc < nI (W y / 4) then nI (W y / 4) else acc)
theorem acL_end (g : Nat → Int32 → Int32) (W : Nat → Nat) (m k : Nat) (acc : Int32) : acL g W m k m acc = acc := by
  cases k with
  | zero => rfl
  | succ k => rw [acL, if_neg (by omega)]
theorem tt_words_L {N : Nat} {u : TS} {W F : Nat → Nat} {m : Nat} {sc : SC} {S : Nat → Prop} {P : TS → Int32 → Prop} (hR : Rc u.1 W m F sc) (hW : WF W m F S) {fr : Nat} (hfr : fr < 2) : ∀ (k y c fuel : Nat) (acc : Int32), c + k = 512 → (S y ∨ y = m) → 4 * c ≤ y → k < fuel → P u (acL (gW W fr) W m k y acc) → w_X4_wordsOf_7 N P fuel u (nI fr) acc (nI y) (nI c) := by
  have hm := hR.2.2.2.2
  intro k
  induction k with
  | zero =>
    intro y c fuel acc hk hy hc hf H
    match fuel, hf with
    | fuel + 1, _ =>
      rw [w_X4_wordsOf_7]
      exact b_lt (b := 512) (by omega) (by decide) (fun z => by omega) (fun _ => H)
  | succ k ih =>
    intro y c fuel acc hk hy hc hf H
    match fuel, hf with
    | fuel + 1, hf =>
      rw [w_X4_wordsOf_7, hR.2.1]
      rcases hy with hy | hy
      · have ym := hW.1.2.2.2.2 y hy
        obtain ⟨n1, n2, n3, n4⟩ := hW.next hy
        rw [acL, if_pos ym] at H
        refine b_lt (b := 512) (by omega) (by decide) (fun _ => b_lt (by omega) (by omega) (fun _ => ?_) (fun z => by omega)) (fun z => by omega)
        rw [nI_1]
        refine tt_isFree hR ym (by omega) ?_
        refine b_eq (by omega) (by omega) (fun e => ?_) (fun e => ?_)
        · refine tt_bodyOf hR ym (by omega) ?_
          refine tt_behind hR ym (by omega) ?_
          rw [show y + 1 + W y / 4 = Nx W y from rfl]
          exact ih (Nx W y) (c + 1) fuel _ (by omega) n1 (by omega) (by omega) (by unfold gW at H; rw [if_pos e] at H; exact H)
        · refine tt_behind hR ym (by omega) ?_
          rw [show y + 1 + W y / 4 = Nx W y from rfl]
          exact ih (Nx W y) (c + 1) fuel _ (by omega) n1 (by omega) (by omega) (by unfold gW at H; rw [if_neg e] at H; exact H)
      · subst hy
        rw [acL_end] at H
        exact b_lt (b := 512) (by omega) (by decide) (fun _ => b_lt (by omega) (by omega) (fun z => by omega) (fun _ => H)) (fun _ => H)
theorem tt_blocks_L {N : Nat} {u : TS} {W F : Nat → Nat} {m : Nat} {sc : SC} {S : Nat → Prop} {P : TS → Int32 → Prop} (hR : Rc u.1 W m F sc) (hW : WF W m F S) {fr : Nat} (hfr : fr < 2) : ∀ (k y c fuel : Nat) (acc : Int32), c + k = 512 → (S y ∨ y = m) → 4 * c ≤ y → k < fuel → P u (acL (gB W fr) W m k y acc) → w_X4_blocksOf_7 N P fuel u (nI fr) acc (nI y) (nI c) := by
  have hm := hR.2.2.2.2
  intro k
  induction k with
  | zero =>
    intro y c fuel acc hk hy hc hf H
    match fuel, hf with
    | fuel + 1, _ =>
      rw [w_X4_blocksOf_7]
      exact b_lt (b := 512) (by omega) (by decide) (fun z => by omega) (fun _ => H)
  | succ k ih =>
    intro y c fuel acc hk hy hc hf H
    match fuel, hf with
    | fuel + 1, hf =>
      rw [w_X4_blocksOf_7, hR.2.1]
      rcases hy with hy | hy
      · have ym := hW.1.2.2.2.2 y hy
        obtain ⟨n1, n2, n3, n4⟩ := hW.next hy
        rw [acL, if_pos ym] at H
        refine b_lt (b := 512) (by omega) (by decide) (fun _ => b_lt (by omega) (by omega) (fun _ => ?_) (fun z => by omega)) (fun z => by omega)
        rw [nI_1]
        refine tt_isFree hR ym (by omega) ?_
        refine b_eq (by omega) (by omega) (fun e => ?_) (fun e => ?_)
        · refine tt_behind hR ym (by omega) ?_
          rw [show y + 1 + W y / 4 = Nx W y from rfl]
          exact ih (Nx W y) (c + 1) fuel _ (by omega) n1 (by omega) (by omega) (by unfold gB at H; rw [if_pos e] at H; exact H)
        · refine tt_behind hR ym (by omega) ?_
          rw [show y + 1 + W y / 4 = Nx W y from rfl]
          exact ih (Nx W y) (c + 1) fuel _ (by omega) n1 (by omega) (by omega) (by unfold gB at H; rw [if_neg e] at H; exact H)
      · subst hy
        rw [acL_end] at H
        exact b_lt (b := 512) (by omega) (by decide) (fun _ => b_lt (by omega) (by omega) (fun z => by omega) (fun _ => H)) (fun _ => H)
theorem tt_most_L {N : Nat} {u : TS} {W F : Nat → Nat} {m : Nat} {sc : SC} {S : Nat → Prop} {P : TS → Int32 → Prop} (hR : Rc u.1 W m F sc) (hW : WF W m F S) : ∀ (k y c fuel : Nat) (acc : Int32), c + k = 512 → (S y ∨ y = m) → 4 * c ≤ y → k < fuel → P u (acL (gM W) W m k y acc) → w_X4_mostFree_6 N P fuel u acc (nI y) (nI c) := by
  have hm := hR.2.2.2.2
  intro k
  induction k with
  | zero =>
    intro y c fuel acc hk hy hc hf H
    match fuel, hf with
    | fuel + 1, _ =>
      rw [w_X4_mostFree_6]
      exact b_lt (b := 512) (by omega) (by decide) (fun z => by omega) (fun _ => H)
  | succ k ih =>
    intro y c fuel acc hk hy hc hf H
    match fuel, hf with
    | fuel + 1, hf =>
      rw [w_X4_mostFree_6, hR.2.1]
      rcases hy with hy | hy
      · have ym := hW.1.2.2.2.2 y hy
        obtain ⟨n1, n2, n3, n4⟩ := hW.next hy
        rw [acL, if_pos ym] at H
        refine b_lt (b := 512) (by omega) (by decide) (fun _ => b_lt (by omega) (by omega) (fun _ => ?_) (fun z => by omega)) (fun z => by omega)
        rw [nI_1]
        refine tt_isFree hR ym (by omega) ?_
        refine b_eq (b := 0) (by omega) (by decide) (fun e => ?_) (fun e => ?_)
        · refine tt_behind hR ym (by omega) ?_
          rw [show y + 1 + W y / 4 = Nx W y from rfl]
          exact ih (Nx W y) (c + 1) fuel _ (by omega) n1 (by omega) (by omega) (by unfold gM at H; rw [if_pos e] at H; exact H)
        · refine tt_bodyOf hR ym (by omega) ?_
          refine tt_behind hR ym (by omega) ?_
          rw [show y + 1 + W y / 4 = Nx W y from rfl]
          exact ih (Nx W y) (c + 1) fuel _ (by omega) n1 (by omega) (by omega) (by unfold gM at H; rw [if_neg e] at H; exact H)
      · subst hy
        rw [acL_end] at H
        exact b_lt (b := 512) (by omega) (by decide) (fun _ => b_lt (by omega) (by omega) (fun z => by omega) (fun _ => H)) (fun _ => H)
theorem mm_cnt4 {N : Nat} {v : MS} {W F : Nat → Nat} {m : Nat} {sc : SC} {S : Nat → Prop} {P : MS → Int32 → Prop} (hR : Rc v.1 W m F sc) (hW : WF W m F S) : ∀ (k y c fuel : Nat) (acc : Int32), c + k = 512 → (S y ∨ y = m) → 4 * c ≤ y → k < fuel → P v (acL (gW W 0) W m k y acc) → w_X5_counted_4 N P fuel v (4 : Int32) acc (nI (pl m y)) := by
  have hm := hR.2.2.2.2
  have endd : ∀ (k y fuel : Nat) (acc : Int32), m ≤ y → P v acc → w_X5_counted_4 N P (fuel + 1) v (4 : Int32) acc (nI (pl m y)) := fun k y fuel acc h H => by
    rw [show pl m y = 0 by unfold pl; rw [if_neg (by omega)], w_X5_counted_4]
    exact ⟨fun z => absurd z (by decide), fun _ => H⟩
  intro k
  induction k with
  | zero =>
    intro y c fuel acc hk hy hc hf H
    match fuel, hf with
    | fuel + 1, _ => exact endd 0 y fuel acc (by omega) H
  | succ k ih =>
    intro y c fuel acc hk hy hc hf H
    match fuel, hf with
    | fuel + 1, hf =>
      rcases hy with hy | hy
      · have ym := hW.1.2.2.2.2 y hy
        obtain ⟨n1, n2, n3, n4⟩ := hW.next hy
        rw [acL, if_pos ym] at H
        rw [show pl m y = y + 1 by unfold pl; rw [if_pos ym], w_X5_counted_4]
        refine b_lt (a := 0) (by decide) (by omega) (fun _ => ?_) (fun z => by omega)
        · refine mm_words hR (by omega) (by omega) ?_
          refine ⟨fun z => absurd z (by decide), fun _ => ?_⟩
          refine mm_isFree hR (by omega) (by omega) ?_
          refine ⟨fun z => absurd z (by decide), fun _ => ⟨fun z => absurd z (by decide), fun _ => ?_⟩⟩
          refine b_eq (b := 0) (by omega) (by decide) (fun e => ⟨fun _ => ?_, fun z => absurd (by decide) z⟩) (fun e => ?_)
          · refine mm_behind hR (by omega) (by omega) ?_
            exact ih (Nx W y) (c + 1) fuel _ (by omega) n1 (by omega) (by omega) (by unfold gW at H; rw [if_pos e] at H; exact H)
          · refine mm_behind hR (by omega) (by omega) ?_
            exact ih (Nx W y) (c + 1) fuel _ (by omega) n1 (by omega) (by omega) (by unfold gW at H; rw [if_neg e] at H; exact H)
      · subst hy
        rw [acL_end] at H
        exact endd 0 y fuel acc (by omega) H
theorem mm_cnt5 {N : Nat} {v : MS} {W F : Nat → Nat} {m : Nat} {sc : SC} {S : Nat → Prop} {P : MS → Int32 → Prop} (hR : Rc v.1 W m F sc) (hW : WF W m F S) : ∀ (k y c fuel : Nat) (acc : Int32), c + k = 512 → (S y ∨ y = m) → 4 * c ≤ y → k < fuel → P v (acL (gW W 1) W m k y acc) → w_X5_counted_4 N P fuel v (5 : Int32) acc (nI (pl m y)) := by
  have hm := hR.2.2.2.2
  have endd : ∀ (k y fuel : Nat) (acc : Int32), m ≤ y → P v acc → w_X5_counted_4 N P (fuel + 1) v (5 : Int32) acc (nI (pl m y)) := fun k y fuel acc h H => by
    rw [show pl m y = 0 by unfold pl; rw [if_neg (by omega)], w_X5_counted_4]
    exact ⟨fun z => absurd z (by decide), fun _ => H⟩
  intro k
  induction k with
  | zero =>
    intro y c fuel acc hk hy hc hf H
    match fuel, hf with
    | fuel + 1, _ => exact endd 0 y fuel acc (by omega) H
  | succ k ih =>
    intro y c fuel acc hk hy hc hf H
    match fuel, hf with
    | fuel + 1, hf =>
      rcases hy with hy | hy
      · have ym := hW.1.2.2.2.2 y hy
        obtain ⟨n1, n2, n3, n4⟩ := hW.next hy
        rw [acL, if_pos ym] at H
        rw [show pl m y = y + 1 by unfold pl; rw [if_pos ym], w_X5_counted_4]
        refine b_lt (a := 0) (by decide) (by omega) (fun _ => ?_) (fun z => by omega)
        · refine mm_words hR (by omega) (by omega) ?_
          refine ⟨fun z => absurd z (by decide), fun _ => ?_⟩
          refine mm_isFree hR (by omega) (by omega) ?_
          refine ⟨fun _ => ?_, fun z => absurd rfl z⟩
          refine b_eq (b := 1) (by omega) (by decide) (fun e => ⟨fun _ => ?_, fun z => absurd (by decide) z⟩) (fun e => ?_)
          · refine mm_behind hR (by omega) (by omega) ?_
            exact ih (Nx W y) (c + 1) fuel _ (by omega) n1 (by omega) (by omega) (by unfold gW at H; rw [if_pos e] at H; exact H)
          · refine mm_behind hR (by omega) (by omega) ?_
            exact ih (Nx W y) (c + 1) fuel _ (by omega) n1 (by omega) (by omega) (by unfold gW at H; rw [if_neg e] at H; exact H)
      · subst hy
        rw [acL_end] at H
        exact endd 0 y fuel acc (by omega) H
theorem mm_cnt6 {N : Nat} {v : MS} {W F : Nat → Nat} {m : Nat} {sc : SC} {S : Nat → Prop} {P : MS → Int32 → Prop} (hR : Rc v.1 W m F sc) (hW : WF W m F S) : ∀ (k y c fuel : Nat) (acc : Int32), c + k = 512 → (S y ∨ y = m) → 4 * c ≤ y → k < fuel → P v (acL (gB W 0) W m k y acc) → w_X5_counted_4 N P fuel v (6 : Int32) acc (nI (pl m y)) := by
  have hm := hR.2.2.2.2
  have endd : ∀ (k y fuel : Nat) (acc : Int32), m ≤ y → P v acc → w_X5_counted_4 N P (fuel + 1) v (6 : Int32) acc (nI (pl m y)) := fun k y fuel acc h H => by
    rw [show pl m y = 0 by unfold pl; rw [if_neg (by omega)], w_X5_counted_4]
    exact ⟨fun z => absurd z (by decide), fun _ => H⟩
  intro k
  induction k with
  | zero =>
    intro y c fuel acc hk hy hc hf H
    match fuel, hf with
    | fuel + 1, _ => exact endd 0 y fuel acc (by omega) H
  | succ k ih =>
    intro y c fuel acc hk hy hc hf H
    match fuel, hf with
    | fuel + 1, hf =>
      rcases hy with hy | hy
      · have ym := hW.1.2.2.2.2 y hy
        obtain ⟨n1, n2, n3, n4⟩ := hW.next hy
        rw [acL, if_pos ym] at H
        rw [show pl m y = y + 1 by unfold pl; rw [if_pos ym], w_X5_counted_4]
        refine b_lt (a := 0) (by decide) (by omega) (fun _ => ?_) (fun z => by omega)
        · refine mm_words hR (by omega) (by omega) ?_
          refine ⟨fun z => absurd z (by decide), fun _ => ?_⟩
          refine mm_isFree hR (by omega) (by omega) ?_
          refine ⟨fun z => absurd z (by decide), fun _ => ⟨fun z => absurd z (by decide), fun _ => ?_⟩⟩
          refine b_eq (b := 0) (by omega) (by decide) (fun e => ⟨fun z => absurd z (by decide), fun _ => ?_⟩) (fun e => ?_)
          · refine mm_behind hR (by omega) (by omega) ?_
            exact ih (Nx W y) (c + 1) fuel _ (by omega) n1 (by omega) (by omega) (by unfold gB at H; rw [if_pos e] at H; exact H)
          · refine mm_behind hR (by omega) (by omega) ?_
            exact ih (Nx W y) (c + 1) fuel _ (by omega) n1 (by omega) (by omega) (by unfold gB at H; rw [if_neg e] at H; exact H)
      · subst hy
        rw [acL_end] at H
        exact endd 0 y fuel acc (by omega) H
theorem mm_cnt7 {N : Nat} {v : MS} {W F : Nat → Nat} {m : Nat} {sc : SC} {S : Nat → Prop} {P : MS → Int32 → Prop} (hR : Rc v.1 W m F sc) (hW : WF W m F S) : ∀ (k y c fuel : Nat) (acc : Int32), c + k = 512 → (S y ∨ y = m) → 4 * c ≤ y → k < fuel → P v (acL (gB W 1) W m k y acc) → w_X5_counted_4 N P fuel v (7 : Int32) acc (nI (pl m y)) := by
  have hm := hR.2.2.2.2
  have endd : ∀ (k y fuel : Nat) (acc : Int32), m ≤ y → P v acc → w_X5_counted_4 N P (fuel + 1) v (7 : Int32) acc (nI (pl m y)) := fun k y fuel acc h H => by
    rw [show pl m y = 0 by unfold pl; rw [if_neg (by omega)], w_X5_counted_4]
    exact ⟨fun z => absurd z (by decide), fun _ => H⟩
  intro k
  induction k with
  | zero =>
    intro y c fuel acc hk hy hc hf H
    match fuel, hf with
    | fuel + 1, _ => exact endd 0 y fuel acc (by omega) H
  | succ k ih =>
    intro y c fuel acc hk hy hc hf H
    match fuel, hf with
    | fuel + 1, hf =>
      rcases hy with hy | hy
      · have ym := hW.1.2.2.2.2 y hy
        obtain ⟨n1, n2, n3, n4⟩ := hW.next hy
        rw [acL, if_pos ym] at H
        rw [show pl m y = y + 1 by unfold pl; rw [if_pos ym], w_X5_counted_4]
        refine b_lt (a := 0) (by decide) (by omega) (fun _ => ?_) (fun z => by omega)
        · refine mm_words hR (by omega) (by omega) ?_
          refine ⟨fun z => absurd z (by decide), fun _ => ?_⟩
          refine mm_isFree hR (by omega) (by omega) ?_
          refine ⟨fun z => absurd z (by decide), fun _ => ⟨fun _ => ?_, fun z => absurd rfl z⟩⟩
          refine b_eq (b := 1) (by omega) (by decide) (fun e => ⟨fun z => absurd z (by decide), fun _ => ?_⟩) (fun e => ?_)
          · refine mm_behind hR (by omega) (by omega) ?_
            exact ih (Nx W y) (c + 1) fuel _ (by omega) n1 (by omega) (by omega) (by unfold gB at H; rw [if_pos e] at H; exact H)
          · refine mm_behind hR (by omega) (by omega) ?_
            exact ih (Nx W y) (c + 1) fuel _ (by omega) n1 (by omega) (by omega) (by unfold gB at H; rw [if_neg e] at H; exact H)
      · subst hy
        rw [acL_end] at H
        exact endd 0 y fuel acc (by omega) H
theorem mm_cnt8 {N : Nat} {v : MS} {W F : Nat → Nat} {m : Nat} {sc : SC} {S : Nat → Prop} {P : MS → Int32 → Prop} (hR : Rc v.1 W m F sc) (hW : WF W m F S) : ∀ (k y c fuel : Nat) (acc : Int32), c + k = 512 → (S y ∨ y = m) → 4 * c ≤ y → k < fuel → P v (acL (gM W) W m k y acc) → w_X5_counted_4 N P fuel v (8 : Int32) acc (nI (pl m y)) := by
  have hm := hR.2.2.2.2
  have endd : ∀ (k y fuel : Nat) (acc : Int32), m ≤ y → P v acc → w_X5_counted_4 N P (fuel + 1) v (8 : Int32) acc (nI (pl m y)) := fun k y fuel acc h H => by
    rw [show pl m y = 0 by unfold pl; rw [if_neg (by omega)], w_X5_counted_4]
    exact ⟨fun z => absurd z (by decide), fun _ => H⟩
  intro k
  induction k with
  | zero =>
    intro y c fuel acc hk hy hc hf H
    match fuel, hf with
    | fuel + 1, _ => exact endd 0 y fuel acc (by omega) H
  | succ k ih =>
    intro y c fuel acc hk hy hc hf H
    match fuel, hf with
    | fuel + 1, hf =>
      rcases hy with hy | hy
      · have ym := hW.1.2.2.2.2 y hy
        obtain ⟨n1, n2, n3, n4⟩ := hW.next hy
        rw [acL, if_pos ym] at H
        rw [show pl m y = y + 1 by unfold pl; rw [if_pos ym], w_X5_counted_4]
        refine b_lt (a := 0) (by decide) (by omega) (fun _ => ?_) (fun z => by omega)
        · refine mm_words hR (by omega) (by omega) ?_
          refine ⟨fun _ => ?_, fun z => absurd rfl z⟩
          refine mm_isFree hR (by omega) (by omega) ?_
          refine b_eq (b := 0) (by omega) (by decide) (fun e => ?_) (fun e => ⟨fun lt => ?_, fun lt => ?_⟩)
          · refine mm_behind hR (by omega) (by omega) ?_
            exact ih (Nx W y) (c + 1) fuel _ (by omega) n1 (by omega) (by omega) (by unfold gM at H; rw [if_pos e] at H; exact H)
          · refine mm_behind hR (by omega) (by omega) ?_
            exact ih (Nx W y) (c + 1) fuel _ (by omega) n1 (by omega) (by omega) (by unfold gM at H; rw [if_neg e, if_pos lt] at H; exact H)
          · refine mm_behind hR (by omega) (by omega) ?_
            exact ih (Nx W y) (c + 1) fuel _ (by omega) n1 (by omega) (by omega) (by unfold gM at H; rw [if_neg e, if_neg lt] at H; exact H)
      · subst hy
        rw [acL_end] at H
        exact endd 0 y fuel acc (by omega) H
theorem rel_count {N : Nat} {u : TS} {v : MS} (hN : 3000 ≤ N) (hI : Inv u v) (x : Int32) : w_X4_count N u x (fun u1 r1 => w_X5_count N v x (Sm u1 r1)) := by
  obtain ⟨W, m, F, sc, hu, hv, hm, hF, hs, hW⟩ := id hI
  have m2 := hu.2.2.2.2
  have su : u.1.2.2.2.2.2.1 = sc.2.2.1 := by rw [hu.2.2.2.1]
  have sv : v.1.2.2.2.2.2.1 = sc.2.2.1 := by rw [hv.2.2.2.1]
  unfold w_X4_count
  rcases rng x (lo := 0) (hi := 8) (by decide) (by decide) with h | h | ⟨j, h1, h2, h3⟩
  · have g : w_X5_count N v x (Sm u (-2)) := by
      unfold w_X5_count
      exact mm_in_lt (lo := 0) (hi := 8) (by decide) h ⟨fun _ => ⟨rfl, hI⟩, fun z => absurd rfl z⟩
    have ne : ∀ k, k ≤ 8 → ¬ x = nI k := fun k hk e => by subst e; exact absurd h (nI_pos (by omega))
    exact ⟨fun z => absurd z (ne 0 (by decide)), fun _ => ⟨fun z => absurd z (ne 1 (by decide)), fun _ => ⟨fun z => absurd z (ne 2 (by decide)), fun _ => ⟨fun z => absurd z (ne 3 (by decide)), fun _ => ⟨fun z => absurd z (ne 4 (by decide)), fun _ => ⟨fun z => absurd z (ne 5 (by decide)), fun _ => ⟨fun z => absurd z (ne 6 (by decide)), fun _ => ⟨fun z => absurd z (ne 7 (by decide)), fun _ => ⟨fun z => absurd z (ne 8 (by decide)), fun _ => g⟩⟩⟩⟩⟩⟩⟩⟩⟩
  · have g : w_X5_count N v x (Sm u (-2)) := by
      unfold w_X5_count
      exact mm_in_gt (lo := 0) (hi := 8) (by decide) h ⟨fun _ => ⟨rfl, hI⟩, fun z => absurd rfl z⟩
    have ne : ∀ k, k ≤ 8 → ¬ x = nI k := fun k hk e => by subst e; have := (nI_ltI (by decide) (by omega)).mp h; omega
    exact ⟨fun z => absurd z (ne 0 (by decide)), fun _ => ⟨fun z => absurd z (ne 1 (by decide)), fun _ => ⟨fun z => absurd z (ne 2 (by decide)), fun _ => ⟨fun z => absurd z (ne 3 (by decide)), fun _ => ⟨fun z => absurd z (ne 4 (by decide)), fun _ => ⟨fun z => absurd z (ne 5 (by decide)), fun _ => ⟨fun z => absurd z (ne 6 (by decide)), fun _ => ⟨fun z => absurd z (ne 7 (by decide)), fun _ => ⟨fun z => absurd z (ne 8 (by decide)), fun _ => g⟩⟩⟩⟩⟩⟩⟩⟩⟩
  · subst h3
    have lo : ∀ (r : Int32), ((nI j = 0 → (Sm u r v (v.1.2.1))) ∧ (¬ nI j = 0 → ((nI j = (1 : Int32) → (Sm u r v (v.1.2.2.2.1))) ∧ (¬ nI j = (1 : Int32) → ((nI j = (2 : Int32) → (((v.1.2.2.2.2.2.1) = 0 → (Sm u r v (0 : Int32))) ∧ (¬ (v.1.2.2.2.2.2.1) = 0 → (Sm u r v (1 : Int32))))) ∧ (¬ nI j = (2 : Int32) → (Sm u r v (v.1.2.2.2.2.1)))))))) → j < 4 → w_X5_count N v (nI j) (Sm u r) := fun r g hj => by
      unfold w_X5_count
      exact mm_in_ok (lo := 0) (hi := 8) h1 h2 (by decide) ⟨fun z => absurd z (by decide), fun _ => b_lt (b := 4) (by omega) (by decide) (fun _ => g) (fun z => by omega)⟩
    have hi : ∀ (u1 : TS) (r : Int32), 4 ≤ j → ((sc.2.2.1 = 0 → (w_X5_counted N v (nI j) fun u7 r6 => (Sm u1 r u7 r6))) ∧ (¬ sc.2.2.1 = 0 → (Sm u1 r v (-3 : Int32)))) → w_X5_count N v (nI j) (Sm u1 r) := fun u1 r hj g => by
      unfold w_X5_count
      refine mm_in_ok (lo := 0) (hi := 8) h1 h2 (by decide) ⟨fun z => absurd z (by decide), fun _ => b_lt (b := 4) (by omega) (by decide) (fun z => by omega) (fun _ => ?_)⟩
      rw [sv]; exact g
    have p0 : pl m 0 = 1 := by unfold pl; rw [if_pos (by omega)]
    have eu := hu.2.2.2.1
    have ev := hv.2.2.2.1
    have hj : j = 0 ∨ j = 1 ∨ j = 2 ∨ j = 3 ∨ j = 4 ∨ j = 5 ∨ j = 6 ∨ j = 7 ∨ j = 8 := by omega
    rcases hj with rfl | rfl | rfl | rfl | rfl | rfl | rfl | rfl | rfl
    · refine ⟨fun _ => lo _ ⟨fun _ => ⟨by rw [hu.2.1, hv.2.1], hI⟩, fun z => absurd rfl z⟩ (by decide), fun z => absurd rfl z⟩
    · refine ⟨fun z => absurd z (by decide), fun _ => ⟨fun _ => lo _ ⟨fun z => absurd z (by decide), fun _ => ⟨fun _ => ⟨by rw [eu, ev], hI⟩, fun z => absurd rfl z⟩⟩ (by decide), fun z => absurd rfl z⟩⟩
    · refine ⟨fun z => absurd z (by decide), fun _ => ⟨fun z => absurd z (by decide), fun _ => ⟨fun _ => ?_, fun z => absurd rfl z⟩⟩⟩
      rw [su]
      refine ⟨fun s => lo _ ⟨fun z => absurd z (by decide), fun _ => ⟨fun z => absurd z (by decide), fun _ => ⟨fun _ => ?_, fun z => absurd rfl z⟩⟩⟩ (by decide), fun s => lo _ ⟨fun z => absurd z (by decide), fun _ => ⟨fun z => absurd z (by decide), fun _ => ⟨fun _ => ?_, fun z => absurd rfl z⟩⟩⟩ (by decide)⟩
      · rw [sv]; exact ⟨fun _ => ⟨rfl, hI⟩, fun z => absurd s z⟩
      · rw [sv]; exact ⟨fun z => absurd z s, fun _ => ⟨rfl, hI⟩⟩
    · refine ⟨fun z => absurd z (by decide), fun _ => ⟨fun z => absurd z (by decide), fun _ => ⟨fun z => absurd z (by decide), fun _ => ⟨fun _ => lo _ ⟨fun z => absurd z (by decide), fun _ => ⟨fun z => absurd z (by decide), fun _ => ⟨fun z => absurd z (by decide), fun _ => ⟨by rw [eu, ev], hI⟩⟩⟩⟩ (by decide), fun z => absurd rfl z⟩⟩⟩⟩
    · refine ⟨fun z => absurd z (by decide), fun _ => ⟨fun z => absurd z (by decide), fun _ => ⟨fun z => absurd z (by decide), fun _ => ⟨fun z => absurd z (by decide), fun _ => ⟨fun _ => ?_, fun z => absurd rfl z⟩⟩⟩⟩⟩
      rw [su]
      refine ⟨fun s => ?_, fun s => hi _ _ (by decide) ⟨fun z => absurd z s, fun _ => ⟨rfl, hI⟩⟩⟩
      obtain ⟨S, hw⟩ := hW s
      unfold w_X4_wordsOf
      refine tt_words_L (fr := 0) hu hw (by decide) 512 0 0 N 0 (by decide) (Or.inl hw.1.2.2.1) (by decide) (by omega) (hi _ _ (by decide) ⟨fun _ => ?_, fun z => absurd s z⟩)
      unfold w_X5_counted
      have k := mm_cnt4 (N := N) (P := Sm u _) hv hw 512 0 0 N 0 (by decide) (Or.inl hw.1.2.2.1) (by decide) (by omega) ⟨rfl, hI⟩
      rw [p0] at k
      exact k
    · refine ⟨fun z => absurd z (by decide), fun _ => ⟨fun z => absurd z (by decide), fun _ => ⟨fun z => absurd z (by decide), fun _ => ⟨fun z => absurd z (by decide), fun _ => ⟨fun z => absurd z (by decide), fun _ => ⟨fun _ => ?_, fun z => absurd rfl z⟩⟩⟩⟩⟩⟩
      rw [su]
      refine ⟨fun s => ?_, fun s => hi _ _ (by decide) ⟨fun z => absurd z s, fun _ => ⟨rfl, hI⟩⟩⟩
      obtain ⟨S, hw⟩ := hW s
      unfold w_X4_wordsOf
      refine tt_words_L (fr := 1) hu hw (by decide) 512 0 0 N 0 (by decide) (Or.inl hw.1.2.2.1) (by decide) (by omega) (hi _ _ (by decide) ⟨fun _ => ?_, fun z => absurd s z⟩)
      unfold w_X5_counted
      have k := mm_cnt5 (N := N) (P := Sm u _) hv hw 512 0 0 N 0 (by decide) (Or.inl hw.1.2.2.1) (by decide) (by omega) ⟨rfl, hI⟩
      rw [p0] at k
      exact k
    · refine ⟨fun z => absurd z (by decide), fun _ => ⟨fun z => absurd z (by decide), fun _ => ⟨fun z => absurd z (by decide), fun _ => ⟨fun z => absurd z (by decide), fun _ => ⟨fun z => absurd z (by decide), fun _ => ⟨fun z => absurd z (by decide), fun _ => ⟨fun _ => ?_, fun z => absurd rfl z⟩⟩⟩⟩⟩⟩⟩
      rw [su]
      refine ⟨fun s => ?_, fun s => hi _ _ (by decide) ⟨fun z => absurd z s, fun _ => ⟨rfl, hI⟩⟩⟩
      obtain ⟨S, hw⟩ := hW s
      unfold w_X4_blocksOf
      refine tt_blocks_L (fr := 0) hu hw (by decide) 512 0 0 N 0 (by decide) (Or.inl hw.1.2.2.1) (by decide) (by omega) (hi _ _ (by decide) ⟨fun _ => ?_, fun z => absurd s z⟩)
      unfold w_X5_counted
      have k := mm_cnt6 (N := N) (P := Sm u _) hv hw 512 0 0 N 0 (by decide) (Or.inl hw.1.2.2.1) (by decide) (by omega) ⟨rfl, hI⟩
      rw [p0] at k
      exact k
    · refine ⟨fun z => absurd z (by decide), fun _ => ⟨fun z => absurd z (by decide), fun _ => ⟨fun z => absurd z (by decide), fun _ => ⟨fun z => absurd z (by decide), fun _ => ⟨fun z => absurd z (by decide), fun _ => ⟨fun z => absurd z (by decide), fun _ => ⟨fun z => absurd z (by decide), fun _ => ⟨fun _ => ?_, fun z => absurd rfl z⟩⟩⟩⟩⟩⟩⟩⟩
      rw [su]
      refine ⟨fun s => ?_, fun s => hi _ _ (by decide) ⟨fun z => absurd z s, fun _ => ⟨rfl, hI⟩⟩⟩
      obtain ⟨S, hw⟩ := hW s
      unfold w_X4_blocksOf
      refine tt_blocks_L (fr := 1) hu hw (by decide) 512 0 0 N 0 (by decide) (Or.inl hw.1.2.2.1) (by decide) (by omega) (hi _ _ (by decide) ⟨fun _ => ?_, fun z => absurd s z⟩)
      unfold w_X5_counted
      have k := mm_cnt7 (N := N) (P := Sm u _) hv hw 512 0 0 N 0 (by decide) (Or.inl hw.1.2.2.1) (by decide) (by omega) ⟨rfl, hI⟩
      rw [p0] at k
      exact k
    · refine ⟨fun z => absurd z (by decide), fun _ => ⟨fun z => absurd z (by decide), fun _ => ⟨fun z => absurd z (by decide), fun _ => ⟨fun z => absurd z (by decide), fun _ => ⟨fun z => absurd z (by decide), fun _ => ⟨fun z => absurd z (by decide), fun _ => ⟨fun z => absurd z (by decide), fun _ => ⟨fun z => absurd z (by decide), fun _ => ⟨fun _ => ?_, fun z => absurd rfl z⟩⟩⟩⟩⟩⟩⟩⟩⟩
      rw [su]
      refine ⟨fun s => ?_, fun s => hi _ _ (by decide) ⟨fun z => absurd z s, fun _ => ⟨rfl, hI⟩⟩⟩
      obtain ⟨S, hw⟩ := hW s
      unfold w_X4_mostFree
      refine tt_most_L hu hw  512 0 0 N 0 (by decide) (Or.inl hw.1.2.2.1) (by decide) (by omega) (hi _ _ (by decide) ⟨fun _ => ?_, fun z => absurd s z⟩)
      unfold w_X5_counted
      have k := mm_cnt8 (N := N) (P := Sm u _) hv hw 512 0 0 N 0 (by decide) (Or.inl hw.1.2.2.1) (by decide) (by omega) ⟨rfl, hI⟩
      rw [p0] at k
      exact k
