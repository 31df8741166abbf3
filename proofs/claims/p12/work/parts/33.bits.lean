/-! ===== bits ===== -/
def sbL (F : Nat → Nat) (f : Nat) : Nat → Nat → Int32 → Int32
  | 0, _, acc => acc
  | k + 1, s, acc => sbL F f k (s + 1) (if F (8 * f + s) = 0 then acc else acc ||| ((1 : Int32) <<< (nI s &&& 31)))
def lbL (F : Nat → Nat) : Nat → Nat → Int32 → Int32
  | 0, _, acc => acc
  | k + 1, f, acc => lbL F k (f + 1) (if sbL F f 8 0 0 = 0 then acc else acc ||| ((1 : Int32) <<< (nI f &&& 31)))
theorem ix8 {f s : Nat} : (8 : Int32) * nI f + nI s = nI (8 * f + s) := by show nI 8 * nI f + nI s = _; rw [pk_mul, nI_add]
theorem tt_step_L {N : Nat} {u : TS} {W F : Nat → Nat} {m : Nat} {sc : SC} {f : Nat} {P : TS → Int32 → Prop} (hR : Rc u.1 W m F sc) (hF : ∀ c, c < 72 → F c ≤ 2048) (hf : f < 9) : ∀ (k s fuel : Nat) (acc : Int32), s + k = 8 → k < fuel → P u (sbL F f k s acc) → w_X2_stepBits_4 N P fuel u (nI f) acc (nI s) := by
  intro k
  induction k with
  | zero =>
    intro s fuel acc hs hfu H
    match fuel, hfu with
    | fuel + 1, _ =>
      rw [w_X2_stepBits_4]
      exact b_lt (b := 8) (by omega) (by decide) (fun z => by omega) (fun _ => H)
  | succ k ih =>
    intro s fuel acc hs hfu H
    match fuel, hfu with
    | fuel + 1, hfu =>
      rw [w_X2_stepBits_4, ix8]
      refine b_lt (b := 8) (by omega) (by decide) (fun _ => ?_) (fun z => by omega)
      refine tt_firstOf hR (by omega) ?_
      rw [sbL] at H
      rw [nI_1]
      refine b_eq (b := 0) (by have := hF (8 * f + s) (by omega); omega) (by decide) (fun e => ?_) (fun e => ?_)
      · rw [if_pos e] at H; exact ih (s + 1) fuel acc (by omega) (by omega) H
      · rw [if_neg e] at H; exact ih (s + 1) fuel _ (by omega) (by omega) H
theorem mm_step_L {N : Nat} {v : MS} {W F : Nat → Nat} {m : Nat} {sc : SC} {f : Nat} {P : MS → Int32 → Prop} (hR : Rc v.1 W m F sc) (hF : ∀ c, c < 72 → F c ≤ 2048) (hf : f < 9) : ∀ (k s fuel : Nat) (acc : Int32), s + k = 8 → k < fuel → P v (sbL F f k s acc) → w_X5_bitsIn_4 N P fuel v (nI f) acc (nI s) := by
  intro k
  induction k with
  | zero =>
    intro s fuel acc hs hfu H
    match fuel, hfu with
    | fuel + 1, _ =>
      rw [w_X5_bitsIn_4]
      exact b_lt (b := 8) (by omega) (by decide) (fun z => by omega) (fun _ => H)
  | succ k ih =>
    intro s fuel acc hs hfu H
    match fuel, hfu with
    | fuel + 1, hfu =>
      rw [w_X5_bitsIn_4, ix8, nI_clamp (by omega), hR.2.2.1 _ (by omega), nI_1]
      refine b_lt (b := 8) (by omega) (by decide) (fun _ => ⟨vp_in_nI (by omega) (by decide), ?_⟩) (fun z => by omega)
      rw [sbL] at H
      refine b_eq (b := 0) (by have := hF (8 * f + s) (by omega); omega) (by decide) (fun e => ?_) (fun e => ?_)
      · rw [if_pos e] at H
        rw [show acc ||| (0 : Int32) = acc from Int32.or_zero]
        exact ih (s + 1) fuel acc (by omega) (by omega) H
      · rw [if_neg e] at H; exact ih (s + 1) fuel _ (by omega) (by omega) H
theorem tt_level_L {N : Nat} {u : TS} {W F : Nat → Nat} {m : Nat} {sc : SC} {P : TS → Int32 → Prop} (hN : 3000 ≤ N) (hR : Rc u.1 W m F sc) (hF : ∀ c, c < 72 → F c ≤ 2048) : ∀ (k f fuel : Nat) (acc : Int32), f + k = 9 → k < fuel → P u (lbL F k f acc) → w_X2_levelBits_4 N P fuel u acc (nI f) := by
  intro k
  induction k with
  | zero =>
    intro s fuel acc hs hfu H
    match fuel, hfu with
    | fuel + 1, _ =>
      rw [w_X2_levelBits_4]
      exact b_lt (b := 9) (by omega) (by decide) (fun z => by omega) (fun _ => H)
  | succ k ih =>
    intro s fuel acc hs hfu H
    match fuel, hfu with
    | fuel + 1, hfu =>
      rw [w_X2_levelBits_4, nI_1]
      refine b_lt (b := 9) (by omega) (by decide) (fun _ => ?_) (fun z => by omega)
      unfold w_X2_stepBits
      refine tt_step_L hR hF (by omega) 8 0 N 0 (by decide) (by omega) ?_
      rw [lbL] at H
      refine ⟨fun e => ?_, fun e => ?_⟩
      · rw [if_pos e] at H; exact ih (s + 1) fuel acc (by omega) (by omega) H
      · rw [if_neg e] at H; exact ih (s + 1) fuel _ (by omega) (by omega) H
theorem mm_level_L {N : Nat} {v : MS} {W F : Nat → Nat} {m : Nat} {sc : SC} {P : MS → Int32 → Prop} (hN : 3000 ≤ N) (hR : Rc v.1 W m F sc) (hF : ∀ c, c < 72 → F c ≤ 2048) : ∀ (k f fuel : Nat) (acc : Int32), f + k = 9 → k < fuel → P v (lbL F k f acc) → w_X5_bits_31 N P fuel v acc (nI f) := by
  intro k
  induction k with
  | zero =>
    intro s fuel acc hs hfu H
    match fuel, hfu with
    | fuel + 1, _ =>
      rw [w_X5_bits_31]
      exact b_lt (b := 9) (by omega) (by decide) (fun z => by omega) (fun _ => H)
  | succ k ih =>
    intro s fuel acc hs hfu H
    match fuel, hfu with
    | fuel + 1, hfu =>
      rw [w_X5_bits_31, nI_1]
      refine b_lt (b := 9) (by omega) (by decide) (fun _ => ?_) (fun z => by omega)
      unfold w_X5_bitsIn
      refine mm_step_L hR hF (by omega) 8 0 N 0 (by decide) (by omega) ?_
      rw [lbL] at H
      refine ⟨fun e => ?_, fun e => ?_⟩
      · rw [if_pos e] at H
        rw [show acc ||| (0 : Int32) = acc from Int32.or_zero]
        exact ih (s + 1) fuel acc (by omega) (by omega) H
      · rw [if_neg e] at H; exact ih (s + 1) fuel _ (by omega) (by omega) H
theorem rel_bits {N : Nat} {u : TS} {v : MS} (hN : 3000 ≤ N) (hI : Inv u v) (x : Int32) : w_X4_bits N u x (fun u1 r1 => w_X5_bits N v x (Sm u1 r1)) := by
  obtain ⟨W, m, F, sc, hu, hv, hm, hF, hs, hW⟩ := id hI
  unfold w_X4_bits
  rcases rng x (lo := 0) (hi := 9) (by decide) (by decide) with h | h | ⟨f, h1, h2, h3⟩
  · have g : w_X5_bits N v x (Sm u (-2)) := by
      unfold w_X5_bits
      exact mm_in_lt (lo := 0) (hi := 9) (by decide) h ⟨fun _ => ⟨rfl, hI⟩, fun z => absurd rfl z⟩
    exact ⟨fun _ => g, fun z => absurd h z⟩
  · have g : w_X5_bits N v x (Sm u (-2)) := by
      unfold w_X5_bits
      exact mm_in_gt (lo := 0) (hi := 9) (by decide) h ⟨fun _ => ⟨rfl, hI⟩, fun z => absurd rfl z⟩
    exact ⟨fun _ => g, fun _ => ⟨fun _ => g, fun z => absurd h z⟩⟩
  · subst h3
    refine ⟨fun z => absurd z (nI_pos (by omega)), fun _ => b_lt (a := 9) (by decide) (by omega) (fun z => by omega) (fun _ => b_eq (b := 9) (by omega) (by decide) (fun e => ?_) (fun e => ?_))⟩
    · subst e
      unfold w_X2_levelBits
      refine tt_level_L hN hu hF 9 0 N 0 (by decide) (by omega) ?_
      unfold w_X5_bits
      refine mm_in_ok (lo := 0) (hi := 9) (by decide) (by decide) (by decide) ⟨fun z => absurd z (by decide), fun _ => ⟨fun z => absurd z (by decide), fun _ => ?_⟩⟩
      exact mm_level_L hN hv hF 9 0 N 0 (by decide) (by omega) ⟨rfl, hI⟩
    · unfold w_X2_stepBits
      refine tt_step_L hu hF (by omega) 8 0 N 0 (by decide) (by omega) ?_
      unfold w_X5_bits
      refine mm_in_ok (lo := 0) (hi := 9) h1 h2 (by decide) ⟨fun z => absurd z (by decide), fun _ => b_lt (b := 9) (by omega) (by decide) (fun _ => ?_) (fun z => by omega)⟩
      unfold w_X5_bitsIn
      exact mm_step_L hv hF (by omega) 8 0 N 0 (by decide) (by omega) ⟨rfl, hI⟩
