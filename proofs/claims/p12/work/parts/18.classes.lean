/-! ===== the number of a class ===== -/
theorem b_lt {a b : Nat} {A B : Prop} (ha : a < 2 ^ 31) (hb : b < 2 ^ 31) (f : a < b → A) (g : b ≤ a → B) : (nI a < nI b → A) ∧ (¬ nI a < nI b → B) := ⟨fun h => f ((nI_ltI ha hb).mp h), fun h => g (Nat.not_lt.mp (fun z => h ((nI_ltI ha hb).mpr z)))⟩
theorem b_eq {a b : Nat} {A B : Prop} (ha : a < 2 ^ 31) (hb : b < 2 ^ 31) (f : a = b → A) (g : a ≠ b → B) : (nI a = nI b → A) ∧ (¬ nI a = nI b → B) := ⟨fun h => f ((nI_eq ha hb).mp h), fun h => g (fun z => h ((nI_eq ha hb).mpr z))⟩
def cls (n : Nat) : Nat := if n < 8 then n else 8 * (n.log2 - 2) + n / 2 ^ (n.log2 - 3) - 8
def wsh (n : Nat) : Nat := if n < 8 then (if n < 3 then 3 else n) else cls (n + 2 ^ (n.log2 - 3) - 1)
theorem lg2 {n k : Nat} (h1 : 2 ^ k ≤ n) (h2 : n < 2 ^ (k + 1)) : n.log2 = k := by
  have h0 : n ≠ 0 := by have := Nat.two_pow_pos k; omega
  have a1 : 2 ^ n.log2 ≤ n := Nat.log2_self_le h0
  have a2 : n < 2 ^ (n.log2 + 1) := Nat.lt_log2_self
  rcases Nat.lt_trichotomy n.log2 k with h | h | h
  · have := Nat.pow_le_pow_right (show 0 < 2 by decide) (show n.log2 + 1 ≤ k from h); omega
  · exact h
  · have := Nat.pow_le_pow_right (show 0 < 2 by decide) (show k + 1 ≤ n.log2 from h); omega
theorem us1 {n k : Nat} (hn : n < 2 ^ 31) (hk : k < 32) : ((nI n).toUInt32 >>> ((nI k).toUInt32 &&& Int32.toUInt32 31)).toInt32 = nI (n / 2 ^ k) := pk_ushrN (by omega) (nI k) k (by
  have h : ∀ k, k < 32 → (((nI k).toUInt32 &&& Int32.toUInt32 31).toBitVec % 32).toNat = k := by decide +kernel
  exact h k hk)
theorem nlz3 {n m s : Nat} (N : Nat) (P : Int32 → Prop) (hn : 0 < m) (hm : m < 16) (hs : s ≤ 28) (e1 : m * 2 ^ s ≤ n) (e2 : n < (m + 1) * 2 ^ s) (H : P (nI (31 - n.log2))) : w_J6_numberOfLeadingZeros_0f7a4_61 N P (nI m) (nI (31 - s)) := by
  unfold w_J6_numberOfLeadingZeros_0f7a4_61
  have key : ∀ k, k ≤ 3 → 2 ^ k ≤ m → m < 2 ^ (k + 1) → n.log2 = k + s := fun k hk h1 h2 => lg2 (by rw [Nat.pow_add]; exact Nat.le_trans (Nat.mul_le_mul_right _ h1) e1) (by rw [show k + s + 1 = (k + 1) + s by omega, Nat.pow_add]; exact Nat.lt_of_lt_of_le e2 (Nat.mul_le_mul_right _ h2))
  refine b_lt (b := 4) (by omega) (by decide) (fun h => ?_) (fun h => ?_)
  · rw [show (1 : Int32) = nI 1 from rfl, us1 (by omega) (by decide)]
    have hv : nI (31 - s) - nI (m / 2 ^ 1) = nI (31 - n.log2) := by
      rw [pk_sub (by omega)]
      rcases Nat.lt_or_ge m 2 with h2 | h2
      · rw [key 0 (by decide) (by omega) (by omega)]; congr 1; omega
      · rw [key 1 (by decide) (by omega) (by omega)]; congr 1; omega
    rw [hv]; exact H
  · rw [show (2 : Int32) = nI 2 from rfl, us1 (by omega) (by decide), show (1 : Int32) = nI 1 from rfl, us1 (by omega) (by decide)]
    have hv : nI (31 - s) + -nI 2 - nI (m / 2 ^ 2 / 2 ^ 1) = nI (31 - n.log2) := by
      show nI (31 - s) + (-2) - nI (m / 2 ^ 2 / 2 ^ 1) = nI (31 - n.log2)
      have e : nI (31 - s) + (-2) = nI (29 - s) := by
        rw [show (-2 : Int32) = -1 + -1 from rfl, ← Int32.add_assoc, show 31 - s = (29 - s + 1) + 1 by omega, pk_m1, pk_m1]
      rw [e, pk_sub (by omega)]
      rcases Nat.lt_or_ge m 8 with h2 | h2
      · rw [key 2 (by decide) (by omega) (by omega)]; congr 1; omega
      · rw [key 3 (by decide) (by omega) (by omega)]; congr 1; omega
    rw [hv]; exact H
theorem m4 {s : Nat} (h : s ≤ 27) : nI (31 - s) + (-4) = nI (31 - (s + 4)) := by
  rw [show (-4 : Int32) = -1 + -1 + -1 + -1 from rfl, ← Int32.add_assoc, ← Int32.add_assoc, ← Int32.add_assoc, show 31 - s = (31 - (s + 4)) + 1 + 1 + 1 + 1 by omega, pk_m1, pk_m1, pk_m1, pk_m1]
theorem l_nlz {n : Nat} (N : Nat) (P : Int32 → Prop) (h0 : 0 < n) (hn : n < 65536) (H : P (nI (31 - n.log2))) : w_J6_numberOfLeadingZeros_0f7a4 N (nI n) P := by
  unfold w_J6_numberOfLeadingZeros_0f7a4
  refine b_lt (a := 0) (b := n) (by decide) (by omega) (fun _ => ?_) (fun h => by omega)
  refine b_lt (b := 65536) (by omega) (by decide) (fun _ => ?_) (fun h => by omega)
  unfold w_J6_numberOfLeadingZeros_0f7a4_33
  refine b_lt (b := 256) (by omega) (by decide) (fun h => ?_) (fun h => ?_)
  · unfold w_J6_numberOfLeadingZeros_0f7a4_48
    refine b_lt (b := 16) (by omega) (by decide) (fun h => ?_) (fun h => ?_)
    · exact nlz3 (s := 0) N P h0 h (by decide) (by omega) (by omega) H
    · rw [show (4 : Int32) = nI 4 from rfl, us1 (by omega) (by decide)]
      exact nlz3 (s := 4) N P (by omega) (by omega) (by decide) (by omega) (by omega) H
  · rw [show (8 : Int32) = nI 8 from rfl, us1 (by omega) (by decide)]
    unfold w_J6_numberOfLeadingZeros_0f7a4_48
    refine b_lt (b := 16) (by omega) (by decide) (fun h => ?_) (fun h => ?_)
    · exact nlz3 (s := 8) N P (by omega) h (by decide) (by omega) (by omega) H
    · rw [show (4 : Int32) = nI 4 from rfl, us1 (by omega) (by decide)]
      exact nlz3 (s := 12) N P (by omega) (by omega) (by decide) (by omega) (by omega) H
theorem sh1 {n k : Nat} (hn : n < 2 ^ 31) (hk : k < 32) : nI n >>> (nI k &&& 31) = nI (n / 2 ^ k) := pk_shrN hn _ k (by
  have h : ∀ k, k < 32 → ((nI k &&& 31).toBitVec.smod 32).toNat = k := by decide +kernel
  exact h k hk)
theorem shl1 {n k : Nat} (hk : k < 32) (h : n * 2 ^ k < 2 ^ 32) : nI n <<< (nI k &&& 31) = nI (n * 2 ^ k) := pk_shlN _ k (by
  have h : ∀ k, k < 32 → ((nI k &&& 31).toBitVec.smod 32).toNat = k := by decide +kernel
  exact h k hk) h
theorem lgN_ge {n k : Nat} (h : 2 ^ k ≤ n) : k ≤ n.log2 := by
  have h0 : n ≠ 0 := by have := Nat.two_pow_pos k; omega
  exact (Nat.le_log2 h0).mpr h
theorem lgN_lt {n k : Nat} (h0 : n ≠ 0) (h : n < 2 ^ k) : n.log2 < k := (Nat.log2_lt h0).mpr h
theorem l_shift {n : Nat} (N : Nat) (P : Int32 → Prop) (h0 : 8 ≤ n) (hn : n < 65536) (H : P (nI (n.log2 - 3))) : w_X1_stepShift N (nI n) P := by
  unfold w_X1_stepShift
  refine l_nlz N _ (by omega) hn ?_
  have a := lgN_ge (k := 3) h0
  have b := lgN_lt (n := n) (k := 16) (by omega) hn
  have hv : (28 : Int32) - nI (31 - n.log2) = nI (n.log2 - 3) := by
    show nI 28 - _ = _
    rw [pk_sub (by omega)]; congr 1; omega
  rw [hv]; exact H
theorem cls_val {n : Nat} (h0 : 8 ≤ n) (hn : n < 65536) : (8 : Int32) * (nI (n.log2 - 3) + 1) + (nI n >>> (nI (n.log2 - 3) &&& 31)) - 8 = nI (cls n) := by
  have a := lgN_ge (k := 3) h0
  have b := lgN_lt (n := n) (k := 16) (by omega) hn
  rw [sh1 (by omega) (by omega), nI_1]
  show nI 8 * _ + _ - nI 8 = _
  have hd : 1 ≤ n / 2 ^ (n.log2 - 3) := Nat.div_pos (Nat.le_trans (Nat.pow_le_pow_right (by decide) (by omega)) (Nat.log2_self_le (by omega))) (Nat.two_pow_pos _)
  rw [pk_mul, nI_add, pk_sub (by omega)]
  unfold cls
  rw [if_neg (by omega)]
  congr 1
  rw [show n.log2 - 3 + 1 = n.log2 - 2 by omega]
theorem l_ofBody {n : Nat} (N : Nat) (P : Int32 → Prop) (hn : n < 65536) (H : P (nI (cls n))) : w_X1_ofBody N (nI n) P := by
  unfold w_X1_ofBody
  refine b_lt (b := 8) (by omega) (by decide) (fun h => ?_) (fun h => ?_)
  · rw [show nI n = nI (cls n) by unfold cls; rw [if_pos h]]; exact H
  · refine l_shift N _ h hn ?_
    rw [cls_val h hn]; exact H
theorem l_bodyFor {n : Nat} (N : Nat) (P : Int32 → Prop) (hn : n < 2 ^ 31) (H : P (nI (if n < 3 then 3 else n))) : w_X4_bodyFor N (nI n) P := by
  unfold w_X4_bodyFor
  by_cases h : n < 3
  · have z : nI n < (3 : Int32) := (nI_ltI (b := 3) hn (by decide)).mpr h
    rw [if_pos z]; rw [if_pos h] at H; exact H
  · have z : ¬ nI n < (3 : Int32) := fun z => h ((nI_ltI (b := 3) hn (by decide)).mp z)
    rw [if_neg z]; rw [if_neg h] at H; exact H
theorem l_ofWish {n : Nat} (N : Nat) (P : Int32 → Prop) (hn : n < 16384) (H : P (nI (wsh n))) : w_X1_ofWish N (nI n) P := by
  unfold w_X1_ofWish
  refine l_bodyFor N _ (by omega) ?_
  obtain ⟨b, hb⟩ : ∃ b, b = if n < 3 then 3 else n := ⟨_, rfl⟩
  rw [← hb]
  have hb2 : b < 16384 := by rw [hb]; split <;> omega
  refine b_lt (b := 8) (by omega) (by decide) (fun h => ?_) (fun h => ?_)
  · refine l_ofBody N _ (by omega) ?_
    have e : cls b = wsh n := by
      unfold wsh cls
      rw [if_pos h]
      by_cases h8 : n < 8
      · rw [if_pos h8]; exact hb
      · rw [if_neg (by omega)] at hb; omega
    rw [e]; exact H
  · have e : b = n := by
      by_cases h3 : n < 3
      · rw [if_pos h3] at hb; omega
      · rw [if_neg h3] at hb; exact hb
    rw [e] at h ⊢
    refine l_shift N _ h (by omega) ?_
    have a1 := lgN_ge (k := 3) h
    have b1 := lgN_lt (n := n) (k := 14) (by omega) hn
    have p1 : 2 ^ (n.log2 - 3) ≤ 2 ^ 10 := Nat.pow_le_pow_right (by decide) (by omega)
    have p2 := Nat.two_pow_pos (n.log2 - 3)
    have p3 : (2 : Nat) ^ 10 = 1024 := rfl
    have ev : nI n + ((1 : Int32) <<< (nI (n.log2 - 3) &&& 31)) - 1 = nI (n + 2 ^ (n.log2 - 3) - 1) := by
      show nI n + (nI 1 <<< _) - nI 1 = _
      rw [shl1 (by omega) (by omega), nI_add, pk_sub (by omega), Nat.one_mul]
    rw [ev]
    refine l_ofBody N _ (by omega) ?_
    unfold wsh at H
    rw [if_neg (by omega)] at H
    exact H
theorem l_classIn_L {n : Nat} (N : Nat) (P : Int32 → Prop) (h0 : 8 ≤ n) (hn : n < 65536) (H : P (nI (cls n))) : ∀ (j k b : Nat), b + j = n.log2 → 3 ≤ b → j < k → w_X5_classIn_10 N P k (nI n) (nI b) := by
  have a1 : 2 ^ n.log2 ≤ n := Nat.log2_self_le (by omega)
  have a2 : n < 2 ^ (n.log2 + 1) := Nat.lt_log2_self
  have b1 := lgN_lt (n := n) (k := 16) (by omega) hn
  intro j
  induction j with
  | zero =>
    intro k b hb h3 hk
    match k, hk with
    | k + 1, _ =>
      rw [w_X5_classIn_10, nI_1, sh1 (by omega) (by omega)]
      have hb : b = n.log2 := by omega
      subst hb
      rw [Nat.div_eq_of_lt a2]
      refine ⟨fun h => absurd h (by decide), fun _ => ?_⟩
      have e1 : nI n.log2 - (3 : Int32) = nI (n.log2 - 3) := by show _ - nI 3 = _; rw [pk_sub (by omega)]
      have e2 : nI n.log2 - (2 : Int32) = nI (n.log2 - 3) + 1 := by show _ - nI 2 = _; rw [pk_sub (by omega), nI_1]; congr 1; omega
      rw [e1, e2, cls_val h0 hn]; exact H
  | succ j ih =>
    intro k b hb h3 hk
    match k, hk with
    | k + 1, _ =>
      rw [w_X5_classIn_10, nI_1, sh1 (by omega) (by omega)]
      have hp : 2 ^ (b + 1) ≤ n := Nat.le_trans (Nat.pow_le_pow_right (by decide) (by omega)) a1
      have hd : 0 < n / 2 ^ (b + 1) := Nat.div_pos hp (Nat.two_pow_pos _)
      refine b_lt (a := 0) (b := n / 2 ^ (b + 1)) (by decide) (Nat.lt_of_le_of_lt (Nat.div_le_self _ _) (by omega)) (fun _ => ?_) (fun h => by omega)
      exact ih k (b + 1) (by omega) (by omega) (by omega)
theorem l_classIn {n : Nat} (N : Nat) (P : Int32 → Prop) (hN : 20 ≤ N) (hn : n < 65536) (H : P (nI (cls n))) : w_X5_classIn N (nI n) P := by
  unfold w_X5_classIn
  refine b_lt (b := 8) (by omega) (by decide) (fun h => ?_) (fun h => ?_)
  · rw [show nI n = nI (cls n) by unfold cls; rw [if_pos h]]; exact H
  · have a := lgN_ge (k := 3) h
    have b := lgN_lt (n := n) (k := 16) (by omega) hn
    exact l_classIn_L N P h hn H (n.log2 - 3) N 3 (by omega) (by decide) (by omega)
theorem l_wishIn_L {n : Nat} (N : Nat) (P : Int32 → Prop) (hN : 20 ≤ N) (h0 : 8 ≤ n) (hn : n < 16384) (H : P (nI (wsh n))) : ∀ (j k b : Nat), b + j = n.log2 → 3 ≤ b → j < k → w_X5_wishIn_19 N P k (nI n) (nI b) := by
  have a1 : 2 ^ n.log2 ≤ n := Nat.log2_self_le (by omega)
  have a2 : n < 2 ^ (n.log2 + 1) := Nat.lt_log2_self
  have b1 := lgN_lt (n := n) (k := 14) (by omega) hn
  intro j
  induction j with
  | zero =>
    intro k b hb h3 hk
    match k, hk with
    | k + 1, _ =>
      rw [w_X5_wishIn_19, nI_1, sh1 (by omega) (by omega)]
      have hb : b = n.log2 := by omega
      subst hb
      rw [Nat.div_eq_of_lt a2]
      refine ⟨fun h => absurd h (by decide), fun _ => ?_⟩
      have e1 : nI n.log2 - (3 : Int32) = nI (n.log2 - 3) := by show _ - nI 3 = _; rw [pk_sub (by omega)]
      have p1 : 2 ^ (n.log2 - 3) ≤ 2 ^ 10 := Nat.pow_le_pow_right (by decide) (by omega)
      have p2 := Nat.two_pow_pos (n.log2 - 3)
      have p3 : (2 : Nat) ^ 10 = 1024 := rfl
      have ev : nI n + ((1 : Int32) <<< (nI (n.log2 - 3) &&& 31)) - 1 = nI (n + 2 ^ (n.log2 - 3) - 1) := by
        show nI n + (nI 1 <<< _) - nI 1 = _
        rw [shl1 (by omega) (by omega), nI_add, pk_sub (by omega), Nat.one_mul]
      rw [e1, ev]
      refine l_classIn N _ hN (by omega) ?_
      unfold wsh at H
      rw [if_neg (by omega)] at H
      exact H
  | succ j ih =>
    intro k b hb h3 hk
    match k, hk with
    | k + 1, _ =>
      rw [w_X5_wishIn_19, nI_1, sh1 (by omega) (by omega)]
      have hp : 2 ^ (b + 1) ≤ n := Nat.le_trans (Nat.pow_le_pow_right (by decide) (by omega)) a1
      have hd : 0 < n / 2 ^ (b + 1) := Nat.div_pos hp (Nat.two_pow_pos _)
      refine b_lt (a := 0) (b := n / 2 ^ (b + 1)) (by decide) (Nat.lt_of_le_of_lt (Nat.div_le_self _ _) (by omega)) (fun _ => ?_) (fun h => by omega)
      exact ih k (b + 1) (by omega) (by omega) (by omega)
theorem l_wishIn {n : Nat} (N : Nat) (P : Int32 → Prop) (hN : 20 ≤ N) (hn : n < 16384) (H : P (nI (wsh n))) : w_X5_wishIn N (nI n) P := by
  unfold w_X5_wishIn
  refine b_lt (b := 8) (by omega) (by decide) (fun h => ?_) (fun h => ?_)
  · unfold wsh at H
    rw [if_pos h] at H
    refine b_lt (b := 3) (by omega) (by decide) (fun h3 => ?_) (fun h3 => ?_)
    · rw [if_pos h3] at H; exact H
    · rw [if_neg (by omega)] at H; exact H
  · have a := lgN_ge (k := 3) h
    have b := lgN_lt (n := n) (k := 14) (by omega) hn
    exact l_wishIn_L N P hN h hn H (n.log2 - 3) N 3 (by omega) (by decide) (by omega)
