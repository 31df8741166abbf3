/-! ===== check: what is told of words that hold anything ===== -/
theorem ck_inj {a b : Nat} (ha : a < 2 ^ 64) (hb : b < 2 ^ 64) : lN a = lN b ↔ a = b := ⟨fun h => by
  have := congrArg (fun x : Int64 => x.toBitVec.toNat) h
  rw [wb_tn ha, wb_tn hb] at this; exact this, fun h => by rw [h]⟩
theorem ck_neg {x : Nat} (h1 : 2 ^ 63 ≤ x) (h2 : x < 2 ^ 64) : (lN x).toInt = (x : Int) - 2 ^ 64 := by
  show (lN x).toBitVec.toInt = _
  rw [BitVec.toInt_eq_toNat_cond, wb_tn h2, if_neg (by omega)]
  rfl
theorem ck_lt0 {x : Nat} (h2 : x < 2 ^ 64) : lN x < (0 : Int64) ↔ 2 ^ 63 ≤ x := by
  rw [Int64.lt_iff_toInt_lt]
  have z : (0 : Int64).toInt = 0 := rfl
  rw [z]
  by_cases h : x < 2 ^ 63
  · rw [pf_lI h]; omega
  · rw [ck_neg (by omega) h2]; omega
theorem ck_lt {a x : Nat} (ha : a < 2 ^ 63) (h2 : x < 2 ^ 64) : lN x < lN a ↔ (x < a ∨ 2 ^ 63 ≤ x) := by
  rw [Int64.lt_iff_toInt_lt, pf_lI ha]
  by_cases h : x < 2 ^ 63
  · rw [pf_lI h]; omega
  · rw [ck_neg (by omega) h2]; omega
theorem ck_gt {a x : Nat} (ha : a < 2 ^ 63) (h2 : x < 2 ^ 64) : lN a < lN x ↔ (a < x ∧ x < 2 ^ 63) := by
  rw [Int64.lt_iff_toInt_lt, pf_lI ha]
  by_cases h : x < 2 ^ 63
  · rw [pf_lI h]; omega
  · rw [ck_neg (by omega) h2]; omega
theorem ck_shr2 {x : Nat} (h : x < 2 ^ 63) : lN x >>> ((2 : Int32).toInt64 &&& 63) = lN (x / 4) := by
  have hd : x / 2 ^ 2 ≤ x := Nat.div_le_self _ _
  apply Int64.toInt_inj.mp
  have e : (lN x >>> ((2 : Int32).toInt64 &&& 63)).toInt = (lN x).toInt >>> 2 := BitVec.toInt_sshiftRight ..
  rw [e, Int.shiftRight_eq_div_pow, pf_lI (by omega), pf_lI (by omega)]
  rfl
/-- what is wrong of the block at h -/
def wob (W : Nat → Nat) (m h af : Nat) : Nat := if 2 ^ 63 ≤ W h ∨ W h / 4 < 3 ∨ m - h - 1 < W h / 4 then 1 else if W h / 2 % 2 ≠ af then 2 else if W h % 2 = 0 then 0 else if af ≠ 0 then 3 else if W (h + W h / 4) = W h / 4 then 0 else 4
def rb (W : Nat → Nat) (m : Nat) : Nat → Nat → Nat → (Nat → Nat) → Nat × Int32 × (Nat → Nat)
  | 0, _, _, K => (0, -1, K)
  | k + 1, h, af, K => if m ≤ h then (0, -1, K) else if wob W m h af = 0 then rb W m k (Nx W h) (W h % 2) (if W h % 2 = 0 then K else un K h 1) else (wob W m h af, nI h, K)
def isl (W : Nat → Nat) (m c a x : Nat) (K : Nat → Nat) : Prop := 1 ≤ x ∧ x < m ∧ K (x - 1) = 1 ∧ cls (W (x - 1) / 4) = c ∧ W (x + 1) = a
def rl (W : Nat → Nat) (m c : Nat) : Nat → Nat → Nat → (Nat → Nat) → Nat × Int32 × (Nat → Nat)
  | 0, a, x, K => if x = 0 then (0, -1, K) else (5, if a = 0 then -1 else nI (a - 1), K)
  | k + 1, a, x, K => if x = 0 then (0, -1, K) else if 1 ≤ x ∧ x < m ∧ K (x - 1) = 1 ∧ cls (W (x - 1) / 4) = c ∧ W (x + 1) = a then rl W m c k x (W x) (un K (x - 1) 2) else (5, if a = 0 then -1 else nI (a - 1), K)
def ra (W : Nat → Nat) (m : Nat) (F : Nat → Nat) : Nat → Nat → (Nat → Nat) → Nat × Int32 × (Nat → Nat)
  | 0, _, K => (0, -1, K)
  | k + 1, c, K => if (rl W m c 512 0 (F c) K).1 = 0 then ra W m F k (c + 1) (rl W m c 512 0 (F c) K).2.2 else rl W m c 512 0 (F c) K
def sl (m : Nat) (K : Nat → Nat) : Nat → Nat → Nat × Int32
  | 0, _ => (0, -1)
  | k + 1, j => if m ≤ j then (0, -1) else if K j = 1 then (6, nI j) else sl m K k (j + 1)
/-- how many aren't met -/
def cn (K : Nat → Nat) : Nat → Nat
  | 0 => 0
  | n + 1 => cn K n + (if K n = 1 then 1 else 0)
theorem cn_out {K : Nat → Nat} {j y : Nat} : ∀ n, n ≤ j → cn (un K j y) n = cn K n
  | 0, _ => rfl
  | n + 1, h => by
    show cn (un K j y) n + _ = cn K n + _
    rw [cn_out n (by omega), un_n (by omega)]
theorem cn_met {K : Nat → Nat} {j : Nat} (h1 : K j = 1) : ∀ n, j < n → cn (un K j 2) n + 1 = cn K n
  | 0, h => by omega
  | n + 1, h => by
    show cn (un K j 2) n + _ + 1 = cn K n + _
    by_cases e : j = n
    · subst e; rw [cn_out j (Nat.le_refl _), un_s, h1]; rfl
    · rw [un_n (fun z => e z.symm)]; have := cn_met h1 n (by omega); omega
theorem cn_new {K : Nat → Nat} {j : Nat} (h1 : K j = 0) : ∀ n, j < n → cn (un K j 1) n = cn K n + 1
  | 0, h => by omega
  | n + 1, h => by
    show cn (un K j 1) n + _ = cn K n + _ + 1
    by_cases e : j = n
    · subst e; rw [cn_out j (Nat.le_refl _), un_s, h1]; rfl
    · rw [un_n (fun z => e z.symm)]; have := cn_new h1 n (by omega); omega
theorem cn_pos {K : Nat → Nat} {j : Nat} (h1 : K j = 1) : ∀ n, j < n → 1 ≤ cn K n := fun n h => by have := cn_met h1 n h; omega
theorem cn_zero : ∀ n, cn (fun _ => 0) n = 0
  | 0 => rfl
  | n + 1 => by show cn (fun _ => 0) n + _ = 0; rw [cn_zero n]; rfl
/-- the state while the class checks, and the reference -/
def TK (u : TS) (W : Nat → Nat) (m : Nat) (F : Nat → Nat) (sc : SC) (K : Nat → Nat) : Prop := Rc u.1 W m F sc ∧ ∀ j, j < 2048 → u.2 j = nI (K j)
def MK (v : MS) (W : Nat → Nat) (m : Nat) (F : Nat → Nat) (sc : SC) (K : Nat → Nat) : Prop := Rc v.1 W m F sc ∧ ∀ j, j < 2048 → v.2.2 (j + 1) = (if K j = 0 then 0 else 1) ∧ v.2.1 (j + 1) = (if K j = 2 then 1 else 0)
theorem tt_wob {N : Nat} {u : TS} {W F : Nat → Nat} {m : Nat} {sc : SC} {h af : Nat} {P : TS → Int32 → Prop} (hR : Rc u.1 W m F sc) (hw : ∀ j, W j < 2 ^ 64) (hm : h < m) (ha : af < 2) (H : P u (nI (wob W m h af))) : w_X0_wrongOfBlock N u (nI h) (nI af) P := by
  have m2 := hR.2.2.2.2
  have wh := hw h
  unfold wob at H
  unfold w_X0_wrongOfBlock
  refine tt_at hR hm ?_
  have bad : (2 ^ 63 ≤ W h ∨ W h / 4 < 3 ∨ m - h - 1 < W h / 4) → P u (1 : Int32) := fun z => by rw [if_pos z] at H; exact H
  refine ⟨fun z => bad (Or.inl ((ck_lt0 wh).mp z)), fun z => ?_⟩
  have z1 : W h < 2 ^ 63 := Nat.not_le.mp (fun q => z ((ck_lt0 wh).mpr q))
  rw [nm_div4 z1, hR.2.1, pk_sub (by omega), show nI (m - h) - (1 : Int32) = nI (m - h - 1) from pk_sub (b := 1) (by omega), nI_l (by omega : m - h - 1 < 2 ^ 31)]
  refine ⟨fun z => bad (Or.inr (Or.inl (((ck_lt (a := 3) (by decide) (by omega)).mp z).resolve_right (by omega)))), fun z => ?_⟩
  have z2 : 3 ≤ W h / 4 := Nat.not_lt.mp (fun q => z ((ck_lt (a := 3) (by decide) (by omega)).mpr (Or.inl q)))
  refine ⟨fun z => bad (Or.inr (Or.inr ((ck_gt (by omega) (by omega)).mp z).1)), fun z => ?_⟩
  have z3 : W h / 4 ≤ m - h - 1 := Nat.not_lt.mp (fun q => z ((ck_gt (by omega) (by omega)).mpr ⟨q, by omega⟩))
  rw [if_neg (by omega)] at H
  refine tt_isAhead hR hm wh (b_eq (by omega) (by omega) (fun e => ?_) (fun e => ?_))
  · rw [if_neg (fun q => q e)] at H
    refine tt_isFree hR hm wh ?_
    rcases Nat.mod_two_eq_zero_or_one (W h) with q | q
    · rw [q] at H ⊢
      exact ⟨fun _ => H, fun z => absurd rfl z⟩
    · rw [q] at H ⊢
      rw [if_neg (by decide)] at H
      refine ⟨fun z => absurd z (by decide), fun _ => b_eq (b := 0) (by omega) (by decide) (fun e => ?_) (fun e => ?_)⟩
      · rw [if_neg (fun q => q e)] at H
        rw [lN_i, nI_add]
        refine tt_at hR (by omega) ⟨fun z => ?_, fun z => ?_⟩
        · rw [if_pos ((ck_inj (hw _) (by omega)).mp z)] at H; exact H
        · rw [if_neg (fun q => z ((ck_inj (hw _) (by omega)).mpr q))] at H; exact H
      · rw [if_pos e] at H; exact H
  · rw [if_pos e] at H; exact H
theorem mm_wob {N : Nat} {v : MS} {W F : Nat → Nat} {m : Nat} {sc : SC} {h af : Nat} {P : MS → Int32 → Prop} (hR : Rc v.1 W m F sc) (hw : ∀ j, W j < 2 ^ 64) (hm : h < m) (ha : af < 2) (H : P v (nI (wob W m h af))) : w_X5_wrongIn N v (nI h) (nI af) P := by
  have m2 := hR.2.2.2.2
  have wh := hw h
  unfold wob at H
  unfold w_X5_wrongIn
  rw [nI_clamp (by omega : h < 2 ^ 31), hR.1 h (by omega), nm_and1 wh]
  have bad : (2 ^ 63 ≤ W h ∨ W h / 4 < 3 ∨ m - h - 1 < W h / 4) → P v (1 : Int32) := fun z => by rw [if_pos z] at H; exact H
  have go : w_X5_wrongIn_25 N P v (nI h) (nI af) (lN (W h)) (lN (W h) >>> ((2 : Int32).toInt64 &&& 63)) (nI (W h % 2)) := by
    unfold w_X5_wrongIn_25
    refine ⟨fun z => bad (Or.inl ((ck_lt0 wh).mp z)), fun z => ?_⟩
    have z1 : W h < 2 ^ 63 := Nat.not_le.mp (fun q => z ((ck_lt0 wh).mpr q))
    rw [ck_shr2 z1, hR.2.1, nI_l (by omega : h < 2 ^ 31), nI_l (by omega : m < 2 ^ 31), show lN h + (1 : Int64) = lN (h + 1) from lN_add h 1, lN_add]
    refine ⟨fun z => bad (Or.inr (Or.inl (((ck_lt (a := 3) (by decide) (by omega)).mp z).resolve_right (by omega)))), fun z => ?_⟩
    have z2 : 3 ≤ W h / 4 := Nat.not_lt.mp (fun q => z ((ck_lt (a := 3) (by decide) (by omega)).mpr (Or.inl q)))
    refine ⟨fun z => bad (Or.inr (Or.inr (by have := ((ck_gt (by omega) (by omega)).mp z).1; omega))), fun z => ?_⟩
    have z3 : h + 1 + W h / 4 ≤ m := Nat.not_lt.mp (fun q => z ((ck_gt (by omega) (by omega)).mpr ⟨q, by omega⟩))
    rw [if_neg (by omega)] at H
    have fin : w_X5_wrongIn_77 N P v (nI h) (nI af) (lN (W h / 4)) (nI (W h % 2)) (nI (W h / 2 % 2)) := by
      have l96 : (W h % 2 = 0 ∨ af = 0) → W h / 2 % 2 = af → w_X5_wrongIn_96 N P v (nI h) (lN (W h / 4)) (nI (W h % 2)) := fun z e => by
        rw [if_neg (fun q => q e)] at H
        unfold w_X5_wrongIn_96
        rw [lN_i, nI_add, nI_clamp (by omega : h + W h / 4 < 2 ^ 31), hR.1 (h + W h / 4) (by omega)]
        rcases Nat.mod_two_eq_zero_or_one (W h) with q | q
        · rw [q] at H ⊢
          exact ⟨fun _ => H, fun z => absurd rfl z⟩
        · rw [q] at H z ⊢
          rw [if_neg (by decide), if_neg (fun q => q (z.resolve_left (by decide)))] at H
          refine ⟨fun z => absurd z (by decide), fun _ => ⟨vp_in_nI (by omega) (by decide), fun z => ?_, fun z => ?_⟩⟩
          · rw [if_pos ((ck_inj (hw _) (by omega)).mp z)] at H; exact H
          · rw [if_neg (fun q => z ((ck_inj (hw _) (by omega)).mpr q))] at H; exact H
      unfold w_X5_wrongIn_77
      refine b_eq (by omega) (by omega) (fun e => b_eq (b := 0) (by omega) (by decide) (fun z => l96 (Or.inl z) e) (fun z => b_eq (b := 0) (by omega) (by decide) (fun q => l96 (Or.inr q) e) (fun q => ?_))) (fun e => ?_)
      · rw [if_neg (fun q => q e), if_neg z, if_pos q] at H; exact H
      · rw [if_pos e] at H; exact H
    rw [nm_and2 wh]
    rcases Nat.mod_two_eq_zero_or_one (W h / 2) with q | q
    · rw [q] at fin ⊢
      exact ⟨fun z => absurd z (by decide), fun _ => fin⟩
    · rw [q] at fin ⊢
      exact ⟨fun _ => fin, fun z => absurd rfl z⟩
  refine ⟨vp_in_nI (by omega) (by decide), ?_⟩
  rcases Nat.mod_two_eq_zero_or_one (W h) with q | q
  · rw [q] at go ⊢
    exact ⟨fun z => absurd z (by decide), fun _ => go⟩
  · rw [q] at go ⊢
    exact ⟨fun _ => go, fun z => absurd rfl z⟩
