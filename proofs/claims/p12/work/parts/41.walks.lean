/-! ===== check: the class's loops and the reference's ===== -/
theorem wob_ok {W : Nat → Nat} {m h af : Nat} (hm : h < m) (z : wob W m h af = 0) : W h < 2 ^ 63 ∧ 3 ≤ W h / 4 ∧ h + 1 + W h / 4 ≤ m ∧ W h / 2 % 2 = af ∧ (W h % 2 = 1 → af = 0 ∧ W (h + W h / 4) = W h / 4) := by
  unfold wob at z
  by_cases e1 : 2 ^ 63 ≤ W h ∨ W h / 4 < 3 ∨ m - h - 1 < W h / 4
  · rw [if_pos e1] at z; omega
  rw [if_neg e1] at z
  by_cases e2 : W h / 2 % 2 = af
  · rw [if_neg (fun q => q e2)] at z
    refine ⟨by omega, by omega, by omega, e2, fun e3 => ?_⟩
    rw [if_neg (by omega)] at z
    by_cases e4 : af = 0
    · rw [if_neg (fun q => q e4)] at z
      by_cases e5 : W (h + W h / 4) = W h / 4
      · exact ⟨e4, e5⟩
      · rw [if_neg e5] at z; omega
    · rw [if_pos e4] at z; omega
  · rw [if_pos e2] at z; omega
theorem wob_le (W : Nat → Nat) (m h af : Nat) : wob W m h af < 5 := by
  unfold wob
  repeat (first | split | omega)
theorem TK.wa {u : TS} {W F K : Nat → Nat} {m : Nat} {s1 s2 s3 w : Int32} (h : TK u W m F (s1, s2, s3, w) K) (x : Int32) : TK (sWa u.1 x, u.2) W m F (s1, s2, s3, x) K := ⟨h.1.wa x, h.2⟩
theorem MK.wa {v : MS} {W F K : Nat → Nat} {m : Nat} {s1 s2 s3 w : Int32} (h : MK v W m F (s1, s2, s3, w) K) (x : Int32) : MK (sWa v.1 x, v.2) W m F (s1, s2, s3, x) K := ⟨h.1.wa x, h.2⟩
theorem tt_mark {N : Nat} {u : TS} {W F K : Nat → Nat} {m : Nat} {sc : SC} {j y : Nat} {P : TS → Prop} (h : TK u W m F sc K) (hj : j < 2048) (H : ∀ u1 : TS, TK u1 W m F sc (un K j y) → P u1) : w_X0_mark N u (nI j) (nI y) P := by
  unfold w_X0_mark zlet
  refine ⟨fun z => absurd z (nI_pos (by omega)), fun _ => b_lt (b := 2048) (by omega) (by decide) (fun _ => ⟨vp_in_nI (by omega) (by decide), H _ ⟨h.1, fun i hi => ?_⟩⟩) (fun z => by omega)⟩
  rw [nI_clamp (by omega : j < 2 ^ 31)]
  show upd u.2 j (nI y) i = _
  unfold upd un
  by_cases e : i = j
  · rw [if_pos e, if_pos e]
  · rw [if_neg e, if_neg e]; exact h.2 i hi
theorem tt_markOf {N : Nat} {u : TS} {W F K : Nat → Nat} {m : Nat} {sc : SC} {j : Nat} {P : TS → Int32 → Prop} (h : TK u W m F sc K) (hj : j < 2048) (H : P u (nI (K j))) : w_X0_markOf N u (nI j) P := by
  unfold w_X0_markOf
  refine ⟨fun z => absurd z (nI_pos (by omega)), fun _ => b_lt (b := 2048) (by omega) (by decide) (fun _ => ⟨vp_in_nI (by omega) (by decide), ?_⟩) (fun z => by omega)⟩
  rw [nI_clamp (by omega : j < 2 ^ 31), h.2 j hj]; exact H
theorem tt_rb_L {N : Nat} {W F : Nat → Nat} {m : Nat} {s1 s2 s3 : Int32} {P : TS → Int32 → Prop} (hw : ∀ j, W j < 2 ^ 64) (m2 : m ≤ 2048) : ∀ (k h af i fuel : Nat) (u : TS) (K : Nat → Nat), m - h ≤ k → h ≤ m → 4 * i ≤ h → af < 2 → k < fuel → TK u W m F (s1, s2, s3, -1) K → (∀ u1 : TS, TK u1 W m F (s1, s2, s3, (rb W m k h af K).2.1) (rb W m k h af K).2.2 → P u1 (nI (rb W m k h af K).1)) → w_X0_readBlocks_6 N P fuel u (nI h) (nI af) (nI i) := by
  intro k
  induction k with
  | zero =>
    intro h af i fuel u K hk hh hi ha hf hT H
    match fuel, hf with
    | fuel + 1, _ =>
      rw [w_X0_readBlocks_6, hT.1.2.1]
      exact b_lt (b := 512) (by omega) (by decide) (fun _ => b_lt (by omega) (by omega) (fun z => by omega) (fun _ => H u hT)) (fun _ => H u hT)
  | succ k ih =>
    intro h af i fuel u K hk hh hi ha hf hT H
    match fuel, hf with
    | fuel + 1, hf =>
      rw [w_X0_readBlocks_6, hT.1.2.1]
      rw [rb] at H
      by_cases hm : m ≤ h
      · rw [if_pos hm] at H
        exact b_lt (b := 512) (by omega) (by decide) (fun _ => b_lt (by omega) (by omega) (fun z => by omega) (fun _ => H u hT)) (fun _ => H u hT)
      rw [if_neg hm] at H
      refine b_lt (b := 512) (by omega) (by decide) (fun _ => b_lt (by omega) (by omega) (fun _ => ?_) (fun z => by omega)) (fun z => by omega)
      refine tt_wob hT.1 hw (by omega) ha ?_
      have wl := wob_le W m h af
      refine b_eq (b := 0) (by omega) (by decide) (fun z => ?_) (fun z => ?_)
      · rw [if_pos z] at H
        obtain ⟨o1, o2, o3, o4, o5⟩ := wob_ok (by omega) z
        refine tt_isFree hT.1 (by omega) (by omega) ?_
        refine b_eq (b := 0) (by omega) (by decide) (fun q => ?_) (fun q => ?_)
        · rw [if_pos q] at H
          refine tt_behind hT.1 (by omega) o1 ?_
          rw [nI_1]
          exact ih (Nx W h) (W h % 2) (i + 1) fuel u K (by unfold Nx; omega) (by unfold Nx; omega) (by unfold Nx; omega) (by omega) (by omega) hT H
        · rw [if_neg q] at H
          refine tt_mark (y := 1) hT (by omega) (fun u1 t1 => ?_)
          refine tt_behind t1.1 (by omega) o1 ?_
          rw [nI_1]
          exact ih (Nx W h) (W h % 2) (i + 1) fuel u1 _ (by unfold Nx; omega) (by unfold Nx; omega) (by unfold Nx; omega) (by omega) (by omega) t1 H
      · rw [if_neg z] at H
        unfold w_X0_tell zlet
        exact H _ (hT.wa (nI h))
theorem mm_rb_L {N : Nat} {W F : Nat → Nat} {m : Nat} {s1 s2 s3 : Int32} {P : MS → Int32 → Prop} (hw : ∀ j, W j < 2 ^ 64) (m2 : m ≤ 2048) : ∀ (k h af fuel : Nat) (v : MS) (K : Nat → Nat), m - h ≤ k → h ≤ m → af < 2 → k < fuel → (∀ j, h ≤ j → K j = 0) → MK v W m F (s1, s2, s3, -1) K → (∀ v1 : MS, MK v1 W m F (s1, s2, s3, (rb W m k h af K).2.1) (rb W m k h af K).2.2 → P v1 (nI (rb W m k h af K).1)) → w_X5_checkBlocks_33 N P fuel v (nI h) (nI af) := by
  intro k
  induction k with
  | zero =>
    intro h af fuel v K hk hh ha hf hK hT H
    match fuel, hf with
    | fuel + 1, _ =>
      rw [w_X5_checkBlocks_33, hT.1.2.1]
      exact b_lt (by omega) (by omega) (fun z => by omega) (fun _ => H v hT)
  | succ k ih =>
    intro h af fuel v K hk hh ha hf hK hT H
    match fuel, hf with
    | fuel + 1, hf =>
      rw [w_X5_checkBlocks_33, hT.1.2.1]
      rw [rb] at H
      by_cases hm : m ≤ h
      · rw [if_pos hm] at H
        exact b_lt (by omega) (by omega) (fun z => by omega) (fun _ => H v hT)
      rw [if_neg hm] at H
      refine b_lt (by omega) (by omega) (fun _ => ?_) (fun z => by omega)
      refine mm_wob hT.1 hw (by omega) ha ?_
      have wl := wob_le W m h af
      refine b_lt (a := 0) (by decide) (by omega) (fun z => ?_) (fun z => ?_)
      · rw [if_neg (by omega)] at H
        unfold w_X5_wrong zlet
        exact H _ (hT.wa (nI h))
      · have z : wob W m h af = 0 := by omega
        rw [if_pos z] at H
        obtain ⟨o1, o2, o3, o4, o5⟩ := wob_ok (by omega) z
        rw [nI_clamp (by omega : h < 2 ^ 31), hT.1.1 h (by omega), nm_and1 (hw h), nI_1, nI_clamp (by omega : h + 1 < 2 ^ 31)]
        unfold zlet
        have nxt : nI h + ((lN (W h) >>> ((2 : Int32).toInt64 &&& 63)).toInt32 + (1 : Int32)) = nI (Nx W h) := by
          rw [ck_shr2 o1, lN_i, nI_1, nI_add]; congr 1; unfold Nx; omega
        refine ⟨vp_in_nI (by omega) (by decide), ?_⟩
        rcases Nat.mod_two_eq_zero_or_one (W h) with q | q
        · rw [if_pos q, q] at H
          rw [q]
          refine ⟨fun z => absurd z (by decide), fun _ => ⟨vp_in_nI (by omega) (by decide), vp_in_nI (by omega) (by decide), ?_⟩⟩
          show w_X5_checkBlocks_33 N P fuel _ (nI h + ((v.1.1 h >>> ((2 : Int32).toInt64 &&& 63)).toInt32 + (1 : Int32))) (nI 0)
          rw [hT.1.1 h (by omega), nxt]
          refine ih (Nx W h) 0 fuel _ K (by unfold Nx; omega) (by unfold Nx; omega) (by omega) (by omega) (fun j hj => hK j (by unfold Nx at hj; omega)) ⟨hT.1, fun j hj => ⟨?_, (hT.2 j hj).2⟩⟩ H
          show upd v.2.2 (h + 1) (vp_nar .boolean (0 : Int32)) (j + 1) = _
          unfold upd
          by_cases e : j + 1 = h + 1
          · rw [if_pos e, if_pos (hK j (by omega))]; rfl
          · rw [if_neg e]; exact (hT.2 j hj).1
        · rw [if_neg (by omega), q] at H
          rw [q]
          refine ⟨fun _ => ⟨vp_in_nI (by omega) (by decide), vp_in_nI (by omega) (by decide), ?_⟩, fun z => absurd rfl z⟩
          show w_X5_checkBlocks_33 N P fuel _ (nI h + ((v.1.1 h >>> ((2 : Int32).toInt64 &&& 63)).toInt32 + (1 : Int32))) (nI 1)
          rw [hT.1.1 h (by omega), nxt]
          refine ih (Nx W h) 1 fuel _ (un K h 1) (by unfold Nx; omega) (by unfold Nx; omega) (by omega) (by omega) (fun j hj => by rw [un_n (by unfold Nx at hj; omega)]; exact hK j (by unfold Nx at hj; omega)) ⟨hT.1, fun j hj => ?_⟩ H
          show upd v.2.2 (h + 1) (vp_nar .boolean (1 : Int32)) (j + 1) = _ ∧ v.2.1 (j + 1) = _
          unfold upd un
          by_cases e : j = h
          · subst e
            rw [if_pos rfl, if_pos rfl, if_neg (by decide), if_neg (by decide), (hT.2 j hj).2, if_neg (by rw [hK j (Nat.le_refl _)]; decide)]
            exact ⟨rfl, rfl⟩
          · rw [if_neg (by omega), if_neg e]; exact hT.2 j hj
/-- the marks on the way -/
def KI (W : Nat → Nat) (m : Nat) (K : Nat → Nat) : Prop := cn K 2048 ≤ 512 ∧ (∀ j, K j ≤ 2) ∧ ∀ j, K j ≠ 0 → j + 4 ≤ m ∧ W j < 8192
theorem KI.met {W : Nat → Nat} {m : Nat} {K : Nat → Nat} {j : Nat} (h : KI W m K) (hj : K j = 1) (h2 : j < 2048) : KI W m (un K j 2) := by
  refine ⟨by have := cn_met hj 2048 h2; have := h.1; omega, fun i => ?_, fun i => ?_⟩
  · unfold un; split
    · decide
    · exact h.2.1 i
  · by_cases e : i = j
    · subst e; exact fun _ => h.2.2 i (by omega)
    · rw [un_n e]; exact h.2.2 i
theorem rl_KI {W : Nat → Nat} {m c : Nat} (m2 : m ≤ 2048) : ∀ (k a x : Nat) (K : Nat → Nat), KI W m K → KI W m (rl W m c k a x K).2.2 ∧ ((rl W m c k a x K).1 = 0 → (rl W m c k a x K).2.1 = -1) ∧ (rl W m c k a x K).1 < 6 := by
  intro k
  induction k with
  | zero =>
    intro a x K h
    rw [rl]
    split
    · exact ⟨h, fun _ => rfl, show 0 < 6 by decide⟩
    · exact ⟨h, fun z => absurd (show 5 = 0 from z) (by decide), show 5 < 6 by decide⟩
  | succ k ih =>
    intro a x K h
    rw [rl]
    split
    · exact ⟨h, fun _ => rfl, show 0 < 6 by decide⟩
    · split
      · rename_i e
        exact ih x (W x) _ (h.met e.2.2.1 (by omega))
      · exact ⟨h, fun z => absurd (show 5 = 0 from z) (by decide), show 5 < 6 by decide⟩
theorem tt_isl {N : Nat} {u : TS} {W F K : Nat → Nat} {m : Nat} {sc : SC} {c a x : Nat} {P : TS → Int32 → Prop} (hT : TK u W m F sc K) (hk : KI W m K) (hw : ∀ j, W j < 2 ^ 64) (hc : c < 72) (ha : a < 2048) (hx : x < 2 ^ 64) (H1 : (1 ≤ x ∧ x < m ∧ K (x - 1) = 1 ∧ cls (W (x - 1) / 4) = c ∧ W (x + 1) = a) → P u 1) (H0 : ¬ (1 ≤ x ∧ x < m ∧ K (x - 1) = 1 ∧ cls (W (x - 1) / 4) = c ∧ W (x + 1) = a) → P u 0) : w_X0_isLinked N u (lN x) (nI a) (nI c) P := by
  have m2 := hT.1.2.2.2.2
  unfold w_X0_isLinked
  rw [hT.1.2.1, nI_l (by omega : m < 2 ^ 31)]
  refine ⟨fun z => H0 (fun q => ?_), fun z1 => ⟨fun z => ?_, fun z => H0 (fun q => z ((ck_lt (by omega) hx).mpr (Or.inl q.2.1)))⟩⟩
  · have := (ck_lt (a := 1) (by decide) hx).mp z; omega
  · have z2 : ¬ (x < 1 ∨ 2 ^ 63 ≤ x) := fun q => z1 ((ck_lt (a := 1) (by decide) hx).mpr q)
    have z3 := (ck_lt (by omega) hx).mp z
    obtain ⟨y, rfl⟩ : ∃ y, x = y + 1 := ⟨x - 1, by omega⟩
    rw [Nat.add_sub_cancel] at H1 H0
    have ym : y + 1 < m := by omega
    rw [lN_i, show nI (y + 1) - (1 : Int32) = nI y from nI_pred y]
    refine tt_markOf hT (by omega) (b_eq (b := 1) (by have := hk.2.1 y; omega) (by decide) (fun e => ?_) (fun e => H0 (fun q => e q.2.2.1)))
    obtain ⟨k1, k2⟩ := hk.2.2 y (by omega)
    refine tt_bodyOf hT.1 (by omega) (by omega) ?_
    refine l_ofBody N _ (by omega) (b_eq (by have := cls_lt (show W y / 4 < 2048 by omega); omega) (by omega) (fun e2 => ?_) (fun e2 => H0 (fun q => e2 q.2.2.2.1)))
    rw [show nI y + (2 : Int32) = nI (y + 2) from nI_add y 2, nI_l (by omega : a < 2 ^ 31)]
    refine tt_at hT.1 (by omega) ⟨fun z => H1 ⟨by omega, ym, e, e2, (ck_inj (hw _) (by omega)).mp z⟩, fun z => H0 (fun q => z ((ck_inj (hw _) (by omega)).mpr q.2.2.2.2))⟩
theorem tt_rl_L {N : Nat} {W F : Nat → Nat} {m c : Nat} {s1 s2 s3 : Int32} {P : TS → Int32 → Prop} (hw : ∀ j, W j < 2 ^ 64) (m2 : m ≤ 2048) (hc : c < 72) : ∀ (k a x i fuel : Nat) (u : TS) (K : Nat → Nat), cn K 2048 ≤ k → i + cn K 2048 ≤ 512 → k < fuel → a < 2048 → x < 2 ^ 64 → KI W m K → TK u W m F (s1, s2, s3, -1) K → (∀ u1 : TS, TK u1 W m F (s1, s2, s3, (rl W m c k a x K).2.1) (rl W m c k a x K).2.2 → P u1 (nI (rl W m c k a x K).1)) → w_X0_readList_15 N P fuel u (nI c) (nI a) (lN x) (nI i) := by
  have bad : ∀ (a : Nat) (u : TS) (K : Nat → Nat), a < 2048 → TK u W m F (s1, s2, s3, -1) K → (∀ u1 : TS, TK u1 W m F (s1, s2, s3, if a = 0 then -1 else nI (a - 1)) K → P u1 (nI 5)) → ((nI a = 0 → (w_X0_tell N u (5 : Int32) (-1 : Int32) fun u16 r15 => (P u16 r15))) ∧ (¬ nI a = 0 → (w_X0_tell N u (5 : Int32) (nI a - (1 : Int32)) fun u14 r13 => (P u14 r13)))) := fun a u K ha hT H => by
    unfold w_X0_tell zlet
    refine b_eq (b := 0) (by omega) (by decide) (fun e => ?_) (fun e => ?_)
    · rw [if_pos e] at H; exact H _ (hT.wa (-1))
    · rw [if_neg e] at H
      rw [show nI a - (1 : Int32) = nI (a - 1) from pk_sub (b := 1) (by omega)]
      exact H _ (hT.wa _)
  intro k
  induction k with
  | zero =>
    intro a x i fuel u K hk hi hf ha hx hK hT H
    match fuel, hf with
    | fuel + 1, _ =>
      rw [w_X0_readList_15]
      rw [rl] at H
      refine b_lt (a := 512) (by decide) (by omega) (fun z => by omega) (fun _ => ⟨fun z => ?_, fun z => ?_⟩)
      · rw [if_pos ((nm_eq0 hx).mp z)] at H; exact H u hT
      · rw [if_neg (fun q => z ((nm_eq0 hx).mpr q))] at H
        refine tt_isl hT hK hw hc ha hx (fun e => ?_) (fun _ => ⟨fun _ => bad a u K ha hT H, fun z => absurd rfl z⟩)
        have := cn_pos e.2.2.1 2048 (by omega); omega
  | succ k ih =>
    intro a x i fuel u K hk hi hf ha hx hK hT H
    match fuel, hf with
    | fuel + 1, hf =>
      rw [w_X0_readList_15]
      rw [rl] at H
      refine b_lt (a := 512) (by decide) (by omega) (fun z => by omega) (fun _ => ⟨fun z => ?_, fun z => ?_⟩)
      · rw [if_pos ((nm_eq0 hx).mp z)] at H; exact H u hT
      · rw [if_neg (fun q => z ((nm_eq0 hx).mpr q))] at H
        refine tt_isl hT hK hw hc ha hx (fun e => ⟨fun z => absurd z (by decide), fun _ => ?_⟩) (fun e => ⟨fun _ => ?_, fun z => absurd rfl z⟩)
        · rw [if_pos e] at H
          have cm := cn_met e.2.2.1 2048 (by omega)
          rw [lN_i, show nI x - (1 : Int32) = nI (x - 1) from pk_sub (b := 1) (by omega)]
          refine tt_mark (y := 2) hT (by omega) (fun u1 t1 => ?_)
          refine tt_at t1.1 e.2.1 ?_
          rw [nI_1]
          exact ih x (W x) (i + 1) fuel u1 _ (by omega) (by omega) (by omega) (by omega) (hw x) (hK.met e.2.2.1 (by omega)) t1 H
        · rw [if_neg e] at H
          exact bad a u K ha hT H
theorem mm_in64 {N x m : Nat} {P : Int32 → Prop} (hm : m < 2 ^ 31) (hx : x < 2 ^ 64) (H1 : 1 ≤ x → x ≤ m → P 1) (H0 : ¬ (1 ≤ x ∧ x ≤ m) → P 0) : w_X5_in N (lN x) (1 : Int64) (lN m) P := by
  unfold w_X5_in
  refine ⟨fun z => H0 (fun q => ?_), fun z1 => ⟨fun z => H0 (fun q => ?_), fun z => ?_⟩⟩
  · have := (ck_lt (a := 1) (by decide) hx).mp z; omega
  · have := (ck_gt (by omega) hx).mp z; omega
  · have z2 : ¬ (x < 1 ∨ 2 ^ 63 ≤ x) := fun q => z1 ((ck_lt (a := 1) (by decide) hx).mpr q)
    have z3 : ¬ (m < x ∧ x < 2 ^ 63) := fun q => z ((ck_gt (by omega) hx).mpr q)
    exact H1 (by omega) (by omega)
theorem mm_rl_L {N : Nat} {W F : Nat → Nat} {m c : Nat} {s1 s2 s3 : Int32} {P : MS → Int32 → Prop} (hN : 3000 ≤ N) (hw : ∀ j, W j < 2 ^ 64) (m2 : m ≤ 2048) (hc : c < 72) : ∀ (k a x fuel : Nat) (v : MS) (K : Nat → Nat), cn K 2048 ≤ k → k < fuel → a < 2048 → x < 2 ^ 64 → KI W m K → MK v W m F (s1, s2, s3, -1) K → (∀ v1 : MS, MK v1 W m F (s1, s2, s3, (rl W m c k a x K).2.1) (rl W m c k a x K).2.2 → P v1 (nI (rl W m c k a x K).1)) → w_X5_checkList_11 N P fuel v (nI c) (lN x) (nI a) := by
  have bad : ∀ (a : Nat) (v : MS) (K : Nat → Nat), a < 2048 → MK v W m F (s1, s2, s3, -1) K → (∀ v1 : MS, MK v1 W m F (s1, s2, s3, if a = 0 then -1 else nI (a - 1)) K → P v1 (nI 5)) → w_X5_checkList_91 N P v (nI a) := fun a v K ha hT H => by
    unfold w_X5_checkList_91 w_X5_wrong zlet
    refine b_eq (b := 0) (by omega) (by decide) (fun e => ?_) (fun e => ?_)
    · rw [if_pos e] at H; exact H _ (hT.wa (-1))
    · rw [if_neg e] at H
      rw [show nI a - (1 : Int32) = nI (a - 1) from pk_sub (b := 1) (by omega)]
      exact H _ (hT.wa _)
  have step : ∀ (a x fuel : Nat) (v : MS) (K : Nat → Nat), a < 2048 → x < 2 ^ 64 → x ≠ 0 → KI W m K → MK v W m F (s1, s2, s3, -1) K → ((1 ≤ x ∧ x < m ∧ K (x - 1) = 1 ∧ cls (W (x - 1) / 4) = c ∧ W (x + 1) = a) → ∀ v1 : MS, MK v1 W m F (s1, s2, s3, -1) (un K (x - 1) 2) → w_X5_checkList_11 N P fuel v1 (nI c) (lN (W x)) (nI x)) → (¬ (1 ≤ x ∧ x < m ∧ K (x - 1) = 1 ∧ cls (W (x - 1) / 4) = c ∧ W (x + 1) = a) → w_X5_checkList_91 N P v (nI a)) → w_X5_checkList_11 N P (fuel + 1) v (nI c) (lN x) (nI a) := fun a x fuel v K ha hx h0 hK hT H1 H0 => by
    rw [w_X5_checkList_11, hT.1.2.1, nI_l (by omega : m < 2 ^ 31)]
    refine ⟨fun z => absurd ((nm_eq0 hx).mp z) h0, fun _ => mm_in64 (by omega) hx (fun x1 x2 => ⟨fun z => absurd z (by decide), fun _ => ?_⟩) (fun q => ⟨fun _ => H0 (fun z => q ⟨z.1, by omega⟩), fun z => absurd rfl z⟩)⟩
    obtain ⟨y, rfl⟩ : ∃ y, x = y + 1 := ⟨x - 1, by omega⟩
    rw [Nat.add_sub_cancel] at H1 H0
    obtain ⟨f1, f2⟩ := hT.2 y (by omega)
    rw [lN_i, nI_clamp (by omega : y + 1 < 2 ^ 31), f1, f2]
    have vi : vp_in (nI (y + 1)) 2049 := vp_in_nI (by omega) (by decide)
    refine ⟨vi, ?_⟩
    by_cases k0 : K y = 0
    · rw [if_pos k0]
      exact ⟨fun _ => H0 (fun q => by omega), fun z => absurd rfl z⟩
    rw [if_neg k0]
    refine ⟨fun z => absurd z (by decide), fun _ => ⟨vi, ?_⟩⟩
    by_cases k2 : K y = 2
    · rw [if_pos k2]
      exact ⟨fun z => absurd z (by decide), fun _ => H0 (fun q => by omega)⟩
    rw [if_neg k2]
    have k1 : K y = 1 := by have := hK.2.1 y; omega
    obtain ⟨g1, g2⟩ := hK.2.2 y k0
    refine ⟨fun _ => ?_, fun z => absurd rfl z⟩
    refine mm_words hT.1 (by omega) (by omega) ?_
    refine l_classIn N _ (by omega) (by omega) (b_eq (by have := cls_lt (show W y / 4 < 2048 by omega); omega) (by omega) (fun e2 => ?_) (fun e2 => H0 (fun q => e2 q.2.2.2.1)))
    rw [nI_1, nI_clamp (by omega : y + 1 + 1 < 2 ^ 31), hT.1.1 (y + 1 + 1) (by omega), nI_l (by omega : a < 2 ^ 31)]
    refine ⟨vp_in_nI (by omega) (by decide), fun z => ⟨vi, ?_⟩, fun z => H0 (fun q => z ((ck_inj (hw _) (by omega)).mpr q.2.2.2.2))⟩
    unfold zlet
    refine ⟨vp_in_nI (by omega) (by decide), ?_⟩
    show w_X5_checkList_11 N P fuel _ (nI c) (v.1.1 (y + 1)) (nI (y + 1))
    rw [hT.1.1 (y + 1) (by omega)]
    refine H1 ⟨by omega, by omega, k1, e2, (ck_inj (hw _) (by omega)).mp z⟩ _ ⟨hT.1, fun j hj => ?_⟩
    show v.2.2 (j + 1) = _ ∧ upd v.2.1 (y + 1) (vp_nar .boolean (1 : Int32)) (j + 1) = _
    unfold upd un
    by_cases e : j = y
    · subst e
      rw [if_pos rfl, if_pos rfl, if_neg (by decide), if_pos rfl, f1, if_neg k0]
      exact ⟨rfl, rfl⟩
    · rw [if_neg e, if_neg (show ¬ j + 1 = y + 1 by omega)]; exact hT.2 j hj
  intro k
  induction k with
  | zero =>
    intro a x fuel v K hk hf ha hx hK hT H
    match fuel, hf with
    | fuel + 1, _ =>
      rw [rl] at H
      by_cases x0 : x = 0
      · subst x0
        rw [w_X5_checkList_11]
        exact ⟨fun _ => H v hT, fun z => absurd rfl z⟩
      · rw [if_neg x0] at H
        refine step a x fuel v K ha hx x0 hK hT (fun e => ?_) (fun _ => bad a v K ha hT H)
        have := cn_pos e.2.2.1 2048 (by omega); omega
  | succ k ih =>
    intro a x fuel v K hk hf ha hx hK hT H
    match fuel, hf with
    | fuel + 1, hf =>
      rw [rl] at H
      by_cases x0 : x = 0
      · subst x0
        rw [w_X5_checkList_11]
        exact ⟨fun _ => H v hT, fun z => absurd rfl z⟩
      · rw [if_neg x0] at H
        refine step a x fuel v K ha hx x0 hK hT (fun e v1 t1 => ?_) (fun e => ?_)
        · rw [if_pos e] at H
          have cm := cn_met e.2.2.1 2048 (by omega)
          exact ih x (W x) fuel v1 _ (by omega) (by omega) (by omega) (hw x) (hK.met e.2.2.1 (by omega)) t1 H
        · rw [if_neg e] at H
          exact bad a v K ha hT H
