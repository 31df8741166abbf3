/-! ===== check agrees ===== -/
theorem tt_fillK_L {N : Nat} {P : TS → Prop} : ∀ (k fuel i : Nat) (u : TS), i + k = 2048 → k < fuel → (∀ j, j < i → u.2 j = 0) → (∀ u1 : TS, (∀ j, j < 2048 → u1.2 j = 0) → u1.1 = u.1 → P u1) → w_fillK_5 N P fuel u 0 (nI i) (nI 2048) := by
  intro k
  induction k with
  | zero =>
    intro fuel i u hi hf h H
    match fuel, hf with
    | fuel + 1, _ =>
      rw [w_fillK_5]
      exact b_lt (by omega) (by decide) (fun z => by omega) (fun _ => H u (fun j hj => h j (by omega)) rfl)
  | succ k ih =>
    intro fuel i u hi hf h H
    match fuel, hf with
    | fuel + 1, hf =>
      rw [w_fillK_5]
      refine b_lt (by omega) (by decide) (fun _ => ⟨vp_in_nI (by omega) (by decide), ?_⟩) (fun z => by omega)
      unfold zlet
      rw [nI_1, nI_clamp (by omega : i < 2 ^ 31)]
      refine ih fuel (i + 1) _ (by omega) (by omega) (fun j hj => ?_) (fun u1 h1 h2 => H u1 h1 h2)
      show upd u.2 i 0 j = 0
      unfold upd
      by_cases e : j = i
      · rw [if_pos e]
      · rw [if_neg e]; exact h j (by omega)
theorem mm_clr_L {N : Nat} {P : MS → Int32 → Prop} : ∀ (k fuel i : Nat) (v : MS), i + k = 2049 → k < fuel → (∀ j, j < i → v.2.2 j = 0 ∧ v.2.1 j = 0) → (∀ v1 : MS, (∀ j, j < 2049 → v1.2.2 j = 0 ∧ v1.2.1 j = 0) → v1.1 = v.1 → w_X5_checkBlocks_33 N P N v1 0 0) → w_X5_checkBlocks_2 N P fuel v (nI i) := by
  intro k
  induction k with
  | zero =>
    intro fuel i v hi hf h H
    match fuel, hf with
    | fuel + 1, _ =>
      rw [w_X5_checkBlocks_2]
      exact b_lt (a := 2048) (by decide) (by omega) (fun _ => H v (fun j hj => h j (by omega)) rfl) (fun z => by omega)
  | succ k ih =>
    intro fuel i v hi hf h H
    match fuel, hf with
    | fuel + 1, hf =>
      rw [w_X5_checkBlocks_2]
      refine b_lt (a := 2048) (by decide) (by omega) (fun z => by omega) (fun _ => ⟨vp_in_nI (by omega) (by decide), ?_⟩)
      unfold zlet
      refine ⟨vp_in_nI (by omega) (by decide), ?_⟩
      rw [nI_1, nI_clamp (by omega : i < 2 ^ 31)]
      refine ih fuel (i + 1) _ (by omega) (by omega) (fun j hj => ?_) (fun v1 h1 h2 => H v1 h1 h2)
      show upd v.2.2 i (vp_nar .boolean (0 : Int32)) j = 0 ∧ upd v.2.1 i (vp_nar .boolean (0 : Int32)) j = 0
      unfold upd
      by_cases e : j = i
      · rw [if_pos e, if_pos e]; exact ⟨rfl, rfl⟩
      · rw [if_neg e, if_neg e]; exact h j (by omega)
theorem tt_sl_L {N : Nat} {W F : Nat → Nat} {m : Nat} {s1 s2 s3 : Int32} {K : Nat → Nat} {P : TS → Int32 → Prop} (m2 : m ≤ 2048) (hK : ∀ j, K j ≤ 2) : ∀ (k j fuel : Nat) (u : TS), m - j ≤ k → j ≤ m → k < fuel → TK u W m F (s1, s2, s3, -1) K → (∀ u1 : TS, Rc u1.1 W m F (s1, s2, s3, (sl m K k j).2) → P u1 (nI (sl m K k j).1)) → w_X0_seekLost_2 N P fuel u (nI j) := by
  intro k
  induction k with
  | zero =>
    intro j fuel u hk hj hf hT H
    match fuel, hf with
    | fuel + 1, _ =>
      rw [w_X0_seekLost_2, hT.1.2.1]
      exact b_lt (by omega) (by omega) (fun z => by omega) (fun _ => H u hT.1)
  | succ k ih =>
    intro j fuel u hk hj hf hT H
    match fuel, hf with
    | fuel + 1, hf =>
      rw [w_X0_seekLost_2, hT.1.2.1]
      rw [sl] at H
      refine b_lt (by omega) (by omega) (fun z => ?_) (fun z => ?_)
      · rw [if_neg (by omega)] at H
        refine tt_markOf hT (by omega) (b_eq (b := 1) (by have := hK j; omega) (by decide) (fun e => ?_) (fun e => ?_))
        · rw [if_pos e] at H
          unfold w_X0_tell zlet
          exact H _ (hT.1.wa _)
        · rw [if_neg e] at H
          rw [nI_1]
          exact ih (j + 1) fuel u (by omega) (by omega) (by omega) hT H
      · rw [if_pos z] at H; exact H u hT.1
theorem mm_sl_L {N : Nat} {W F : Nat → Nat} {m : Nat} {s1 s2 s3 : Int32} {K : Nat → Nat} {P : MS → Int32 → Prop} (m2 : m ≤ 2048) (hK : ∀ j, K j ≤ 2) : ∀ (k j fuel : Nat) (v : MS), m - j ≤ k → j ≤ m → k + 1 < fuel → MK v W m F (s1, s2, s3, -1) K → (∀ v1 : MS, Rc v1.1 W m F (s1, s2, s3, (sl m K k j).2) → w_X5_check_82 N P v1 (nI (sl m K k j).1)) → w_X5_check_36 N P fuel v 0 (nI (j + 1)) := by
  intro k
  induction k with
  | zero =>
    intro j fuel v hk hj hf hT H
    match fuel, hf with
    | fuel + 1, _ =>
      rw [w_X5_check_36, hT.1.2.1]
      exact b_lt (by omega) (by omega) (fun _ => H v hT.1) (fun z => by omega)
  | succ k ih =>
    intro j fuel v hk hj hf hT H
    match fuel, hf with
    | fuel + 1, hf =>
      rw [w_X5_check_36, hT.1.2.1]
      rw [sl] at H
      refine b_lt (by omega) (by omega) (fun z => ?_) (fun z => ⟨fun _ => ?_, fun z => absurd rfl z⟩)
      · rw [if_pos (by omega)] at H; exact H v hT.1
      · rw [if_neg (by omega)] at H
        obtain ⟨f1, f2⟩ := hT.2 j (by omega)
        rw [nI_clamp (by omega : j + 1 < 2 ^ 31), f1, f2, nI_1]
        refine ⟨vp_in_nI (by omega) (by decide), ?_⟩
        have go : K j ≠ 1 → w_X5_check_36 N P fuel v 0 (nI (j + 1 + 1)) := fun e => by
          rw [if_neg e] at H
          exact ih (j + 1) fuel v (by omega) (by omega) (by omega) hT H
        by_cases k0 : K j = 0
        · rw [if_pos k0]
          exact ⟨fun _ => go (by omega), fun z => absurd rfl z⟩
        rw [if_neg k0]
        refine ⟨fun z => absurd z (by decide), fun _ => ⟨vp_in_nI (by omega) (by decide), ?_⟩⟩
        by_cases k2 : K j = 2
        · rw [if_pos k2]
          exact ⟨fun z => absurd z (by decide), fun _ => go (by omega)⟩
        rw [if_neg k2]
        refine ⟨fun _ => ?_, fun z => absurd rfl z⟩
        rw [if_pos (by have := hK j; omega)] at H
        unfold w_X5_wrong zlet
        rw [show nI (j + 1) - (1 : Int32) = nI j from nI_pred j]
        have k := H (sWa v.1 (nI j), v.2) (hT.1.wa _)
        match fuel, hf with
        | fuel + 1, _ =>
          show w_X5_check_36 N P (fuel + 1) (sWa v.1 (nI j), v.2) (6 : Int32) (nI (j + 1 + 1))
          rw [w_X5_check_36]
          exact ⟨fun _ => k, fun _ => ⟨fun z => absurd z (by decide), fun _ => k⟩⟩
theorem tt_ra_L {N : Nat} {W F : Nat → Nat} {m : Nat} {s1 s2 s3 : Int32} {P : TS → Int32 → Prop} (hN : 3000 ≤ N) (hw : ∀ j, W j < 2 ^ 64) (m2 : m ≤ 2048) (hF : ∀ c, c < 72 → F c ≤ 2048) : ∀ (k c fuel : Nat) (u : TS) (K : Nat → Nat), c + k = 72 → k + 1 < fuel → KI W m K → TK u W m F (s1, s2, s3, -1) K → (∀ u1 : TS, TK u1 W m F (s1, s2, s3, (ra W m F k c K).2.1) (ra W m F k c K).2.2 → w_X0_run_42 N P u1 (nI (ra W m F k c K).1)) → w_X0_run_20 N P fuel u 0 (nI c) := by
  intro k
  induction k with
  | zero =>
    intro c fuel u K hc hf hk hT H
    match fuel, hf with
    | fuel + 1, _ =>
      rw [w_X0_run_20]
      exact b_lt (b := 72) (by omega) (by decide) (fun z => by omega) (fun _ => H u hT)
  | succ k ih =>
    intro c fuel u K hc hf hk hT H
    match fuel, hf with
    | fuel + 1, hf =>
      rw [w_X0_run_20]
      rw [ra] at H
      refine b_lt (b := 72) (by omega) (by decide) (fun _ => ⟨fun _ => ?_, fun z => absurd rfl z⟩) (fun z => by omega)
      unfold w_X0_readList
      refine tt_firstOf hT.1 (by omega) ?_
      have fc := hF c (by omega)
      rw [nI_l (by omega : F c < 2 ^ 31)]
      have g := rl_KI (W := W) (c := c) m2 512 0 (F c) K hk
      refine tt_rl_L hw m2 (by omega) 512 0 (F c) 0 N u K hk.1 (by have := hk.1; omega) (by omega) (by omega) (by omega) hk hT (fun u1 t1 => ?_)
      rw [nI_1]
      by_cases e : (rl W m c 512 0 (F c) K).1 = 0
      · rw [if_pos e] at H
        rw [g.2.1 e] at t1
        rw [e]
        exact ih (c + 1) fuel u1 _ (by omega) (by omega) g.1 t1 H
      · rw [if_neg e] at H
        have k := H u1 t1
        match fuel, hf with
        | fuel + 1, _ =>
          rw [w_X0_run_20]
          exact ⟨fun _ => ⟨fun z => absurd ((nm_ie (by have := g.2.2; omega)).mp z) e, fun _ => k⟩, fun _ => k⟩
theorem mm_ra_L {N : Nat} {W F : Nat → Nat} {m : Nat} {s1 s2 s3 : Int32} {P : MS → Int32 → Prop} (hN : 3000 ≤ N) (hw : ∀ j, W j < 2 ^ 64) (m2 : m ≤ 2048) (hF : ∀ c, c < 72 → F c ≤ 2048) : ∀ (k c fuel : Nat) (v : MS) (K : Nat → Nat), c + k = 72 → k + 1 < fuel → KI W m K → MK v W m F (s1, s2, s3, -1) K → (∀ v1 : MS, MK v1 W m F (s1, s2, s3, (ra W m F k c K).2.1) (ra W m F k c K).2.2 → w_X5_check_34 N P v1 (nI (ra W m F k c K).1)) → w_X5_check_12 N P fuel v 0 (nI c) := by
  intro k
  induction k with
  | zero =>
    intro c fuel v K hc hf hk hT H
    match fuel, hf with
    | fuel + 1, _ =>
      rw [w_X5_check_12]
      exact b_lt (b := 72) (by omega) (by decide) (fun z => by omega) (fun _ => H v hT)
  | succ k ih =>
    intro c fuel v K hc hf hk hT H
    match fuel, hf with
    | fuel + 1, hf =>
      rw [w_X5_check_12]
      rw [ra] at H
      refine b_lt (b := 72) (by omega) (by decide) (fun _ => ⟨fun _ => ?_, fun z => absurd rfl z⟩) (fun z => by omega)
      unfold w_X5_checkList
      refine ⟨vp_in_nI (by omega) (by decide), ?_⟩
      have fc := hF c (by omega)
      rw [nI_clamp (by omega : c < 2 ^ 31), hT.1.2.2.1 c (by omega), nI_l (by omega : F c < 2 ^ 31)]
      have g := rl_KI (W := W) (c := c) m2 512 0 (F c) K hk
      refine mm_rl_L hN hw m2 (by omega) 512 0 (F c) N v K hk.1 (by omega) (by omega) (by omega) hk hT (fun v1 t1 => ?_)
      rw [nI_1]
      by_cases e : (rl W m c 512 0 (F c) K).1 = 0
      · rw [if_pos e] at H
        rw [g.2.1 e] at t1
        rw [e]
        exact ih (c + 1) fuel v1 _ (by omega) (by omega) g.1 t1 H
      · rw [if_neg e] at H
        have k := H v1 t1
        match fuel, hf with
        | fuel + 1, _ =>
          rw [w_X5_check_12]
          exact ⟨fun _ => ⟨fun z => absurd ((nm_ie (by have := g.2.2; omega)).mp z) e, fun _ => k⟩, fun _ => k⟩
theorem ra_lt {W F : Nat → Nat} {m : Nat} (m2 : m ≤ 2048) : ∀ (k c : Nat) (K : Nat → Nat), KI W m K → (ra W m F k c K).1 < 6 := by
  intro k
  induction k with
  | zero => intro c K _; rw [ra]; exact (by decide : 0 < 6)
  | succ k ih =>
    intro c K hk
    rw [ra]
    have g := rl_KI (W := W) (c := c) m2 512 0 (F c) K hk
    split
    · exact ih _ _ g.1
    · exact g.2.2
theorem tt_run {N : Nat} {u : TS} {W F : Nat → Nat} {m : Nat} {s1 s2 s3 w : Int32} {P : TS → Int32 → Prop} (hN : 3000 ≤ N) (hR : Rc u.1 W m F (s1, s2, s3, w)) (hw : ∀ j, W j < 2 ^ 64) (hF : ∀ c, c < 72 → F c ≤ 2048) (H : ∀ u1 : TS, Rc u1.1 W m F (s1, s2, s3, (ckR W m F).2) → P u1 (nI (ckR W m F).1)) : w_X0_run N u P := by
  have m2 := hR.2.2.2.2
  unfold w_X0_run w_fillK
  refine tt_fillK_L 2048 N 0 u (by decide) (by omega) (fun j hj => absurd hj (Nat.not_lt_zero j)) (fun u1 h1 h2 => ?_)
  unfold zlet w_X0_readBlocks
  have t1 : TK (sWa u1.1 (-1 : Int32), u1.2) W m F (s1, s2, s3, -1) (fun _ => 0) := ⟨by rw [h2]; exact hR.wa (-1), h1⟩
  unfold ckR at H
  refine tt_rb_L hw m2 2048 0 0 0 N _ (fun _ => 0) (by omega) (by omega) (by omega) (by omega) (by omega) t1 (fun u2 t2 => ?_)
  have rl6 := rb_lt (W := W) (m := m) 2048 0 0 (fun _ => 0)
  by_cases e1 : (rb W m 2048 0 0 (fun _ => 0)).1 = 0
  · rw [if_pos e1] at H
    obtain ⟨af, S, b, e1'⟩ := rb_BI (W := W) m2 2048 0 0 (fun _ => 0) _ (by omega) (BI.start W m) e1
    rw [e1'] at t2
    rw [e1]
    generalize (rb W m 2048 0 0 (fun _ => 0)).2.2 = K at H b t2
    have ki := b.ki m2
    refine tt_ra_L hN hw m2 hF 72 0 N u2 K (by decide) (by omega) ki t2 (fun u3 t3 => ?_)
    unfold w_X0_run_42
    have al := ra_lt (F := F) m2 72 0 K ki
    by_cases e2 : (ra W m F 72 0 K).1 = 0
    · rw [if_pos e2] at H
      obtain ⟨q, k2, e2', nz⟩ := ra_Q m2 72 0 K ki (QI.start b.2.2.2.2.1.2) e2
      rw [e2'] at t3
      rw [e2]
      refine ⟨fun _ => ?_, fun z => absurd rfl z⟩
      unfold w_X0_seekLost
      exact tt_sl_L m2 k2.2.1 2048 0 N u3 (by omega) (by omega) (by omega) t3 H
    · rw [if_neg e2] at H
      exact ⟨fun z => absurd ((nm_ie (by omega)).mp z) e2, fun _ => H u3 t3.1⟩
  · rw [if_neg e1] at H
    have k := H u2 t2.1
    match N, hN with
    | N + 1, _ =>
      rw [w_X0_run_20]
      have nz : ¬ nI (rb W m 2048 0 0 (fun _ => 0)).1 = 0 := fun z => e1 ((nm_ie (by omega)).mp z)
      unfold w_X0_run_42
      exact ⟨fun _ => ⟨fun z => absurd z nz, fun _ => ⟨fun z => absurd z nz, fun _ => k⟩⟩, fun _ => ⟨fun z => absurd z nz, fun _ => k⟩⟩
theorem mm_run {N : Nat} {v : MS} {W F : Nat → Nat} {m : Nat} {s1 s2 s3 w : Int32} {P : MS → Int32 → Prop} (hN : 3000 ≤ N) (m1 : 16 ≤ m) (hR : Rc v.1 W m F (s1, s2, s3, w)) (hw : ∀ j, W j < 2 ^ 64) (hF : ∀ c, c < 72 → F c ≤ 2048) (H : ∀ v1 : MS, Rc v1.1 W m F (s1, s2, s3, (ckR W m F).2) → w_X5_check_82 N P v1 (nI (ckR W m F).1)) : w_X5_check N v P := by
  have m2 := hR.2.2.2.2
  unfold w_X5_check w_X5_checkBlocks zlet
  refine mm_clr_L 2049 N 0 _ (by decide) (by omega) (fun j hj => absurd hj (Nat.not_lt_zero j)) (fun v1 h1 h2 => ?_)
  have t1 : MK v1 W m F (s1, s2, s3, -1) (fun _ => 0) := ⟨by rw [h2]; exact hR.wa (-1), fun j hj => h1 (j + 1) (by omega)⟩
  unfold ckR at H
  refine mm_rb_L hw m2 2048 0 0 N _ (fun _ => 0) (by omega) (by omega) (by omega) (by omega) (fun _ _ => rfl) t1 (fun v2 t2 => ?_)
  have rl6 := rb_lt (W := W) (m := m) 2048 0 0 (fun _ => 0)
  have err : ∀ (v3 : MS) (r : Nat), r ≠ 0 → r < 7 → v3.1.2.1 = nI m → w_X5_check_82 N P v3 (nI r) → w_X5_check_34 N P v3 (nI r) := fun v3 r r0 r6 hm k => by
    unfold w_X5_check_34
    match N, hN with
    | N + 1, _ =>
      rw [w_X5_check_36]
      exact ⟨fun _ => k, fun _ => ⟨fun z => absurd ((nm_ie (by omega)).mp z) r0, fun _ => k⟩⟩
  by_cases e1 : (rb W m 2048 0 0 (fun _ => 0)).1 = 0
  · rw [if_pos e1] at H
    obtain ⟨af, S, b, e1'⟩ := rb_BI (W := W) m2 2048 0 0 (fun _ => 0) _ (by omega) (BI.start W m) e1
    rw [e1'] at t2
    rw [e1]
    generalize (rb W m 2048 0 0 (fun _ => 0)).2.2 = K at H b t2
    have ki := b.ki m2
    refine mm_ra_L hN hw m2 hF 72 0 N v2 K (by decide) (by omega) ki t2 (fun v3 t3 => ?_)
    have al := ra_lt (F := F) m2 72 0 K ki
    by_cases e2 : (ra W m F 72 0 K).1 = 0
    · rw [if_pos e2] at H
      obtain ⟨q, k2, e2', nz⟩ := ra_Q m2 72 0 K ki (QI.start b.2.2.2.2.1.2) e2
      rw [e2'] at t3
      rw [e2]
      unfold w_X5_check_34
      exact mm_sl_L m2 k2.2.1 2048 0 N v3 (by omega) (by omega) (by omega) t3 H
    · rw [if_neg e2] at H
      exact err v3 _ e2 (by omega) t3.1.2.1 (H v3 t3.1)
  · rw [if_neg e1] at H
    have k := err v2 _ e1 (by omega) t2.1.2.1 (H v2 t2.1)
    match N, hN with
    | N + 1, _ =>
      rw [w_X5_check_12]
      exact ⟨fun _ => ⟨fun z => absurd ((nm_ie (by omega)).mp z) e1, fun _ => k⟩, fun _ => k⟩
theorem Rc.norm {c : CS} {W : Nat → Nat} {m : Nat} {F : Nat → Nat} {sc : SC} : Rc c W m F sc ↔ Rc c (fun j => W j % 2 ^ 64) m F sc :=
  ⟨fun h => ⟨fun j hj => by rw [h.1 j hj]; exact wb_mod _, h.2⟩, fun h => ⟨fun j hj => by rw [h.1 j hj]; exact (wb_mod _).symm, h.2⟩⟩
theorem sl_lt {m : Nat} {K : Nat → Nat} : ∀ (k j : Nat), (sl m K k j).1 < 7 := by
  intro k
  induction k with
  | zero => intro j; rw [sl]; exact (by decide : 0 < 7)
  | succ k ih =>
    intro j
    rw [sl]
    split
    · exact (by decide : 0 < 7)
    · split
      · exact (by decide : 6 < 7)
      · exact ih _
theorem ckR_lt {W : Nat → Nat} {m : Nat} {F : Nat → Nat} (m2 : m ≤ 2048) : (ckR W m F).1 < 7 := by
  unfold ckR
  have rl6 := rb_lt (W := W) (m := m) 2048 0 0 (fun _ => 0)
  by_cases e1 : (rb W m 2048 0 0 (fun _ => 0)).1 = 0
  · rw [if_pos e1]
    obtain ⟨af, S, b, e1'⟩ := rb_BI (W := W) m2 2048 0 0 (fun _ => 0) _ (by omega) (BI.start W m) e1
    generalize (rb W m 2048 0 0 (fun _ => 0)).2.2 = K at b
    have al := ra_lt (F := F) m2 72 0 K (b.ki m2)
    split
    · exact sl_lt _ _
    · show (ra W m F 72 0 K).1 < 7
      omega
  · rw [if_neg e1]
    show (rb W m 2048 0 0 (fun _ => 0)).1 < 7
    omega
theorem rel_check {N : Nat} {u : TS} {v : MS} (hN : 3000 ≤ N) (hI : Inv u v) : w_X4_check N u (fun u1 r1 => w_X5_check N v (Sm u1 r1)) := by
  obtain ⟨W, m, F, ⟨s1, s2, s3, w⟩, hu, hv, hm, hF, hs, hW⟩ := id hI
  have m2 := hu.2.2.2.2
  have hu' := Rc.norm.mp hu
  have hv' := Rc.norm.mp hv
  have hw : ∀ j, (fun j => W j % 2 ^ 64) j < 2 ^ 64 := fun j => Nat.mod_lt _ (by decide)
  have hs : s3 = 0 ∨ s3 = 1 := hs
  have hW : s3 = 0 → ∃ S, WF W m F S := hW
  have kl := ckR_lt (W := fun j => W j % 2 ^ 64) (F := F) m2
  have kw := ck_wf (W := fun j => W j % 2 ^ 64) (F := F) hm m2
  unfold w_X4_check
  refine tt_run hN hu' hw hF (fun u1 r1 => b_eq (b := 0) (by omega) (by decide) (fun e => ?_) (fun e => ?_))
  · unfold zlet
    refine mm_run hN hm hv' hw hF (fun v1 q1 => ?_)
    unfold w_X5_check_82 zlet
    have fin : ∀ v2 : MS, Rc v2.1 (fun j => W j % 2 ^ 64) m F (s1, s2, 0, (ckR (fun j => W j % 2 ^ 64) m F).2) → Sm (sSp u1.1 0, u1.2) (nI (ckR (fun j => W j % 2 ^ 64) m F).1) v2 (nI (ckR (fun j => W j % 2 ^ 64) m F).1) := fun v2 q2 => ⟨rfl, Inv.mk (r1.sp 0) q2 (kw e) rfl⟩
    exact ⟨fun _ => fin _ (q1.sp 0), fun _ => ⟨fun _ => fin _ (q1.sp 0), fun z => absurd (by rw [e]; rfl) z⟩⟩
  · refine mm_run hN hm hv' hw hF (fun v1 q1 => ?_)
    have sv : v1.1.2.2.2.2.2.1 = s3 := by rw [q1.2.2.2.1]
    unfold w_X5_check_82 zlet
    rw [sv]
    have fin : ∀ v2 : MS, Rc v2.1 (fun j => W j % 2 ^ 64) m F (s1, s2, s3, (ckR (fun j => W j % 2 ^ 64) m F).2) → Sm u1 (nI (ckR (fun j => W j % 2 ^ 64) m F).1) v2 (nI (ckR (fun j => W j % 2 ^ 64) m F).1) := fun v2 q2 => ⟨rfl, W, m, F, _, Rc.norm.mpr r1, Rc.norm.mpr q2, hm, hF, hs, hW⟩
    refine ⟨fun z => ?_, fun z => ⟨fun z2 => absurd ((nm_ie (by omega)).mp z2) e, fun _ => ?_⟩⟩
    · have := q1.sp 0
      rw [← z] at this
      exact fin _ (by rw [z] at this ⊢; exact this)
    · have h1 := hs.resolve_left z
      have := q1.sp 1
      exact fin _ (by rw [h1]; exact this)
