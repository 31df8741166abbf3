/-! ===== places; free, size, put, word, spoil, where, classOf ===== -/
theorem tt_used_L {N : Nat} {u : TS} {W F : Nat → Nat} {m : Nat} {sc : SC} {S : Nat → Prop} {a : Nat} {P : TS → Int32 → Prop} (hR : Rc u.1 W m F sc) (hW : WF W m F S) (ha : a < m) (H1 : S a → W a % 2 = 0 → P u 1) (H0 : ¬ (S a ∧ W a % 2 = 0) → P u 0) : ∀ (k y i fuel : Nat), a - y ≤ k → S y → y ≤ a → 4 * i ≤ y → k + 1 < fuel → w_X4_isUsedPlace_4 N P fuel u (nI (a + 1)) (nI y) (nI i) := by
  have hm := hR.2.2.2.2
  have last : ∀ y, y ≤ m → (y = a → S a) → (S a → y = a) → w_X4_isUsedPlace_33 N P u (nI (a + 1)) (nI y) := fun y y1 y2 y3 => by
    unfold w_X4_isUsedPlace_33
    rw [show nI (a + 1) - (1 : Int32) = nI a from nI_pred a]
    refine b_eq (by omega) (by omega) (fun e => ?_) (fun e => H0 (fun q => e (y3 q.1)))
    subst e
    have sa := y2 rfl
    refine tt_has hR (by omega) ?_
    rw [if_pos ha]
    refine ⟨fun z => absurd z (by decide), fun _ => tt_isFree hR ha (by have := (hW.2.1 _ sa).lt hm; omega) ?_⟩
    rcases Nat.mod_two_eq_zero_or_one (W y) with q | q
    · rw [q]; exact ⟨fun _ => H1 sa q, fun z => absurd rfl z⟩
    · rw [q]; exact ⟨fun z => absurd z (by decide), fun _ => H0 (fun z => by omega)⟩
  intro k
  induction k with
  | zero =>
    intro y i fuel hk hy hya hi hf
    match fuel, hf with
    | fuel + 1, _ =>
      have e : y = a := by omega
      subst e
      rw [w_X4_isUsedPlace_4, show nI (y + 1) - (1 : Int32) = nI y from nI_pred y]
      exact b_lt (b := 512) (by omega) (by decide) (fun _ => b_lt (by omega) (by omega) (fun z => by omega) (fun _ => last y (by omega) (fun _ => hy) (fun _ => rfl))) (fun _ => last y (by omega) (fun _ => hy) (fun _ => rfl))
  | succ k ih =>
    intro y i fuel hk hy hya hi hf
    match fuel, hf with
    | fuel + 1, hf =>
      have b := hW.2.1 y hy
      have bl := b.lt hm
      have b1 := b.1
      have b2 := b.2.1
      rw [w_X4_isUsedPlace_4, show nI (a + 1) - (1 : Int32) = nI a from nI_pred a]
      refine b_lt (b := 512) (by omega) (by decide) (fun _ => b_lt (by omega) (by omega) (fun z => ?_) (fun z => ?_)) (fun z => by omega)
      · refine tt_behind hR (by omega) (by omega) ?_
        rw [show y + 1 + W y / 4 = Nx W y from rfl, nI_1]
        by_cases c : Nx W y ≤ a
        · refine ih (Nx W y) (i + 1) fuel (by unfold Nx; omega) (b.2.2.2.1 (by omega)) c (by unfold Nx; omega) (by omega)
        · match fuel, hf with
          | fuel + 1, _ =>
            have ns : ¬ S a := fun q => by have := b.in q z; omega
            rw [w_X4_isUsedPlace_4, show nI (a + 1) - (1 : Int32) = nI a from nI_pred a]
            exact b_lt (b := 512) (by omega) (by decide) (fun _ => b_lt (by omega) (by omega) (fun z => by omega) (fun _ => last _ b2 (fun e => by omega) (fun q => absurd q ns))) (fun _ => last _ b2 (fun e => by omega) (fun q => absurd q ns))
      · exact last y (by omega) (fun e => by rw [← e]; exact hy) (fun _ => by omega)
theorem mm_bad_L {N : Nat} {v : MS} {W F : Nat → Nat} {m : Nat} {sc : SC} {S : Nat → Prop} {a : Nat} {P : MS → Int32 → Prop} (hR : Rc v.1 W m F sc) (hW : WF W m F S) (ha : a < 2 ^ 30) (H1 : S a → W a % 2 = 0 → P v 0) (H0 : ¬ (S a ∧ W a % 2 = 0) → P v 1) : ∀ (k y fuel : Nat), a - y ≤ k → S y → y ≤ a → k + 1 < fuel → w_X5_isBad_31 N P fuel v (nI (a + 1)) (nI (y + 1)) := by
  have hm := hR.2.2.2.2
  have last : ∀ y, y ≤ 2048 → (y = a + 1 → S a) → (S a → y = a + 1) → w_X5_isBad_49 N P v (nI (a + 1)) (nI y) := fun y y1 y2 y3 => by
    unfold w_X5_isBad_49
    refine b_lt (b := 1) (by omega) (by decide) (fun z => by omega) (fun _ => b_eq (by omega) (by omega) (fun e => ?_) (fun e => H0 (fun q => e (y3 q.1))))
    subst e
    have sa := y2 rfl
    have am := hW.1.2.2.2.2 a sa
    refine mm_isFree hR (by omega) (by have := (hW.2.1 _ sa).lt hm; omega) ?_
    rcases Nat.mod_two_eq_zero_or_one (W a) with q | q
    · rw [q]; exact ⟨fun _ => H1 sa q, fun z => absurd rfl z⟩
    · rw [q]; exact ⟨fun z => absurd z (by decide), fun _ => H0 (fun z => by omega)⟩
  intro k
  induction k with
  | zero =>
    intro y fuel hk hy hya hf
    match fuel, hf with
    | fuel + 1, _ =>
      have e : y = a := by omega
      subst e
      have am := hW.1.2.2.2.2 y hy
      rw [w_X5_isBad_31]
      exact b_lt (a := 0) (by decide) (by omega) (fun _ => b_lt (by omega) (by omega) (fun z => by omega) (fun _ => last _ (by omega) (fun _ => hy) (fun _ => rfl))) (fun _ => last _ (by omega) (fun _ => hy) (fun _ => rfl))
  | succ k ih =>
    intro y fuel hk hy hya hf
    match fuel, hf with
    | fuel + 1, hf =>
      have b := hW.2.1 y hy
      have bl := b.lt hm
      have b1 := b.1
      have b2 := b.2.1
      have ym := hW.1.2.2.2.2 y hy
      rw [w_X5_isBad_31]
      refine b_lt (a := 0) (by decide) (by omega) (fun _ => b_lt (by omega) (by omega) (fun z => ?_) (fun z => ?_)) (fun z => by omega)
      · refine mm_behind hR (by omega) (by omega) ?_
        rw [show y + 1 + W y / 4 = Nx W y from rfl]
        by_cases c : Nx W y < m
        · rw [if_pos c]
          by_cases d : Nx W y ≤ a
          · exact ih (Nx W y) fuel (by unfold Nx; omega) (b.2.2.2.1 c) d (by omega)
          · match fuel, hf with
            | fuel + 1, _ =>
              have ns : ¬ S a := fun q => by have := b.in q (by omega); omega
              rw [w_X5_isBad_31]
              exact b_lt (a := 0) (by decide) (by omega) (fun _ => b_lt (by omega) (by omega) (fun z => by omega) (fun _ => last _ (by omega) (fun e => by omega) (fun q => absurd q ns))) (fun _ => last _ (by omega) (fun e => by omega) (fun q => absurd q ns))
        · rw [if_neg c]
          match fuel, hf with
          | fuel + 1, _ =>
            have ns : ¬ S a := fun q => by have := b.in q (by omega); have := hW.1.2.2.2.2 a q; omega
            rw [w_X5_isBad_31]
            exact b_lt (a := 0) (b := 0) (by decide) (by decide) (fun z => by omega) (fun _ => last 0 (by omega) (fun e => by omega) (fun q => absurd q ns))
      · exact last _ (by omega) (fun e => by rw [show a = y by omega]; exact hy) (fun _ => by omega)
/-- the three kinds of a place, on both sides at once -/
theorem rel_place {N : Nat} {u : TS} {v : MS} {W F : Nat → Nat} {m : Nat} {sc : SC} (hN : 3000 ≤ N) (hu : Rc u.1 W m F sc) (hv : Rc v.1 W m F sc) (hm : 16 ≤ m) (hW : sc.2.2.1 = 0 → ∃ S, WF W m F S) (x : Int32) {P : TS → Int32 → Prop}
    (HB : (∀ R : MS → Int32 → Prop, R v 1 → w_X5_isBad N v x R) → P u (-2))
    (HS : ¬ sc.2.2.1 = 0 → (∀ R : MS → Int32 → Prop, R v 0 → w_X5_isBad N v x R) → P u (-3))
    (HO : ∀ (S : Nat → Prop) (a : Nat), sc.2.2.1 = 0 → WF W m F S → S a → W a % 2 = 0 → x = nI (a + 1) → (∀ R : MS → Int32 → Prop, R v 0 → w_X5_isBad N v x R) → P u 0) : w_X4_refusalOf N u x P := by
  have m2 := hu.2.2.2.2
  have su : u.1.2.2.2.2.2.1 = sc.2.2.1 := by rw [hu.2.2.2.1]
  have sv : v.1.2.2.2.2.2.1 = sc.2.2.1 := by rw [hv.2.2.2.1]
  unfold w_X4_refusalOf
  rw [su, hu.2.1]
  have bad31 : ∀ (R : MS → Int32 → Prop) (fuel : Nat), x < nI 1 → R v 1 → w_X5_isBad_31 N R (fuel + 1) v x (1 : Int32) := fun R fuel h hr => by
    rw [w_X5_isBad_31]
    have last : w_X5_isBad_49 N R v x (1 : Int32) := by unfold w_X5_isBad_49; exact ⟨fun _ => hr, fun z => absurd h z⟩
    refine ⟨fun _ => ⟨fun z => ?_, fun _ => last⟩, fun _ => last⟩
    exact absurd (Int32.lt_trans h z) Int32.lt_irrefl
  have spl : ∀ (R : MS → Int32 → Prop) (r : Int32), (∀ (Q : Int32 → Prop), Q r → w_X5_in N x.toInt64 (1 : Int64) ((nI m - 1).toInt64) Q) → (r = 0 → R v 1) → (¬ r = 0 → R v 0) → ¬ sc.2.2.1 = 0 → w_X5_isBad N v x R := fun R r hin h1 h0 s => by
    unfold w_X5_isBad
    rw [sv, hv.2.1]
    exact ⟨fun z => absurd z s, fun _ => hin _ ⟨h1, h0⟩⟩
  have em : (nI m - (1 : Int32)).toInt64 = lN (m - 1) := by rw [show nI m - (1 : Int32) = nI (m - 1) from pk_sub (b := 1) (by omega)]; exact nI_l (by omega)
  rcases rng x (lo := 1) (hi := m - 1) (by decide) (by omega) with h | h | ⟨j, h1, h2, h3⟩
  · have g : P u (-2) := HB (fun R hr => by
      by_cases s : sc.2.2.1 = 0
      · unfold w_X5_isBad
        rw [sv]
        refine ⟨fun _ => ?_, fun z => absurd s z⟩
        have q := bad31 R (N - 1) h hr
        rw [Nat.sub_add_cancel (by omega)] at q
        exact q
      · exact spl R 0 (fun Q hq => by rw [em]; exact mm_in_lt (lo := 1) (by decide) h hq) (fun _ => hr) (fun z => absurd rfl z) s)
    exact ⟨fun _ => g, fun z => absurd h z⟩
  · have hnl : ¬ x < nI m := fun z => by
      rw [Int32.lt_iff_toInt_lt, nI_toInt (by omega)] at z h
      omega
    have g : P u (-2) := HB (fun R hr => by
      by_cases s : sc.2.2.1 = 0
      · obtain ⟨S, hw⟩ := hW s
        unfold w_X5_isBad
        rw [sv]
        refine ⟨fun _ => ?_, fun z => absurd s z⟩
        -- the walk ends at 0
        have walk : ∀ (k y fuel : Nat), m - y ≤ k → S y → k + 1 < fuel → w_X5_isBad_31 N R fuel v x (nI (y + 1)) := by
          have last0 : w_X5_isBad_49 N R v x (nI 0) := by
            unfold w_X5_isBad_49
            refine ⟨fun _ => hr, fun _ => ⟨fun e => ?_, fun _ => hr⟩⟩
            exfalso
            rw [← e, Int32.lt_iff_toInt_lt, nI_toInt (by omega)] at h
            have : (nI 0).toInt = 0 := rfl
            omega
          intro k
          induction k with
          | zero => intro y fuel hk hy; have := hw.1.2.2.2.2 y hy; omega
          | succ k ih =>
            intro y fuel hk hy hf
            match fuel, hf with
            | fuel + 1, hf =>
              have b := hw.2.1 y hy
              have bl := b.lt m2
              have b1 := b.1
              have ym := hw.1.2.2.2.2 y hy
              have b2 := b.2.1
              unfold Nx at b2
              have lt : nI (y + 1) < x := by
                rw [Int32.lt_iff_toInt_lt, nI_toInt (by omega)] at h ⊢
                omega
              rw [w_X5_isBad_31]
              refine ⟨fun _ => ⟨fun _ => ?_, fun z => absurd lt z⟩, fun z => absurd ((nI_ltI (a := 0) (b := y + 1) (by decide) (by omega)).mpr (by omega)) z⟩
              refine mm_behind hv (by omega) (by omega) ?_
              rw [show y + 1 + W y / 4 = Nx W y from rfl]
              by_cases c : Nx W y < m
              · rw [if_pos c]
                exact ih (Nx W y) fuel (by unfold Nx; omega) (b.2.2.2.1 c) (by omega)
              · rw [if_neg c]
                match fuel, hf with
                | fuel + 1, _ =>
                  rw [w_X5_isBad_31]
                  exact ⟨fun z => absurd z (by decide), fun _ => last0⟩
        exact walk m 0 N (by omega) hw.1.2.2.1 (by omega)
      · exact spl R 0 (fun Q hq => by rw [em]; exact mm_in_gt (lo := 1) (by omega) h hq) (fun _ => hr) (fun z => absurd rfl z) s)
    exact ⟨fun _ => g, fun _ => ⟨fun z => absurd z hnl, fun _ => g⟩⟩
  · subst h3
    obtain ⟨a, rfl⟩ : ∃ a, j = a + 1 := ⟨j - 1, by omega⟩
    refine b_lt (b := 1) (by omega) (by decide) (fun z => by omega) (fun _ => b_lt (by omega) (by omega) (fun _ => ⟨fun s => ?_, fun s => ?_⟩) (fun z => by omega))
    · obtain ⟨S, hw⟩ := hW s
      have isb : ∀ (R : MS → Int32 → Prop), (S a → W a % 2 = 0 → R v 0) → (¬ (S a ∧ W a % 2 = 0) → R v 1) → w_X5_isBad N v (nI (a + 1)) R := fun R r1 r0 => by
        unfold w_X5_isBad
        rw [sv]
        exact ⟨fun _ => mm_bad_L hv hw (by omega) r1 r0 a 0 N (by omega) hw.1.2.2.1 (by omega) (by omega), fun z => absurd s z⟩
      unfold w_X4_isUsedPlace
      refine tt_used_L hu hw (by omega) (fun s1 s2 => ?_) (fun ns => ?_) a 0 0 N (by omega) hw.1.2.2.1 (by omega) (by omega) (by omega)
      · exact ⟨fun z => absurd z (by decide), fun _ => HO S a s hw s1 s2 rfl (fun R hr => isb R (fun _ _ => hr) (fun q => absurd ⟨s1, s2⟩ q))⟩
      · exact ⟨fun _ => HB (fun R hr => isb R (fun q1 q2 => absurd ⟨q1, q2⟩ ns) (fun _ => hr)), fun z => absurd rfl z⟩
    · exact HS s (fun R hr => spl R 1 (fun Q hq => by rw [em]; exact mm_in_ok (lo := 1) h1 h2 (by omega) hq) (fun z => absurd z (by decide)) (fun _ => hr) s)
