/-! ===== a block is taken, and cut; what holds of both sides between two calls ===== -/
theorem wide_lt (a b : Int32) : a.toInt64 < b.toInt64 ↔ a < b := by rw [Int64.lt_iff_toInt_lt, Int32.lt_iff_toInt_lt, Int32.toInt_toInt64, Int32.toInt_toInt64]
theorem rng (x : Int32) {lo hi : Nat} (h1 : lo < 2 ^ 31) (h2 : hi < 2 ^ 31) : x < nI lo ∨ nI hi < x ∨ ∃ j, lo ≤ j ∧ j ≤ hi ∧ x = nI j := by
  by_cases a : x < nI lo
  · exact Or.inl a
  · by_cases b : nI hi < x
    · exact Or.inr (Or.inl b)
    · have n0 : ¬ x < 0 := fun z => a (by
        rw [Int32.lt_iff_toInt_lt] at z ⊢
        rw [nI_toInt h1]; have : (0 : Int32).toInt = 0 := rfl; omega)
      obtain ⟨j, j1, j2⟩ := nI_of n0
      subst j2
      refine Or.inr (Or.inr ⟨j, ?_, ?_, rfl⟩)
      · rcases Nat.lt_or_ge j lo with z | z
        · exact absurd ((nI_ltI j1 h1).mpr z) a
        · exact z
      · rcases Nat.lt_or_ge hi j with z | z
        · exact absurd ((nI_ltI h2 j1).mpr z) b
        · exact z
theorem mm_in_lt {N lo hi : Nat} {x : Int32} {P : Int32 → Prop} (h1 : lo < 2 ^ 31) (h : x < nI lo) (H : P 0) : w_X5_in N x.toInt64 (lN lo) (lN hi) P := by
  unfold w_X5_in
  rw [← nI_l h1]
  exact ⟨fun _ => H, fun z => absurd ((wide_lt _ _).mpr h) z⟩
theorem mm_in_gt {N lo hi : Nat} {x : Int32} {P : Int32 → Prop} (h1 : hi < 2 ^ 31) (h : nI hi < x) (H : P 0) : w_X5_in N x.toInt64 (lN lo) (lN hi) P := by
  unfold w_X5_in
  rw [← nI_l h1]
  exact ⟨fun _ => H, fun _ => ⟨fun _ => H, fun z => absurd ((wide_lt _ _).mpr h) z⟩⟩
theorem mm_in_ok {N lo hi j : Nat} {P : Int32 → Prop} (h1 : lo ≤ j) (h2 : j ≤ hi) (h3 : hi < 2 ^ 31) (H : P 1) : w_X5_in N (nI j).toInt64 (lN lo) (lN hi) P := by
  unfold w_X5_in
  rw [nI_l (by omega : j < 2 ^ 31)]
  exact ⟨fun z => absurd ((lN_lt (by omega) (by omega)).mp z) (by omega), fun _ => ⟨fun z => absurd ((lN_lt h3 (by omega)).mp z) (by omega), fun _ => H⟩⟩
theorem tt_isWish_no {N : Nat} {x : Int32} {P : Int32 → Prop} (h : x < nI 1 ∨ nI 2048 < x) (H : P 0) : w_X4_isWish N x P := by
  unfold w_X4_isWish
  refine ⟨fun _ => H, fun z => ⟨fun _ => H, fun y => ?_⟩⟩
  rcases h with h | h
  · exact absurd h z
  · exact absurd h y
theorem tt_isWish_ok {N j : Nat} {P : Int32 → Prop} (h1 : 1 ≤ j) (h2 : j ≤ 2048) (H : P 1) : w_X4_isWish N (nI j) P := by
  unfold w_X4_isWish
  exact b_lt (b := 1) (by omega) (by decide) (fun z => by omega) (fun _ => b_lt (a := 2048) (by decide) (by omega) (fun z => by omega) (fun _ => H))
theorem mm_least {N n : Nat} {P : Int32 → Prop} (hn : n < 2 ^ 31) (H : P (nI (if n < 3 then 3 else n))) : w_X5_least N (nI n) P := by
  unfold w_X5_least
  refine b_lt (b := 3) hn (by decide) (fun h => ?_) (fun h => ?_)
  · rw [if_pos h] at H; exact H
  · rw [if_neg (by omega)] at H; exact H
theorem wsh_least (n : Nat) : wsh (if n < 3 then 3 else n) = wsh n := by
  by_cases h : n < 3
  · rw [if_pos h]; unfold wsh; rw [if_pos (by omega), if_neg (by omega), if_pos (by omega), if_pos h]
  · rw [if_neg h]
theorem set_clr (x : Nat) : set2 (clr2 x) = set2 x := by unfold set2 clr2; omega
theorem lnd_same {W W' : Nat → Nat} {m : Nat} {F : Nat → Nat} {r n : Nat} (hn : 3 ≤ n) (h : ∀ j, j ≠ r → j ≠ r + 1 + n → W j = W' j) (hb : r + 1 + n < m → set2 (W (r + 1 + n)) = set2 (W' (r + 1 + n))) (hb2 : ¬ r + 1 + n < m → W (r + 1 + n) = W' (r + 1 + n)) (j : Nat) : lndW W m F r n j = lndW W' m F r n j := by
  have l1 : ∀ j, (j ≠ r → W j = W' j) → lnd1 W F r n j = lnd1 W' F r n j := fun j hj => by
    rw [lnd1_e, lnd1_e]
    by_cases e : j = r
    · rw [if_pos e, if_pos e]
    · rw [hj e]
  have l2 : ∀ j, (j ≠ r → W j = W' j) → lnd2 W F r n j = lnd2 W' F r n j := fun j hj => by rw [lnd2_e, lnd2_e, l1 j hj]
  by_cases e : j = r + 1 + n
  · subst e
    by_cases z : r + 1 + n < m
    · have z1 : r + 1 + n < m ∧ r + 1 + n = r + 1 + n := ⟨z, rfl⟩
      rw [lndW_e, lndW_e, if_pos z1, if_pos z1, lnd2_e, lnd2_e, lnd1_b hn, lnd1_b hn]
      by_cases q : F (cls n) ≠ 0 ∧ r + 1 + n = F (cls n) + 1
      · rw [if_pos q, if_pos q]
      · rw [if_neg q, if_neg q]; exact hb z
    · have z1 : ¬ (r + 1 + n < m ∧ r + 1 + n = r + 1 + n) := fun q => z q.1
      rw [lndW_e, lndW_e, if_neg z1, if_neg z1]; exact l2 _ (fun _ => hb2 z)
  · have z1 : ¬ (r + 1 + n < m ∧ j = r + 1 + n) := fun q => e q.2
    rw [lndW_e, lndW_e, if_neg z1, if_neg z1]; exact l2 _ (fun q => h j q e)
/-- ref's take: the hole's first n words used, the rest free if it is enough -/
def tkW (W : Nat → Nat) (m : Nat) (F : Nat → Nat) (a M n p : Nat) : Nat → Nat := if M < n + 4 then usW W m a M p else lndW (un W a (4 * n + 2 * p)) m F (a + n + 1) (M - n - 1)
def tkF (F : Nat → Nat) (a M n : Nat) : Nat → Nat := if M < n + 4 then F else un F (cls (M - n - 1)) (a + n + 1 + 1)
def tkC (sc : SC) (M n : Nat) : SC := if M < n + 4 then sc else (sc.1 + 1, sc.2)
theorem HI.tkWF {W : Nat → Nat} {m : Nat} {F : Nat → Nat} {S : Nat → Prop} {a M p n : Nat} (h : HI W m F S a M p) (hn : 3 ≤ n) : ∃ S', WF (tkW W m F a M n p) m (tkF F a M n) S' := by
  unfold tkW tkF
  by_cases e : M < n + 4
  · rw [if_pos e, if_pos e]; exact ⟨S, h.used⟩
  · rw [if_neg e, if_neg e]; exact ⟨_, (h.cut hn (by omega)).free⟩
theorem mm_take {N : Nat} {v : MS} {W F : Nat → Nat} {m : Nat} {sc : SC} {S : Nat → Prop} {a M n p : Nat} {P : MS → Prop} (hN : 3000 ≤ N) (hR : Rc v.1 W m F sc) (hI : HI W m F S a M p) (hn : 3 ≤ n) (hnM : n ≤ M) (H : ∀ v1 : MS, Rc v1.1 (tkW W m F a M n p) m (tkF F a M n) (tkC sc M n) → P v1) : w_X5_take N v (nI (a + 1)) (nI M) (nI n) (lN (2 * p)) P := by
  have hm := hR.2.2.2.2
  obtain ⟨⟨g1, g2, g3, g4, g5, g6, g7⟩, ⟨h1, h2, h3, h4, h5⟩, hb, hfl, hl⟩ := id hI
  unfold w_X5_take zlet
  rw [show nI n + (4 : Int32) = nI (n + 4) from nI_add n 4, show nI (a + 1) - (1 : Int32) = nI a from nI_pred a, nI_clamp (by omega : a < 2 ^ 31), nI_l (by omega : M < 2 ^ 31), nI_l (by omega : n < 2 ^ 31), show (4 : Int64) * lN M + lN (2 * p) = lN (4 * M + 2 * p) by show lN 4 * lN M + _ = _; rw [lN_mul, lN_add], show (4 : Int64) * lN n + lN (2 * p) = lN (4 * n + 2 * p) by show lN 4 * lN n + _ = _; rw [lN_mul, lN_add]]
  refine b_lt (by omega) (by omega) (fun e => ⟨vp_in_nI (by omega) (by decide), ?_⟩) (fun e => ⟨vp_in_nI (by omega) (by decide), ?_⟩)
  · have r1 := hR.put a (4 * M + 2 * p)
    have H : ∀ v1 : MS, Rc v1.1 (usW W m a M p) m F sc → P v1 := fun v1 r => H v1 (by unfold tkW tkF tkC; rw [if_pos e, if_pos e, if_pos e]; exact r)
    refine mm_behind r1 (by omega) (by rw [un_s]; omega) ?_
    rw [un_s, show (4 * M + 2 * p) / 4 = M by omega]
    by_cases z : a + 1 + M < m
    · rw [if_pos z]
      refine mm_tell r1 (by omega) (by rw [un_n (by omega)]; exact (hb _ (h5 z).1 (by omega)).lt g2) (fun v1 r2 => H v1 ?_)
      rw [if_pos rfl, un_n (by omega)] at r2
      unfold usW; rw [if_pos z]; exact r2
    · rw [if_neg z]
      refine mm_tell0 (H _ ?_)
      unfold usW; rw [if_neg z]; exact r1
  · have r1 := hR.put a (4 * n + 2 * p)
    rw [nI_add, show nI (a + 1 + n) + (1 : Int32) = nI (a + n + 1 + 1) by rw [nI_1]; congr 1; omega, pk_sub hnM, show nI (M - n) - (1 : Int32) = nI (M - n - 1) from pk_sub (b := 1) (by omega)]
    refine mm_lend (by omega) r1 (hI.cut hn (by omega)).okl (fun v1 r2 => H v1 ?_)
    unfold tkW tkF tkC
    rw [if_neg (by omega), if_neg (by omega), if_neg (by omega)]; exact r2
theorem tt_take {N : Nat} {u : TS} {W F : Nat → Nat} {m : Nat} {sc : SC} {S : Nat → Prop} {a : Nat} {P : TS → Prop} (hR : Rc u.1 W m F sc) (hW : WF W m F S) (ha : S a) (hf : W a % 2 = 1) (H : ∀ u1 : TS, Rc u1.1 (usW (lvW W a) m a (W a / 4) 0) m (lvF W F a) (sc.1 + 1, sc.2) → P u1) : w_X4_take N u (nI a) P := by
  have hm := hR.2.2.2.2
  have ok := hW.okv ha hf
  have hI := hW.leave ha hf
  obtain ⟨⟨g1, g2, g3, g4, g5, g6, g7⟩, ⟨h1, h2, h3, h4, h5⟩, hb, hfl, hl⟩ := id hI
  have am := hW.1.2.2.2.2 a ha
  unfold w_X4_take
  refine tt_leave hR ok (fun u1 r1 => ?_)
  have ea := lvW_a ok
  refine tt_bodyOf r1 am (by rw [ea]; have := ok.2.1; omega) ?_
  rw [ea, show (0 : Int32) = nI 0 from rfl]
  refine tt_layHeader r1 am (by have := ok.2.1; omega) (by decide) (fun u2 r2 => ?_)
  generalize hM : W a / 4 = M at *
  have e4 : (4 * M + 0) / 4 = M := by omega
  refine tt_tellBehind r2 am (by rw [un_s]; have := ok.2.1; omega) (fun z => ?_) (fun u3 r3 => H u3 ?_)
  · rw [un_s, e4] at z ⊢
    rw [un_n (by omega)]; exact (hb _ (h5 z).1 (by omega)).lt g2
  · rw [un_s, e4, if_pos (by omega : (4 * M + 0) % 2 = 0), un_n (show a + 1 + M ≠ a by omega)] at r3
    unfold usW
    exact r3
/-- what the used block at a has beyond n words becomes free, if it is enough -/
theorem tt_cutTo {N : Nat} {u : TS} {W F : Nat → Nat} {m : Nat} {sc : SC} {S : Nat → Prop} {a M n p : Nat} {P : TS → Prop} (hR : Rc u.1 W m F sc) (hI : HI W m F S a M p) (ha : W a = 4 * M + 2 * p) (hn : 3 ≤ n) (hnM : n ≤ M)
    (H0 : M < n + 4 → P u) (H1 : n + 4 ≤ M → ∀ u1 : TS, Rc u1.1 (lndW (un W a (4 * n + 2 * p)) m F (a + n + 1) (M - n - 1)) m (un F (cls (M - n - 1)) (a + n + 1 + 1)) (sc.1 + 1, sc.2) → P u1) : w_X4_cutTo N u (nI a) (nI n) P := by
  have hm := hR.2.2.2.2
  obtain ⟨⟨g1, g2, g3, g4, g5, g6, g7⟩, ⟨h1, h2, h3, h4, h5⟩, hb, hfl, hl⟩ := id hI
  unfold w_X4_cutTo
  refine tt_bodyOf hR (by omega) (by rw [ha]; omega) ?_
  rw [ha, show (4 * M + 2 * p) / 4 = M by omega, pk_sub hnM]
  refine b_lt (b := 4) (by omega) (by decide) (fun e => H0 (by omega)) (fun e => ?_)
  refine tt_layBody hR (by omega) (by omega) (by rw [ha]; omega) (fun u1 r1 => ?_)
  rw [ha, show (4 * M + 2 * p) % 4 = 2 * p by omega] at r1
  refine tt_behind r1 (by omega) (by rw [un_s]; omega) ?_
  rw [un_s, show a + 1 + (4 * n + 2 * p) / 4 = a + n + 1 by omega, show nI (M - n) - (1 : Int32) = nI (M - n - 1) from pk_sub (b := 1) (by omega), show (0 : Int32) = nI 0 from rfl]
  refine tt_layHeader r1 (by omega) (by omega) (by decide) (fun u2 r2 => ?_)
  have k := hI.cut hn (show n + 4 ≤ M by omega)
  generalize hW2 : un (un W a (4 * n + 2 * p)) (a + n + 1) (4 * (M - n - 1) + 0) = W2 at r2
  have w2 : ∀ j, j ≠ a + n + 1 → W2 j = un W a (4 * n + 2 * p) j := fun j hj => by rw [← hW2]; exact un_n hj
  have w2r : W2 (a + n + 1) = 4 * (M - n - 1) := by rw [← hW2]; exact un_s
  have eb : a + n + 1 + 1 + (M - n - 1) = a + 1 + M := by omega
  have wb : W2 (a + 1 + M) = W (a + 1 + M) := by rw [w2 _ (by omega), un_n (by omega)]
  have e4 : W2 (a + n + 1) / 4 = M - n - 1 := by rw [w2r]; omega
  unfold w_X4_release
  refine tt_bodyOf r2 (by omega) (by rw [w2r]; omega) ?_
  refine tt_behind r2 (by omega) (by rw [w2r]; omega) ?_
  rw [e4, eb]
  have go : w_X4_release_56 N (fun u11 r10 => P u11) u2 (nI (a + n + 1)) (nI (a + n + 1)) (nI (M - n - 1)) := by
    unfold w_X4_release_56
    refine tt_isAhead r2 (by omega) (by rw [w2r]; omega) ?_
    rw [w2r, show 4 * (M - n - 1) / 2 % 2 = 0 by omega]
    refine ⟨fun _ => ?_, fun z => absurd rfl z⟩
    obtain ⟨q1, q2, q3, q4⟩ := k.okl
    have same := lnd_same (W := W2) (W' := un W a (4 * n + 2 * p)) (m := m) (F := F) (r := a + n + 1) (n := M - n - 1) (by omega) (fun j j1 _ => w2 j j1) (fun _ => by rw [w2 _ (by omega)]) (fun _ => w2 _ (by omega))
    exact tt_makeFree r2 ⟨q1, q2, q3, fun z => by rw [w2 _ (by omega)]; exact q4 z⟩ (fun u3 r3 => H1 (by omega) u3 (r3.congr (fun j _ => same j) (fun _ _ => rfl)))
  by_cases z : a + 1 + M < m
  · refine tt_isFree r2 z (by rw [wb]; have := (hb _ (h5 z).1 (by omega)).lt g2; omega) ?_
    rw [wb, (h5 z).2]
    exact ⟨fun _ => go, fun y => absurd rfl y⟩
  · exact tt_isFree0 r2 (by omega) (by omega) ⟨fun _ => go, fun y => absurd rfl y⟩
