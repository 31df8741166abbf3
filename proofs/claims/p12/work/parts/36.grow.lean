/-! ===== grow, listed ===== -/
theorem Rc.size {c : CS} {W : Nat → Nat} {m m' : Nat} {F : Nat → Nat} {sc : SC} {x : Int32} (h : Rc c W m F sc) (e : x = nI m') (h2 : m' ≤ 2048) : Rc (sN c x) W m' F sc := by subst e; exact ⟨h.1, rfl, h.2.2.1, h.2.2.2.1, h2⟩
theorem tt_last_L {N : Nat} {u : TS} {W F : Nat → Nat} {m : Nat} {sc : SC} {S : Nat → Prop} {l : Nat} {P : TS → Int32 → Prop} (hR : Rc u.1 W m F sc) (hW : WF W m F S) (hl : S l) (hn : Nx W l = m) (H : P u (nI l)) : ∀ (k y c fuel : Nat), m - y ≤ k → S y → 4 * c ≤ y → k < fuel → w_X4_lastHeader_4 N P fuel u (nI y) (nI c) := by
  have hm := hR.2.2.2.2
  intro k
  induction k with
  | zero => intro y c fuel hk hy; have := hW.1.2.2.2.2 y hy; omega
  | succ k ih =>
    intro y c fuel hk hy hc hf
    match fuel, hf with
    | fuel + 1, hf =>
      have ym := hW.1.2.2.2.2 y hy
      obtain ⟨n1, n2, n3, n4⟩ := hW.next hy
      rw [w_X4_lastHeader_4]
      refine b_lt (b := 512) (by omega) (by decide) (fun _ => ?_) (fun z => by omega)
      refine tt_behind hR ym (by omega) ?_
      rw [show y + 1 + W y / 4 = Nx W y from rfl, hR.2.1, nI_1]
      refine b_lt (by omega) (by omega) (fun lt => ?_) (fun ge => ?_)
      · refine tt_behind hR ym (by omega) ?_
        exact ih (Nx W y) (c + 1) fuel (by omega) (n1.resolve_right (by omega)) (by omega) (by omega)
      · have : y = l := by
          rcases Nat.lt_trichotomy y l with w | w | w
          · have := (hW.apart hy hl w).1; have := hW.1.2.2.2.2 l hl; omega
          · exact w
          · have := (hW.apart hl hy w).1; omega
        subst this; exact H
theorem mm_last_L {N : Nat} {v : MS} {W F : Nat → Nat} {m : Nat} {sc : SC} {S : Nat → Prop} {l : Nat} {x : Int32} {P : MS → Int32 → Prop} (hR : Rc v.1 W m F sc) (hW : WF W m F S) (hl : S l) (hn : Nx W l = m)
    (H : zlet (sMv v.1 (0 : Int32), v.2) fun u9 => (zlet (sN u9.1 ((u9.1.2.1) + x), u9.2) fun u10 => (w_X5_isFree N u10 (nI (l + 1)) fun u12 r11 => ((r11 = 0 → (w_X5_grow_109 N P u12 (u9.1.2.1) (0 : Int64) ((4 : Int64) * ((x - (1 : Int32))).toInt64) (u9.1.2.1))) ∧ (¬ r11 = 0 → (w_X5_grow_109 N P u12 (u9.1.2.1) (2 : Int64) ((4 : Int64) * ((x - (1 : Int32))).toInt64) (u9.1.2.1))))))) : ∀ (k y fuel : Nat), m - y ≤ k → S y → k < fuel → w_X5_grow_44 N P fuel v x (nI (y + 1)) := by
  have hm := hR.2.2.2.2
  intro k
  induction k with
  | zero => intro y fuel hk hy; have := hW.1.2.2.2.2 y hy; omega
  | succ k ih =>
    intro y fuel hk hy hf
    match fuel, hf with
    | fuel + 1, hf =>
      have ym := hW.1.2.2.2.2 y hy
      obtain ⟨n1, n2, n3, n4⟩ := hW.next hy
      rw [w_X5_grow_44]
      refine mm_behind hR (by omega) (by omega) ?_
      rw [show y + 1 + W y / 4 = Nx W y from rfl]
      by_cases lt : Nx W y < m
      · rw [if_pos lt]
        refine b_lt (a := 0) (by decide) (by omega) (fun _ => ?_) (fun z => by omega)
        refine mm_behind hR (by omega) (by omega) ?_
        rw [show y + 1 + W y / 4 = Nx W y from rfl, if_pos lt]
        exact ih (Nx W y) fuel (by omega) (n1.resolve_right (by omega)) (by omega)
      · rw [if_neg lt]
        refine ⟨fun z => absurd z (by decide), fun _ => ?_⟩
        have : y = l := by
          rcases Nat.lt_trichotomy y l with w | w | w
          · have := (hW.apart hy hl w).1; have := hW.1.2.2.2.2 l hl; omega
          · exact w
          · have := (hW.apart hl hy w).1; omega
        subst this; exact H
theorem WF.last {W : Nat → Nat} {m : Nat} {F : Nat → Nat} {S : Nat → Prop} (h : WF W m F S) : ∀ k y, m - y ≤ k → S y → ∃ l, S l ∧ Nx W l = m := by
  intro k
  induction k with
  | zero => intro y hk hy; have := h.1.2.2.2.2 y hy; omega
  | succ k ih =>
    intro y hk hy
    obtain ⟨n1, n2, n3, n4⟩ := h.next hy
    have := h.1.2.2.2.2 y hy
    rcases n1 with z | z
    · exact ih (Nx W y) (by omega) z
    · exact ⟨y, hy, z⟩
theorem rel_grow {N : Nat} {u : TS} {v : MS} (hN : 3000 ≤ N) (hI : Inv u v) (x : Int32) : w_X4_grow N u x (fun u1 r1 => w_X5_grow N v x (Sm u1 r1)) := by
  obtain ⟨W, m, F, sc, hu, hv, hm, hF, hs, hW⟩ := id hI
  have m2 := hu.2.2.2.2
  have su : u.1.2.2.2.2.2.1 = sc.2.2.1 := by rw [hu.2.2.2.1]
  have sv : v.1.2.2.2.2.2.1 = sc.2.2.1 := by rw [hv.2.2.2.1]
  unfold w_X4_grow
  rcases rng x (lo := 4) (hi := 1024) (by decide) (by decide) with h | h | ⟨n, h1, h2, h3⟩
  · have g : w_X5_grow N v x (Sm u (-2)) := by
      unfold w_X5_grow
      exact mm_in_lt (lo := 4) (hi := 1024) (by decide) h ⟨fun _ => ⟨rfl, hI⟩, fun z => absurd rfl z⟩
    exact ⟨fun _ => g, fun z => absurd h z⟩
  · have g : w_X5_grow N v x (Sm u (-2)) := by
      unfold w_X5_grow
      exact mm_in_gt (lo := 4) (hi := 1024) (by decide) h ⟨fun _ => ⟨rfl, hI⟩, fun z => absurd rfl z⟩
    exact ⟨fun _ => g, fun _ => ⟨fun _ => g, fun z => absurd h z⟩⟩
  · subst h3
    refine b_lt (b := 4) (by omega) (by decide) (fun z => by omega) (fun _ => b_lt (a := 1024) (by decide) (by omega) (fun z => by omega) (fun _ => ?_))
    rw [su, hu.2.1, nI_add]
    refine ⟨fun s => b_lt (a := 2048) (by decide) (by omega) (fun full => ?_) (fun room => ?_), fun s => ?_⟩
    · unfold w_X5_grow
      refine mm_in_ok (lo := 4) (hi := 1024) h1 h2 (by decide) ⟨fun z => absurd z (by decide), fun _ => ?_⟩
      rw [sv, hv.2.1, nI_add]
      exact ⟨fun _ => b_lt (a := 2048) (by decide) (by omega) (fun _ => ⟨rfl, hI⟩) (fun z => by omega), fun z => absurd s z⟩
    · obtain ⟨S, hw⟩ := hW s
      obtain ⟨l, l1, l2⟩ := hw.last m 0 (by omega) hw.1.2.2.1
      have lm := hw.1.2.2.2.2 l l1
      have ll := (hw.2.1 l l1).lt m2
      generalize hf : W l % 2 = f at *
      have f2 : f < 2 := by omega
      have hH := hw.grow (X := 4 * (n - 1) + 2 * f) h1 room l1 l2
      rw [hf] at hH
      generalize hW1 : un W m (4 * (n - 1) + 2 * f) = W1 at *
      have em : W1 m = 4 * (n - 1) + 2 * f := by rw [← hW1]; exact un_s
      have e4 : W1 m / 4 = n - 1 := by rw [em]; omega
      have e2 : W1 m / 2 % 2 = f := by rw [em]; omega
      have nx : Nx W1 m = m + n := by unfold Nx; rw [e4]; omega
      have nr : ¬ raB W1 (m + n) m := fun z => by have := z.1; rw [nx] at this; omega
      have hA : (¬ raB W1 (m + n) m ∧ HI W1 (m + n) F (fun x => S x ∨ x = m) m (W1 m / 4) (W1 m / 2 % 2)) ∨ (raB W1 (m + n) m ∧ okV W1 (m + n) (Nx W1 m) ∧ lvW W1 (Nx W1 m) m = W1 m ∧ HI (lvW W1 (Nx W1 m)) (m + n) (lvF W1 F (Nx W1 m)) (fun x => (S x ∨ x = m) ∧ x ≠ Nx W1 m) m (W1 m / 4 + 1 + W1 (Nx W1 m) / 4) (W1 m / 2 % 2)) := Or.inl ⟨nr, by rw [e4, e2]; exact hH⟩
      have ref : ∀ u2 : TS, Rc u2.1 (rbW W1 (m + n) F m (W1 m / 4) (W1 m / 2 % 2)) (m + n) (rbF W1 F m (W1 m / 4) (W1 m / 2 % 2)) (rbC (0, sc.2) (W1 m / 2 % 2)) → w_X5_grow N v (nI n) (Sm u2 (nI (m + n))) := fun u2 r2 => by
        unfold w_X5_grow
        refine mm_in_ok (lo := 4) (hi := 1024) h1 h2 (by decide) ⟨fun z => absurd z (by decide), fun _ => ?_⟩
        rw [sv, hv.2.1, nI_add]
        refine ⟨fun _ => b_lt (a := 2048) (by decide) (by omega) (fun z => by omega) (fun _ => ?_), fun z => absurd s z⟩
        refine mm_last_L hv hw l1 l2 ?_ m 0 N (by omega) hw.1.2.2.1 (by omega)
        unfold zlet
        have q1 : Rc (sN (sMv v.1 0) (v.1.2.1 + nI n)) W (m + n) F (0, sc.2) := (hv.mv 0).size (by rw [hv.2.1, nI_add]) room
        refine mm_isFree q1 (by omega) (by omega) ?_
        have g109 : ∀ (v3 : MS) (y : Nat), Rc v3.1 W (m + n) F (0, sc.2) → y = 2 * f → w_X5_grow_109 N (Sm u2 (nI (m + n))) v3 (nI m) (lN y) (lN (4 * (n - 1))) (nI m) := fun v3 y q3 hy => by
          subst hy
          unfold w_X5_grow_109 zlet
          rw [nI_clamp (by omega : m < 2 ^ 31), lN_add, nI_1]
          refine ⟨vp_in_nI (by omega) (by decide), ?_⟩
          have q4 := q3.put m (4 * (n - 1) + 2 * f)
          rw [hW1] at q4
          refine mm_release hN q4 (by omega) (by rw [em]; omega) (by rw [nx]; omega) hA (fun z => by rw [nx] at z; omega) (fun _ v5 q5 => ?_) (fun z => absurd z nr)
          refine ⟨q5.2.1.symm, Inv.mk r2 q5 ?_ (by rw [rbC_sp]; exact s)⟩
          rw [e4, e2]; exact hH.rbWF
        have c1 : (4 : Int64) * (nI n - 1).toInt64 = lN (4 * (n - 1)) := by
          rw [show nI n - (1 : Int32) = nI (n - 1) from pk_sub (b := 1) (by omega), nI_l (by omega : n - 1 < 2 ^ 31)]
          show lN 4 * _ = _
          rw [lN_mul]
        have c2 : (sMv v.1 (0 : Int32)).2.1 = nI m := hv.2.1
        rw [c1, hf]
        show (nI f = 0 → w_X5_grow_109 N (Sm u2 (nI (m + n))) _ (sMv v.1 (0 : Int32)).2.1 (lN 0) (lN (4 * (n - 1))) (sMv v.1 (0 : Int32)).2.1) ∧ (¬ nI f = 0 → w_X5_grow_109 N (Sm u2 (nI (m + n))) _ (sMv v.1 (0 : Int32)).2.1 (lN 2) (lN (4 * (n - 1))) (sMv v.1 (0 : Int32)).2.1)
        rw [c2]
        have q1' : Rc (sN (sMv v.1 0) (nI m + nI n)) W (m + n) F (0, sc.2) := (hv.mv 0).size (by rw [nI_add]) room
        exact b_eq (b := 0) (by omega) (by decide) (fun e => g109 _ _ q1' (by omega)) (fun e => g109 _ _ q1' (by omega))
      unfold w_X4_lastHeader
      refine tt_last_L hu hw l1 l2 ?_ m 0 0 N (by omega) hw.1.2.2.1 (by omega) (by omega)
      refine tt_isFree hu lm (by omega) ?_
      refine tt_forget hu (fun u1 r1 => ?_)
      unfold zlet
      have r2 : Rc (sN u1.1 (nI (m + n))) W (m + n) F (0, sc.2) := r1.size rfl room
      have g91 : ∀ y : Nat, y = 2 * f → w_X4_grow_91 N (fun u1 r1 => w_X5_grow N v (nI n) (Sm u1 r1)) (sN u1.1 (nI (m + n)), u1.2) (nI m) (nI y) (nI n - 1) (nI m) := fun y hy => by
        subst hy
        unfold w_X4_grow_91
        rw [show nI n - (1 : Int32) = nI (n - 1) from pk_sub (b := 1) (by omega)]
        refine tt_layHeader r2 (by omega) (by omega) (by omega) (fun u3 r3 => ?_)
        rw [hW1] at r3
        refine tt_release r3 (by omega) (by rw [em]; omega) (by rw [nx]; omega) hA (fun z => by rw [nx] at z; omega) (fun _ u5 r5 => ?_) (fun z => absurd z nr)
        rw [r5.2.1]
        exact ref u5 r5
      rw [hf]
      show (nI f = 0 → w_X4_grow_91 N _ _ (nI m) (nI 0) (nI n - 1) (nI m)) ∧ (¬ nI f = 0 → w_X4_grow_91 N _ _ (nI m) (nI 2) (nI n - 1) (nI m))
      exact b_eq (b := 0) (by omega) (by decide) (fun e => g91 _ (by omega)) (fun e => g91 _ (by omega))
    · unfold w_X5_grow
      refine mm_in_ok (lo := 4) (hi := 1024) h1 h2 (by decide) ⟨fun z => absurd z (by decide), fun _ => ?_⟩
      rw [sv]
      exact ⟨fun z => absurd z s, fun _ => ⟨rfl, hI⟩⟩
/-- a list of different numbers below n has at most n -/
theorem nodup_len : ∀ (n : Nat) (l : List Nat), l.Nodup → (∀ x, x ∈ l → x < n) → l.length ≤ n := by
  intro n
  induction n with
  | zero => intro l _ h; cases l with
    | nil => exact Nat.le_refl _
    | cons a l => exact absurd (h a List.mem_cons_self) (Nat.not_lt_zero a)
  | succ n ih =>
    intro l hd h
    by_cases e : n ∈ l
    · have h1 := ih (l.erase n) (hd.erase n) (fun x hx => by
        have h2 := (hd.mem_erase_iff).mp hx
        have h3 := h x h2.2
        have h4 := h2.1
        omega)
      rw [List.length_erase_of_mem e] at h1
      omega
    · have := ih l hd (fun x hx => by
        have h3 := h x hx
        have h4 : x ≠ n := fun q => e (q ▸ hx)
        omega)
      omega
/-- the place after k steps along a list; 0: it has ended -/
def ln (W : Nat → Nat) : Nat → Nat → Nat
  | 0, p => p
  | k + 1, p => if p = 0 then 0 else ln W k (W p)
theorem ln_0 (W : Nat → Nat) : ∀ k, ln W k 0 = 0 := by
  intro k; cases k with
  | zero => rfl
  | succ k => rw [ln, if_pos rfl]
theorem ln_s (W : Nat → Nat) : ∀ k p, ln W (k + 1) p = if ln W k p = 0 then 0 else W (ln W k p) := by
  intro k
  induction k with
  | zero => intro p; rw [ln]; rfl
  | succ k ih =>
    intro p
    rw [ln]
    by_cases e : p = 0
    · rw [if_pos e, ln, if_pos e, if_pos rfl]
    · rw [if_neg e, ih (W p), ln, if_neg e]
/-- the places met, newest first -/
def lns (W : Nat → Nat) (p : Nat) : Nat → List Nat
  | 0 => [(p - 1) / 4]
  | k + 1 => (ln W (k + 1) p - 1) / 4 :: lns W p k
theorem LI.chain {W F : Nat → Nat} {L : Nat → Prop} {C : Nat → Nat} (h : LI W F L C) (hL : ∀ x, L x → x < 2048) {p : Nat} (hp : ∃ q, L q ∧ p = q + 1) : ∀ k, ln W k p ≠ 0 → (∃ q, L q ∧ ln W k p = q + 1) ∧ (lns W p k).Nodup ∧ (lns W p k).length = k + 1 ∧ (∀ x, x ∈ lns W p k → x < 512) ∧ (∃ rk : Nat → Nat, (∀ a q, L a → W (a + 1) = q + 1 → rk q < rk a) ∧ ∀ x, x ∈ lns W p k → ∃ q, L q ∧ x = q / 4 ∧ rk (ln W k p - 1) ≤ rk q) := by
  obtain ⟨h1, h2, h3, rk, h4⟩ := h
  intro k
  induction k with
  | zero =>
    intro _
    obtain ⟨q, q1, q2⟩ := hp
    have := hL q q1
    refine ⟨⟨q, q1, q2⟩, ?_, rfl, fun x hx => ?_, rk, h4, fun x hx => ?_⟩
    · simp [lns]
    · rw [lns, List.mem_singleton] at hx; omega
    · rw [lns, List.mem_singleton] at hx
      exact ⟨q, q1, by rw [hx, q2, Nat.add_sub_cancel], by show rk (p - 1) ≤ rk q; rw [q2, Nat.add_sub_cancel]; exact Nat.le_refl _⟩
  | succ k ih =>
    intro hne
    have hs := ln_s W k p
    have hk : ln W k p ≠ 0 := fun e => by rw [if_pos e] at hs; exact hne hs
    rw [if_neg hk] at hs
    obtain ⟨⟨q, q1, q2⟩, i2, i3, i4, rk2, r1, r2⟩ := ih hk
    rw [q2] at hs
    rcases (h1 q q1).2.1 with z | ⟨r, z1, z2, z3, z4⟩
    · rw [z] at hs; exact absurd hs hne
    · have lt := r1 q r q1 z2
      have er : ln W (k + 1) p = r + 1 := by rw [hs, z2]
      have hr := hL r z1
      refine ⟨⟨r, z1, er⟩, ?_, by rw [lns, List.length_cons, i3], fun x hx => ?_, rk2, r1, fun x hx => ?_⟩
      · rw [lns, List.nodup_cons]
        refine ⟨fun hm => ?_, i2⟩
        obtain ⟨t, t1, t2, t3⟩ := r2 _ hm
        rw [er, Nat.add_sub_cancel] at t2
        rw [q2, Nat.add_sub_cancel] at t3
        have : r = t := by
          by_cases e : r = t
          · exact e
          · have := h3 r t z1 t1 e; omega
        subst this; omega
      · rw [lns, List.mem_cons] at hx
        rcases hx with hx | hx
        · rw [hx, er]; omega
        · exact i4 x hx
      · rw [lns, List.mem_cons] at hx
        rw [er, Nat.add_sub_cancel]
        rcases hx with hx | hx
        · exact ⟨r, z1, by rw [hx, er, Nat.add_sub_cancel], Nat.le_refl _⟩
        · obtain ⟨t, t1, t2, t3⟩ := r2 x hx
          rw [q2, Nat.add_sub_cancel] at t3
          exact ⟨t, t1, t2, by omega⟩
theorem LI.short {W F : Nat → Nat} {L : Nat → Prop} {C : Nat → Nat} (h : LI W F L C) (hL : ∀ x, L x → x < 2048) {c k : Nat} (hc : c < 72) : (ln W k (F c) = 0 ∨ ((∃ q, L q ∧ ln W k (F c) = q + 1) ∧ k < 512)) := by
  by_cases e : ln W k (F c) = 0
  · exact Or.inl e
  · rcases h.2.1 c hc with z | ⟨q, q1, q2, q3, q4⟩
    · rw [z, ln_0] at e; exact absurd rfl e
    · obtain ⟨a1, a2, a3, a4, _⟩ := h.chain hL ⟨q, q1, q2⟩ k e
      have := nodup_len 512 _ a2 a4
      exact Or.inr ⟨a1, by omega⟩
theorem tt_list_L {N : Nat} {u : TS} {W F : Nat → Nat} {m : Nat} {sc : SC} {S : Nat → Prop} {i c0 : Nat} {P : TS → Int32 → Prop} (hR : Rc u.1 W m F sc) (hW : WF W m F S) (hc0 : c0 < 72) (hi : i < 2 ^ 31) (H : ∀ p, (i < 512 → p = ln W i (F c0)) → p ≤ 2048 → w_X2_placeInList_43 N P u (nI i) (nI p)) : ∀ (d j fuel : Nat), j + d = 512 → d < fuel → j ≤ i → w_X2_placeInList_9 N P fuel u (nI i) (nI (ln W j (F c0))) (nI j) := by
  have hm := hR.2.2.2.2
  have hl := hW.2.2.2
  have hL : ∀ x, (S x ∧ W x % 2 = 1) → x < 2048 := fun x hx => by have := hW.1.2.2.2.2 x hx.1; omega
  have bd : ∀ j, ln W j (F c0) ≤ 2048 := fun j => by
    rcases hl.short hL (k := j) hc0 with z | ⟨⟨q, q1, q2⟩, _⟩
    · omega
    · have := hL q q1; omega
  intro d
  induction d with
  | zero =>
    intro j fuel hj hf hji
    match fuel, hf with
    | fuel + 1, _ =>
      rw [w_X2_placeInList_9]
      exact b_lt (b := 512) (by omega) (by decide) (fun z => by omega) (fun _ => H _ (fun z => by omega) (bd j))
  | succ d ih =>
    intro j fuel hj hf hji
    match fuel, hf with
    | fuel + 1, hf =>
      rw [w_X2_placeInList_9]
      refine b_lt (b := 512) (by omega) (by decide) (fun _ => b_lt (by omega) hi (fun lt => b_eq (b := 0) (by have := bd j; omega) (by decide) (fun e => ?_) (fun e => ?_)) (fun ge => ?_)) (fun z => by omega)
      · refine H _ (fun _ => ?_) (bd j)
        rw [e]
        have : ∀ k, ln W (j + k) (F c0) = 0 := by
          intro k
          induction k with
          | zero => exact e
          | succ k ik => rw [← Nat.add_assoc, ln_s, if_pos ik]
        have := this (i - j)
        rw [show j + (i - j) = i by omega] at this
        exact this.symm
      · rcases hl.short hL (k := j) hc0 with z | ⟨⟨q, q1, q2⟩, _⟩
        · exact absurd z e
        · have qm := hW.1.2.2.2.2 q q1.1
          have b := hW.2.1 q q1.1
          have b1 := b.1
          have b2 := b.2.1
          unfold Nx at b2
          refine tt_at hR (by omega) ?_
          rw [lN_i, nI_1]
          have := ih (j + 1) fuel (by omega) (by omega) (by omega)
          rw [ln_s, if_neg e] at this
          exact this
      · exact H _ (fun _ => by rw [show i = j by omega]) (bd j)
theorem mm_list_L {N : Nat} {v : MS} {W F : Nat → Nat} {m : Nat} {sc : SC} {S : Nat → Prop} {i c0 : Nat} {P : MS → Int32 → Prop} (hR : Rc v.1 W m F sc) (hW : WF W m F S) (hc0 : c0 < 72) (hi : i < 2 ^ 31) (H : P v (if ln W i (F c0) = 0 then -1 else nI (ln W i (F c0)))) : ∀ (d j fuel : Nat), j + d = 513 → d < fuel → j ≤ i → w_X5_listed_39 N P fuel v (nI i) (nI (ln W j (F c0))) (nI j) := by
  have hm := hR.2.2.2.2
  have hl := hW.2.2.2
  have hL : ∀ x, (S x ∧ W x % 2 = 1) → x < 2048 := fun x hx => by have := hW.1.2.2.2.2 x hx.1; omega
  have bd : ∀ j, ln W j (F c0) ≤ 2048 := fun j => by
    rcases hl.short hL (k := j) hc0 with z | ⟨⟨q, q1, q2⟩, _⟩
    · omega
    · have := hL q q1; omega
  have fin0 : ∀ j, j ≤ i → ln W j (F c0) = 0 → P v (-1) := fun j hji e => by
    have : ∀ k, ln W (j + k) (F c0) = 0 := by
      intro k
      induction k with
      | zero => exact e
      | succ k ik => rw [← Nat.add_assoc, ln_s, if_pos ik]
    have := this (i - j)
    rw [show j + (i - j) = i by omega] at this
    rw [if_pos this] at H; exact H
  intro d
  induction d with
  | zero =>
    intro j fuel hj hf hji
    have e : ln W j (F c0) = 0 := by
      rcases hl.short hL (k := j) hc0 with z | ⟨_, z⟩
      · exact z
      · omega
    match fuel, hf with
    | fuel + 1, _ =>
      rw [w_X5_listed_39, e]
      exact ⟨fun _ => ⟨fun _ => ⟨fun _ => fin0 j hji e, fun z => absurd rfl z⟩, fun z => absurd rfl z⟩, fun _ => ⟨fun _ => fin0 j hji e, fun z => absurd rfl z⟩⟩
  | succ d ih =>
    intro j fuel hj hf hji
    match fuel, hf with
    | fuel + 1, hf =>
      rw [w_X5_listed_39]
      refine b_lt (by omega) hi (fun lt => b_eq (b := 0) (by have := bd j; omega) (by decide) (fun e => ?_) (fun e => ?_)) (fun ge => ?_)
      · exact b_eq (b := 0) (by have := bd j; omega) (by decide) (fun _ => fin0 j hji e) (fun z => absurd e z)
      · rcases hl.short hL (k := j) hc0 with z | ⟨⟨q, q1, q2⟩, _⟩
        · exact absurd z e
        · have qm := hW.1.2.2.2.2 q q1.1
          have b := hW.2.1 q q1.1
          have b1 := b.1
          have b2 := b.2.1
          unfold Nx at b2
          refine ⟨vp_in_nI (by omega) (by decide), ?_⟩
          rw [nI_clamp (by omega), hR.1 _ (by omega), lN_i, nI_1]
          have := ih (j + 1) fuel (by omega) (by omega) (by omega)
          rw [ln_s, if_neg e] at this
          exact this
      · have ei : i = j := by omega
        rw [ei] at H
        refine b_eq (b := 0) (by have := bd j; omega) (by decide) (fun e => ?_) (fun e => ?_)
        · rw [if_pos e] at H; exact H
        · rw [if_neg e] at H; exact H
theorem rel_listed {N : Nat} {u : TS} {v : MS} (hN : 3000 ≤ N) (hI : Inv u v) (x w : Int32) : w_X4_listed N u x w (fun u1 r1 => w_X5_listed N v x w (Sm u1 r1)) := by
  obtain ⟨W, m, F, sc, hu, hv, hm, hF, hs, hW⟩ := id hI
  have m2 := hu.2.2.2.2
  have su : u.1.2.2.2.2.2.1 = sc.2.2.1 := by rw [hu.2.2.2.1]
  have sv : v.1.2.2.2.2.2.1 = sc.2.2.1 := by rw [hv.2.2.2.1]
  unfold w_X4_listed
  rcases rng x (lo := 0) (hi := 71) (by decide) (by decide) with h | h | ⟨c, h1, h2, h3⟩
  · have g : w_X5_listed N v x w (Sm u (-2)) := by
      unfold w_X5_listed
      exact mm_in_lt (lo := 0) (hi := 71) (by decide) h ⟨fun _ => ⟨rfl, hI⟩, fun z => absurd rfl z⟩
    exact ⟨fun _ => g, fun z => absurd h z⟩
  · have g : w_X5_listed N v x w (Sm u (-2)) := by
      unfold w_X5_listed
      exact mm_in_gt (lo := 0) (hi := 71) (by decide) h ⟨fun _ => ⟨rfl, hI⟩, fun z => absurd rfl z⟩
    refine ⟨fun _ => g, fun _ => ⟨fun z => ?_, fun _ => g⟩⟩
    exfalso
    rw [Int32.lt_iff_toInt_lt] at z h
    have e1 : (nI 71).toInt = 71 := rfl
    have e2 : (72 : Int32).toInt = 72 := rfl
    omega
  · subst h3
    refine ⟨fun z => absurd z (nI_pos (by omega)), fun _ => b_lt (b := 72) (by omega) (by decide) (fun _ => ⟨fun hneg => ?_, fun hpos => ?_⟩) (fun z => by omega)⟩
    · unfold w_X5_listed
      exact mm_in_ok (lo := 0) (hi := 71) h1 h2 (by decide) ⟨fun z => absurd z (by decide), fun _ => ⟨fun _ => ⟨rfl, hI⟩, fun z => absurd hneg z⟩⟩
    · obtain ⟨i, hi, rfl⟩ := nI_of hpos
      rw [su]
      refine ⟨fun s => ?_, fun s => ?_⟩
      · obtain ⟨S, hw⟩ := hW s
        have hL : ∀ x, (S x ∧ W x % 2 = 1) → x < 2048 := fun x hx => by have := hw.1.2.2.2.2 x hx.1; omega
        have ref : ∀ r : Int32, r = (if ln W i (F c) = 0 then -1 else nI (ln W i (F c))) → w_X5_listed N v (nI c) (nI i) (Sm u r) := fun r hr => by
          unfold w_X5_listed
          refine mm_in_ok (lo := 0) (hi := 71) h1 h2 (by decide) ⟨fun z => absurd z (by decide), fun _ => ⟨fun z => absurd z hpos, fun _ => ?_⟩⟩
          rw [sv, nI_clamp (by omega : c < 2 ^ 31), hv.2.2.1 c (by omega)]
          exact ⟨fun _ => ⟨vp_in_nI (by omega) (by decide), mm_list_L hv hw (by omega) hi ⟨hr, hI⟩ 513 0 N (by decide) (by omega) (by omega)⟩, fun z => absurd s z⟩
        unfold w_X2_placeInList
        refine tt_firstOf hu (by omega) ?_
        refine tt_list_L hu hw (by omega) hi (fun p hp pb => ?_) 512 0 N (by decide) (by omega) (by omega)
        unfold w_X2_placeInList_43
        refine b_lt (b := 512) hi (by decide) (fun lt => b_eq (b := 0) (by omega) (by decide) (fun e => ref _ ?_) (fun e => ref _ ?_)) (fun ge => ref _ ?_)
        · rw [if_pos (by rw [← hp lt]; exact e)]
        · rw [← hp lt, if_neg e]
        · rw [if_pos]
          rcases hw.2.2.2.short hL (k := i) (show c < 72 by omega) with z | ⟨_, z⟩
          · exact z
          · omega
      · unfold w_X5_listed
        refine mm_in_ok (lo := 0) (hi := 71) h1 h2 (by decide) ⟨fun z => absurd z (by decide), fun _ => ⟨fun z => absurd z hpos, fun _ => ?_⟩⟩
        rw [sv]
        exact ⟨fun z => absurd z s, fun _ => ⟨rfl, hI⟩⟩
