/-! ===== between two calls; open, alloc, found ===== -/
def Inv (u : TS) (v : MS) : Prop := ∃ (W : Nat → Nat) (m : Nat) (F : Nat → Nat) (sc : SC), Rc u.1 W m F sc ∧ Rc v.1 W m F sc ∧ 16 ≤ m ∧ (∀ c, c < 72 → F c ≤ 2048) ∧ (sc.2.2.1 = 0 ∨ sc.2.2.1 = 1) ∧ (sc.2.2.1 = 0 → ∃ S, WF W m F S)
theorem WF.firsts {W : Nat → Nat} {m : Nat} {F : Nat → Nat} {S : Nat → Prop} (h : WF W m F S) {c : Nat} (hc : c < 72) : F c ≤ 2048 := by
  rcases h.2.2.2.2.1 c hc with z | ⟨q, ⟨q1, q2⟩, q3, q4, q5⟩
  · omega
  · have := h.1.2.2.2.2 q q1; have := h.1.2.1; omega
theorem Inv.mk {u : TS} {v : MS} {W : Nat → Nat} {m : Nat} {F : Nat → Nat} {sc : SC} (a : Rc u.1 W m F sc) (b : Rc v.1 W m F sc) (h : ∃ S, WF W m F S) (s : sc.2.2.1 = 0) : Inv u v := by
  obtain ⟨S, h⟩ := h
  exact ⟨W, m, F, sc, a, b, h.1.1, fun c hc => h.firsts hc, Or.inl s, fun _ => ⟨S, h⟩⟩
theorem WF.found {W : Nat → Nat} {m : Nat} {F : Nat → Nat} {S : Nat → Prop} (h : WF W m F S) {w : Nat} (hf : fd F w ≠ 0) : ∃ a, fd F w = a + 1 ∧ S a ∧ W a % 2 = 1 ∧ w ≤ cls (W a / 4) := by
  rcases fd_sp F w with z | ⟨d, d1, d2, d3, d4⟩
  · exact absurd z hf
  · rcases h.2.2.2.2.1 d d2 with z | ⟨q, ⟨q1, q2⟩, q3, q4, q5⟩
    · exact absurd z d3
    · exact ⟨q, by rw [d4, q3], q1, q2, by have q4 : cls (W q / 4) = d := q4; rw [q4]; exact d1⟩
theorem Rc.rf {c : CS} {W : Nat → Nat} {m : Nat} {F : Nat → Nat} {sc : SC} {x y : Int32} (h : Rc c W m F sc) (e : x = y) : Rc (sRf c x) W m F (sc.1, y, sc.2.2) := by
  subst e; exact ⟨h.1, h.2.1, h.2.2.1, by show (c.2.2.2.1, x, c.2.2.2.2.2) = _; rw [h.2.2.2.1], h.2.2.2.2⟩
theorem Rc.sp {c : CS} {W : Nat → Nat} {m : Nat} {F : Nat → Nat} {sc : SC} (h : Rc c W m F sc) (x : Int32) : Rc (sSp c x) W m F (sc.1, sc.2.1, x, sc.2.2.2) := ⟨h.1, h.2.1, h.2.2.1, by show (c.2.2.2.1, c.2.2.2.2.1, x, c.2.2.2.2.2.2) = _; rw [h.2.2.2.1], h.2.2.2.2⟩
theorem Rc.wa {c : CS} {W : Nat → Nat} {m : Nat} {F : Nat → Nat} {sc : SC} (h : Rc c W m F sc) (x : Int32) : Rc (sWa c x) W m F (sc.1, sc.2.1, sc.2.2.1, x) := ⟨h.1, h.2.1, h.2.2.1, by show (c.2.2.2.1, c.2.2.2.2.1, c.2.2.2.2.2.1, x) = _; rw [h.2.2.2.1], h.2.2.2.2⟩
theorem nI_m1 {k : Nat} (h : k < 2 ^ 31) : ¬ nI k = (-1 : Int32) := fun e => by
  have := congrArg Int32.toInt e
  rw [nI_toInt h] at this
  have h2 : (-1 : Int32).toInt = -1 := rfl
  omega
abbrev Sm {α : Type} (u : TS) (r : α) : MS → α → Prop := fun v1 r2 => r = r2 ∧ Inv u v1
theorem rel_open {N : Nat} {u : TS} {v : MS} (hN : 3000 ≤ N) (hI : Inv u v) (x : Int32) : w_X4_open N u x (fun u1 r1 => w_X5_open N v x (Sm u1 r1)) := by
  unfold w_X4_open
  rcases rng x (lo := 16) (hi := 2048) (by decide) (by decide) with h | h | ⟨m, h1, h2, h3⟩
  · have g : w_X5_open N v x (Sm u (-2)) := by
      unfold w_X5_open
      exact mm_in_lt (lo := 16) (hi := 2048) (by decide) h ⟨fun _ => ⟨rfl, hI⟩, fun z => absurd rfl z⟩
    exact ⟨fun _ => g, fun z => absurd h z⟩
  · have g : w_X5_open N v x (Sm u (-2)) := by
      unfold w_X5_open
      exact mm_in_gt (lo := 16) (hi := 2048) (by decide) h ⟨fun _ => ⟨rfl, hI⟩, fun z => absurd rfl z⟩
    exact ⟨fun _ => g, fun _ => ⟨fun _ => g, fun z => absurd h z⟩⟩
  · subst h3
    refine b_lt (b := 16) (by omega) (by decide) (fun z => by omega) (fun _ => b_lt (a := 2048) (by decide) (by omega) (fun z => by omega) (fun _ => ?_))
    refine tt_begin hN h1 h2 (fun u1 r1 => ?_)
    unfold w_X5_open
    refine mm_in_ok (lo := 16) (hi := 2048) h1 h2 (by decide) ⟨fun z => absurd z (by decide), fun _ => mm_lay hN h1 h2 (fun v1 r2 => ⟨rfl, Inv.mk r1 r2 ⟨_, WF.fresh h1 h2⟩ rfl⟩)⟩
theorem rel_alloc {N : Nat} {u : TS} {v : MS} (hN : 3000 ≤ N) (hI : Inv u v) (x : Int32) : w_X4_alloc N u x (fun u1 r1 => w_X5_alloc N v x (Sm u1 r1)) := by
  obtain ⟨W, m, F, sc, hu, hv, hm, hF, hs, hW⟩ := id hI
  have su : u.1.2.2.2.2.2.1 = sc.2.2.1 := by rw [hu.2.2.2.1]
  have sv : v.1.2.2.2.2.2.1 = sc.2.2.1 := by rw [hv.2.2.2.1]
  unfold w_X4_alloc
  rcases rng x (lo := 1) (hi := 2048) (by decide) (by decide) with h | h | ⟨n, h1, h2, h3⟩
  · refine tt_isWish_no (Or.inl h) ⟨fun _ => ?_, fun z => absurd rfl z⟩
    unfold w_X5_alloc
    exact mm_in_lt (lo := 1) (hi := 2048) (by decide) h ⟨fun _ => ⟨rfl, hI⟩, fun z => absurd rfl z⟩
  · refine tt_isWish_no (Or.inr h) ⟨fun _ => ?_, fun z => absurd rfl z⟩
    unfold w_X5_alloc
    exact mm_in_gt (lo := 1) (hi := 2048) (by decide) h ⟨fun _ => ⟨rfl, hI⟩, fun z => absurd rfl z⟩
  · subst h3
    refine tt_isWish_ok h1 h2 ⟨fun z => absurd z (by decide), fun _ => ?_⟩
    rw [su]
    refine ⟨fun s0 => ?_, fun s0 => ?_⟩
    · obtain ⟨S, hW⟩ := hW s0
      have hF31 : ∀ c, c < 72 → F c < 2 ^ 31 := fun c hc => by have := hF c hc; omega
      generalize hb : (if n < 3 then 3 else n) = b
      have hb3 : 3 ≤ b ∧ n ≤ b ∧ b < 2300 := by rw [← hb]; split <;> omega
      have hwb : wsh b = wsh n := by rw [← hb]; exact wsh_least n
      refine l_bodyFor N _ (by omega) ?_
      rw [hb]
      refine tt_headerFor hN hu hF31 hb3.2.2 ?_
      rw [hwb]
      have goV : ∀ u1 r1, (w_X5_lookFor N v (nI n) fun u6 r5 => ((r5 = 0 → (zlet (sRf u6.1 ((u6.1.2.2.2.2.1) + (1 : Int32)), u6.2) fun u17 => (Sm u1 r1 u17 (-1 : Int32)))) ∧ (¬ r5 = 0 → (zlet (sMv u6.1 (0 : Int32), u6.2) fun u8 => (w_X5_leave N u8 r5 fun u10 => (w_X5_words N u10 r5 fun u12 r11 => (w_X5_least N (nI n) fun r13 => (w_X5_take N u12 r5 r11 r13 (0 : Int64) fun u16 => (Sm u1 r1 u16 r5))))))))) → w_X5_alloc N v (nI n) (Sm u1 r1) := fun u1 r1 g => by
        unfold w_X5_alloc
        refine mm_in_ok (lo := 1) (hi := 2048) h1 h2 (by decide) ⟨fun z => absurd z (by decide), fun _ => ?_⟩
        rw [sv]
        exact ⟨fun _ => g, fun z => absurd s0 z⟩
      by_cases e : fd F (wsh n) = 0
      · rw [if_pos e]
        refine ⟨fun _ => ?_, fun z => absurd rfl z⟩
        unfold w_X4_refuse zlet
        refine goV _ _ (mm_lookFor hN hv hF31 (by omega) ?_)
        rw [e]
        refine ⟨fun _ => ⟨rfl, ?_⟩, fun z => absurd rfl z⟩
        exact Inv.mk (hu.rf (y := sc.2.1 + 1) (by rw [hu.2.2.2.1])) (hv.rf (y := sc.2.1 + 1) (by rw [hv.2.2.2.1])) ⟨S, hW⟩ s0
      · rw [if_neg e]
        obtain ⟨a, a1, a2, a3, a4⟩ := hW.found e
        have am := hW.1.2.2.2.2 a a2
        have m2 := hW.1.2.1
        have en := wsh_enough (n := b) (b := W a / 4) hb3.2.2 (by have := (hW.2.1 a a2).lt m2; omega) (by rw [hwb]; exact a4)
        rw [a1, Nat.add_sub_cancel]
        refine ⟨fun z => absurd z (nI_m1 (by omega)), fun _ => ?_⟩
        refine tt_forget hu (fun u1 r1 => ?_)
        refine tt_take r1 hW a2 a3 (fun u2 r2 => ?_)
        have hH := hW.leave a2 a3
        have hok := hW.okv a2 a3
        have hM : W a / 4 < 2048 := by have := (hW.2.1 a a2).lt m2; omega
        have nxm : a + 1 + W a / 4 ≤ m := (hW.2.1 a a2).2.1
        have ua : usW (lvW W a) m a (W a / 4) 0 a = 4 * (W a / 4) + 2 * 0 := by
          unfold usW
          split
          · rw [un_n (by omega), un_s]
          · rw [un_s]
        have hU := hH.used
        have hH2 : HI (usW (lvW W a) m a (W a / 4) 0) m (lvF W F a) S a (W a / 4) 0 := by
          have hn : Nx (usW (lvW W a) m a (W a / 4) 0) a = a + 1 + W a / 4 := by unfold Nx; rw [ua]; omega
          have k := hU.hole a2 (by rw [ua]; omega) (fun z => by
            rw [hn] at z ⊢
            unfold usW
            rw [if_pos z, un_s, (clr2_f _).2.1]
            exact (hH.2.1.2.2.2.2 z).2)
          rw [ua, show (4 * (W a / 4) + 2 * 0) / 4 = W a / 4 by omega, show (4 * (W a / 4) + 2 * 0) / 2 % 2 = 0 by omega] at k
          exact k
        have ref : ∀ (u3 : TS), (∀ v3 : MS, Rc v3.1 (tkW (lvW W a) m (lvF W F a) a (W a / 4) b 0) m (tkF (lvF W F a) a (W a / 4) b) (tkC (0 + 1, sc.2) (W a / 4) b) → Inv u3 v3) → w_X5_alloc N v (nI n) (Sm u3 (nI a + 1)) := fun u3 fin => by
          refine goV _ _ (mm_lookFor hN hv hF31 (by omega) ?_)
          rw [a1]
          refine ⟨fun z => absurd ((nm_ie (by omega)).mp z) (by omega), fun _ => ?_⟩
          unfold zlet
          refine mm_leave (by omega) (hv.mv 0) hok (fun v1 q1 => ?_)
          refine mm_words q1 (by omega) (by rw [lvW_a hok]; have := hok.2.1; omega) ?_
          rw [lvW_a hok]
          refine mm_least (by omega) ?_
          rw [hb]
          exact mm_take (p := 0) hN q1 hH hb3.1 en.1 (fun v3 q3 => ⟨nI_1 a, fin v3 q3⟩)
        refine tt_cutTo r2 hH2 ua hb3.1 en.1 (fun lt => ?_) (fun ge u3 r3 => ?_)
        · refine ref _ (fun v3 q3 => ?_)
          have wf := hH.tkWF hb3.1
          unfold tkW tkF at wf
          unfold tkW tkF tkC at q3
          rw [if_pos lt, if_pos lt] at wf
          rw [if_pos lt, if_pos lt, if_pos lt] at q3
          exact Inv.mk r2 q3 wf s0
        · refine ref _ (fun v3 q3 => ?_)
          have wf := hH.tkWF hb3.1
          unfold tkW tkF at wf
          unfold tkW tkF tkC at q3
          rw [if_neg (by omega), if_neg (by omega)] at wf
          rw [if_neg (by omega), if_neg (by omega), if_neg (by omega)] at q3
          refine Inv.mk (r3.congr (fun j _ => ?_) (fun _ _ => rfl)) q3 wf s0
          have hbb : a + b + 1 + 1 + (W a / 4 - b - 1) = a + 1 + W a / 4 := by omega
          have uo : ∀ j, j ≠ a → j ≠ a + 1 + W a / 4 → usW (lvW W a) m a (W a / 4) 0 j = lvW W a j := fun j j1 j2 => by
            unfold usW
            split
            · rw [un_n j2, un_n j1]
            · rw [un_n j1]
          refine lnd_same (by omega) (fun j j1 j2 => ?_) (fun z => ?_) (fun z => ?_) j
          · rw [hbb] at j2
            by_cases ja : j = a
            · rw [ja, un_s, un_s]
            · rw [un_n ja, un_n ja]; exact uo j ja j2
          · rw [hbb] at z ⊢
            rw [un_n (by omega), un_n (by omega)]
            unfold usW
            rw [if_pos z, un_s]; exact set_clr _
          · rw [hbb] at z ⊢
            rw [un_n (by omega), un_n (by omega)]
            unfold usW
            rw [if_neg z, un_n (by omega)]
    · unfold w_X5_alloc
      refine mm_in_ok (lo := 1) (hi := 2048) h1 h2 (by decide) ⟨fun z => absurd z (by decide), fun _ => ?_⟩
      rw [sv]
      exact ⟨fun z => absurd z s0, fun _ => ⟨rfl, hI⟩⟩
theorem rel_found {N : Nat} {u : TS} {v : MS} (hN : 3000 ≤ N) (hI : Inv u v) (x : Int32) : w_X4_found N u x (fun u1 r1 => w_X5_found N v x (Sm u1 r1)) := by
  obtain ⟨W, m, F, sc, hu, hv, hm, hF, hs, hW⟩ := id hI
  have su : u.1.2.2.2.2.2.1 = sc.2.2.1 := by rw [hu.2.2.2.1]
  have sv : v.1.2.2.2.2.2.1 = sc.2.2.1 := by rw [hv.2.2.2.1]
  unfold w_X4_found
  rcases rng x (lo := 1) (hi := 2048) (by decide) (by decide) with h | h | ⟨n, h1, h2, h3⟩
  · refine tt_isWish_no (Or.inl h) ⟨fun _ => ?_, fun z => absurd rfl z⟩
    unfold w_X5_found
    exact mm_in_lt (lo := 1) (hi := 2048) (by decide) h ⟨fun _ => ⟨rfl, hI⟩, fun z => absurd rfl z⟩
  · refine tt_isWish_no (Or.inr h) ⟨fun _ => ?_, fun z => absurd rfl z⟩
    unfold w_X5_found
    exact mm_in_gt (lo := 1) (hi := 2048) (by decide) h ⟨fun _ => ⟨rfl, hI⟩, fun z => absurd rfl z⟩
  · subst h3
    refine tt_isWish_ok h1 h2 ⟨fun z => absurd z (by decide), fun _ => ?_⟩
    rw [su]
    have hF31 : ∀ c, c < 72 → F c < 2 ^ 31 := fun c hc => by have := hF c hc; omega
    refine ⟨fun s0 => ?_, fun s0 => ?_⟩
    · generalize hb : (if n < 3 then 3 else n) = b
      have hb3 : b < 2300 := by rw [← hb]; split <;> omega
      have hwb : wsh b = wsh n := by rw [← hb]; exact wsh_least n
      refine l_bodyFor N _ (by omega) ?_
      rw [hb]
      refine tt_headerFor hN hu hF31 hb3 ?_
      rw [hwb]
      have goV : ∀ r1, (w_X5_lookFor N v (nI n) fun u6 r5 => ((r5 = 0 → Sm u r1 u6 (-1 : Int32)) ∧ (¬ r5 = 0 → Sm u r1 u6 r5))) → w_X5_found N v (nI n) (Sm u r1) := fun r1 g => by
        unfold w_X5_found
        refine mm_in_ok (lo := 1) (hi := 2048) h1 h2 (by decide) ⟨fun z => absurd z (by decide), fun _ => ?_⟩
        rw [sv]
        exact ⟨fun _ => g, fun z => absurd s0 z⟩
      have fb : fd F (wsh n) ≤ 2048 := by
        rcases fd_sp F (wsh n) with z | ⟨d, d1, d2, d3, d4⟩
        · omega
        · rw [d4]; exact hF d d2
      by_cases e : fd F (wsh n) = 0
      · rw [if_pos e]
        refine ⟨fun _ => goV _ (mm_lookFor hN hv hF31 (by omega) ?_), fun z => absurd rfl z⟩
        rw [e]
        exact ⟨fun _ => ⟨rfl, hI⟩, fun z => absurd rfl z⟩
      · rw [if_neg e]
        refine ⟨fun z => absurd z (nI_m1 (by omega)), fun _ => goV _ (mm_lookFor hN hv hF31 (by omega) ?_)⟩
        refine ⟨fun z => absurd ((nm_ie (by omega)).mp z) e, fun _ => ⟨?_, hI⟩⟩
        rw [nI_1, Nat.sub_add_cancel (by omega)]
    · unfold w_X5_found
      refine mm_in_ok (lo := 1) (hi := 2048) h1 h2 (by decide) ⟨fun z => absurd z (by decide), fun _ => ?_⟩
      rw [sv]
      exact ⟨fun z => absurd z s0, fun _ => ⟨rfl, hI⟩⟩
