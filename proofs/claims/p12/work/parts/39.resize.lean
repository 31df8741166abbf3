/-! ===== resize: equal answers, but where the pool is spoilt and the wish is none ===== -/
abbrev SmR (u0 : TS) (y : Int32) (u : TS) (r : Int32) : MS → Int32 → Prop := fun v1 r2 => ((u0.1.2.2.2.2.2.1 = 0 ∨ ¬ (y < nI 1 ∨ nI 2048 < y)) → r = r2) ∧ Inv u v1
/-- the block behind gives its words -/
theorem tt_joinBehind {N : Nat} {u : TS} {W F : Nat → Nat} {m : Nat} {sc : SC} {S : Nat → Prop} {a M p : Nat} {P : TS → Prop} (hR : Rc u.1 W m F sc) (hW : WF W m F S) (sa : S a) (hWa : W a = 4 * M + 2 * p) (hp : p < 2) (yr : raB W m a)
    (H : ∀ u1 : TS, Rc u1.1 (usW (lvW W (a + 1 + M)) m a (M + 1 + W (a + 1 + M) / 4) p) m (lvF W F (a + 1 + M)) (sc.1 + 1, sc.2) → P u1) : w_X4_joinBehind N u (nI a) P := by
  have hm := hR.2.2.2.2
  have am := hW.1.2.2.2.2 a sa
  have hNa : Nx W a = a + 1 + M := by unfold Nx; rw [hWa]; omega
  obtain ⟨ok, ea, hH⟩ := hW.joinNext sa (by omega) yr.1 yr.2
  rw [hNa] at ok ea hH
  rw [show W a / 4 = M by omega, show W a / 2 % 2 = p by omega] at hH
  have yl : a + 1 + M < m := by rw [← hNa]; exact yr.1
  have eb := lvW_a ok
  have ow := ok.2.1
  generalize hM2 : W (a + 1 + M) / 4 = M2 at *
  generalize hW1 : lvW W (a + 1 + M) = W1 at *
  generalize hF1 : lvF W F (a + 1 + M) = F1 at *
  have top := hH.2.1.2.1
  unfold w_X4_joinBehind
  refine tt_behind hR am (by rw [hWa]; omega) ?_
  rw [show a + 1 + W a / 4 = a + 1 + M by omega]
  refine tt_leave hR ok (fun u1 r1 => ?_)
  rw [hW1, hF1] at r1
  refine tt_bodyOf r1 am (by rw [ea, hWa]; omega) ?_
  refine tt_bodyOf r1 yl (by rw [eb]; omega) ?_
  rw [ea, eb, hM2, hWa, show (4 * M + 2 * p) / 4 = M by omega, nI_1, nI_add]
  refine tt_layBody r1 am (by omega) (by rw [ea, hWa]; omega) (fun u2 r2 => ?_)
  rw [ea, hWa, show 4 * (M + 1 + M2) + (4 * M + 2 * p) % 4 = 4 * (M + 1 + M2) + 2 * p by omega] at r2
  have e3 : a + 1 + (4 * (M + 1 + M2) + 2 * p) / 4 = a + 1 + (M + 1 + M2) := by omega
  refine tt_tellBehind r2 am (by rw [un_s]; omega) ?_ (fun u3 r3 => H u3 ?_)
  · rw [un_s, e3]
    intro z
    rw [un_n (by omega)]
    exact (hH.2.2.1 _ (hH.2.1.2.2.2.2 z).1 (by omega)).lt hm
  · rw [un_s, e3, if_pos (by omega : (4 * (M + 1 + M2) + 2 * p) % 2 = 0)] at r3
    unfold usW
    by_cases z : a + 1 + (M + 1 + M2) < m
    · rw [if_pos z, un_n (by omega)] at r3
      rw [if_pos z]; exact r3
    · rw [if_neg z] at r3
      rw [if_neg z]; exact r3
theorem rel_resize {N : Nat} {u : TS} {v : MS} (hN : 3000 ≤ N) (hI : Inv u v) (x y : Int32) : w_X4_resize N u x y (fun u1 r1 => w_X5_resize N v x y (SmR u y u1 r1)) := by
  obtain ⟨W, m, F, sc, hu, hv, hm, hF, hs, hW⟩ := id hI
  have su : u.1.2.2.2.2.2.1 = sc.2.2.1 := by rw [hu.2.2.2.1]
  have sv : v.1.2.2.2.2.2.1 = sc.2.2.1 := by rw [hv.2.2.2.1]
  unfold w_X4_resize
  refine rel_place hN hu hv hm hW x (fun hb => ?_) (fun s hb => ?_) (fun S a s hw sa ua hx hb => ?_)
  · refine ⟨fun z => absurd z (by decide), fun _ => ?_⟩
    unfold w_X5_resize
    exact hb _ ⟨fun z => absurd z (by decide), fun _ => ⟨fun _ => rfl, hI⟩⟩
  · refine ⟨fun z => absurd z (by decide), fun _ => ?_⟩
    unfold w_X5_resize
    refine hb _ ⟨fun _ => ?_, fun z => absurd rfl z⟩
    rcases rng y (lo := 1) (hi := 2048) (by decide) (by decide) with h | h | ⟨n, h1, h2, h3⟩
    · exact mm_in_lt (lo := 1) (hi := 2048) (by decide) h ⟨fun _ => ⟨fun z => absurd z (fun z => z.elim (fun q => s (su ▸ q)) (fun q => q (Or.inl h))), hI⟩, fun z => absurd rfl z⟩
    · exact mm_in_gt (lo := 1) (hi := 2048) (by decide) h ⟨fun _ => ⟨fun z => absurd z (fun z => z.elim (fun q => s (su ▸ q)) (fun q => q (Or.inr h))), hI⟩, fun z => absurd rfl z⟩
    · subst h3
      refine mm_in_ok (lo := 1) (hi := 2048) h1 h2 (by decide) ⟨fun z => absurd z (by decide), fun _ => ?_⟩
      rw [sv]; exact ⟨fun z => absurd z s, fun _ => ⟨fun _ => rfl, hI⟩⟩
  refine ⟨fun _ => ?_, fun z => absurd rfl z⟩
  rcases rng y (lo := 1) (hi := 2048) (by decide) (by decide) with h | h | ⟨n, h1, h2, h3⟩
  · refine tt_isWish_no (Or.inl h) ⟨fun _ => ?_, fun z => absurd rfl z⟩
    unfold w_X5_resize
    exact hb _ ⟨fun _ => mm_in_lt (lo := 1) (hi := 2048) (by decide) h ⟨fun _ => ⟨fun _ => rfl, hI⟩, fun z => absurd rfl z⟩, fun z => absurd rfl z⟩
  · refine tt_isWish_no (Or.inr h) ⟨fun _ => ?_, fun z => absurd rfl z⟩
    unfold w_X5_resize
    exact hb _ ⟨fun _ => mm_in_gt (lo := 1) (hi := 2048) (by decide) h ⟨fun _ => ⟨fun _ => rfl, hI⟩, fun z => absurd rfl z⟩, fun z => absurd rfl z⟩
  subst h3
  refine tt_isWish_ok h1 h2 ⟨fun z => absurd z (by decide), fun _ => ?_⟩
  have am := hw.1.2.2.2.2 a sa
  have m2 := hw.1.2.1
  have b0 := hw.2.1 a sa
  have bl := b0.lt m2
  have hF31 : ∀ c, c < 72 → F c < 2 ^ 31 := fun c hc => by have := hF c hc; omega
  generalize hbd : (if n < 3 then 3 else n) = b
  have hb3 : 3 ≤ b ∧ n ≤ b ∧ b ≤ 2048 := by rw [← hbd]; split <;> omega
  obtain ⟨M, p, hp, hWa⟩ : ∃ M p, p < 2 ∧ W a = 4 * M + 2 * p := ⟨W a / 4, W a / 2 % 2, by omega, by omega⟩
  have hNa : Nx W a = a + 1 + M := by unfold Nx; rw [hWa]; omega
  have nm := b0.2.1
  have a4 := b0.2.2.2.1
  have M3 := b0.1
  rw [show W a / 4 = M by omega] at M3
  rw [hNa] at nm a4
  have bn : a + 1 + M < m → W (a + 1 + M) < 8192 := fun z => (hw.2.1 _ (a4 z)).lt m2
  rw [hx] at hb ⊢
  rw [show nI (a + 1) - (1 : Int32) = nI a from nI_pred a]
  -- the reference, up to the question whether the words are enough
  have ref : ∀ (R : MS → Int32 → Prop), (raB W m a → w_X5_resize_108 N R v (nI (a + 1)) (nI b) (nI M) (lN (2 * p)) (nI (a + 1 + M + 1)) 1 (nI (M + 1 + W (a + 1 + M) / 4))) → (¬ raB W m a → ∀ x7, w_X5_resize_108 N R v (nI (a + 1)) (nI b) (nI M) (lN (2 * p)) x7 0 (nI M)) → w_X5_resize N v (nI (a + 1)) (nI n) R := fun R g1 g0 => by
    unfold w_X5_resize
    refine hb _ ⟨fun _ => mm_in_ok (lo := 1) (hi := 2048) h1 h2 (by decide) ⟨fun z => absurd z (by decide), fun _ => ?_⟩, fun z => absurd rfl z⟩
    rw [sv]
    refine ⟨fun _ => mm_least (by omega) ?_, fun z => absurd s z⟩
    rw [hbd]
    refine mm_words hv (by omega) (by omega) ?_
    rw [show nI (a + 1) - (1 : Int32) = nI a from nI_pred a, nI_clamp (by omega : a < 2 ^ 31), hv.1 a (by omega), nm_and2 (by omega), hWa, show (4 * M + 2 * p) / 2 % 2 * 2 = 2 * p by omega, show (4 * M + 2 * p) / 4 = M by omega]
    refine ⟨vp_in_nI (by omega) (by decide), mm_behind hv (by omega) (by omega) ?_⟩
    rw [show a + 1 + W a / 4 = a + 1 + M by omega]
    by_cases lt : a + 1 + M < m
    · rw [if_pos lt]
      refine b_lt (a := 0) (by decide) (by omega) (fun _ => ?_) (fun z => by omega)
      refine mm_isFree hv (by omega) (by have := bn lt; omega) ?_
      rcases Nat.mod_two_eq_zero_or_one (W (a + 1 + M)) with q | q
      · rw [q]
        refine ⟨fun _ => ?_, fun z => absurd rfl z⟩
        unfold w_X5_resize_84 w_X5_resize_85
        refine ⟨fun _ => g0 (fun z => ?_) _, fun z => absurd rfl z⟩
        have := z.2; rw [hNa] at this; omega
      · rw [q]
        refine ⟨fun z => absurd z (by decide), fun _ => ?_⟩
        unfold w_X5_resize_85
        refine ⟨fun z => absurd z (by decide), fun _ => mm_words hv (by omega) (by have := bn lt; omega) ?_⟩
        rw [nI_1, nI_add]
        exact g1 ⟨by rw [hNa]; exact lt, by rw [hNa]; exact q⟩
    · rw [if_neg lt]
      refine ⟨fun z => absurd z (by decide), fun _ => ?_⟩
      unfold w_X5_resize_84 w_X5_resize_85
      exact ⟨fun _ => g0 (fun z => lt (by have := z.1; rw [hNa] at this; exact this)) _, fun z => absurd rfl z⟩
  -- the class's question
  have cls1 : ∀ (P : TS → Int32 → Prop), (raB W m a → P u (nI (M + 1 + W (a + 1 + M) / 4))) → (¬ raB W m a → P u (nI M)) → w_X4_bodyWithBehind N u (nI a) P := fun P g1 g0 => by
    unfold w_X4_bodyWithBehind
    refine tt_bodyOf hu am (by omega) ?_
    refine tt_behind hu am (by omega) ?_
    rw [show W a / 4 = M by omega]
    by_cases lt : a + 1 + M < m
    · refine tt_isFree hu lt (by have := bn lt; omega) ?_
      rcases Nat.mod_two_eq_zero_or_one (W (a + 1 + M)) with q | q
      · rw [q]
        refine ⟨fun _ => g0 (fun z => ?_), fun z => absurd rfl z⟩
        have := z.2; rw [hNa] at this; omega
      · rw [q]
        refine ⟨fun z => absurd z (by decide), fun _ => tt_bodyOf hu lt (by have := bn lt; omega) ?_⟩
        rw [nI_1, nI_add]
        exact g1 ⟨by rw [hNa]; exact lt, by rw [hNa]; exact q⟩
    · refine tt_isFree0 hu (by omega) (by omega) ⟨fun _ => g0 (fun z => lt (by have := z.1; rw [hNa] at this; exact this)), fun z => absurd rfl z⟩
  refine l_bodyFor N _ (by omega) ?_
  rw [hbd]
  -- the words are moved
  have mvd : ∀ (y0 : Nat), M ≤ y0 → y0 < b → y0 < 2 ^ 31 → (∀ (R : MS → Int32 → Prop), w_X5_moved N v (nI (a + 1)) (nI M) (nI b) (fun v1 r => R v1 r) → w_X5_resize N v (nI (a + 1)) (nI n) R) → (w_X2_headerFor N u (nI b) fun u13 r12 => ((r12 = (-1 : Int32) → (w_X4_refuse N u13 fun u26 r25 => w_X5_resize N v (nI (a + 1)) (nI n) (SmR u (nI n) u26 r25))) ∧ (¬ r12 = (-1 : Int32) → (w_X2_forgetMoves N u13 fun u16 => (w_X4_take N u16 r12 fun u18 => (w_X4_cutTo N u18 r12 (nI b) fun u20 => (w_X4_copyBody N u20 (nI a) r12 fun u22 => (w_X4_release N u22 (nI a) fun u24 r23 => w_X5_resize N v (nI (a + 1)) (nI n) (SmR u (nI n) u24 (r12 + (1 : Int32))))))))))) := fun y0 y1 y2 y3 go => by
    refine tt_headerFor hN hu hF31 (by omega) ?_
    by_cases e : fd F (wsh b) = 0
    · rw [if_pos e]
      refine ⟨fun _ => ?_, fun z => absurd rfl z⟩
      unfold w_X4_refuse zlet
      refine go _ ?_
      unfold w_X5_moved
      refine mm_lookFor hN hv hF31 (by omega) ?_
      rw [e]
      refine ⟨fun _ => ⟨fun _ => rfl, ?_⟩, fun z => absurd rfl z⟩
      exact Inv.mk (hu.rf (y := sc.2.1 + 1) (by rw [hu.2.2.2.1])) (hv.rf (y := sc.2.1 + 1) (by rw [hv.2.2.2.1])) ⟨S, hw⟩ s
    · rw [if_neg e]
      obtain ⟨t, t1, t2, t3, t4⟩ := hw.found e
      have tm := hw.1.2.2.2.2 t t2
      have tl := (hw.2.1 t t2).lt m2
      have en := wsh_enough (n := b) (b := W t / 4) (by omega) (by omega) t4
      have at' : a ≠ t := fun z => by subst z; omega
      rw [t1, Nat.add_sub_cancel]
      refine ⟨fun z => absurd z (nI_m1 (by omega)), fun _ => ?_⟩
      refine tt_forget hu (fun u1 r1 => ?_)
      refine tt_take r1 hw t2 t3 (fun u2 r2 => ?_)
      have hH := hw.leave t2 t3
      have hok := hw.okv t2 t3
      have hlt := lvW_a hok
      have hla : lvW W t a = W a := lv_hd hw.2.2.2 ⟨t2, t3⟩ (fun x hx => by
        rcases Nat.lt_trichotomy x a with z | z | z
        · have := (hw.apart hx.1 sa z).2; omega
        · subst z; omega
        · omega)
      generalize hMt : W t / 4 = Mt at *
      generalize hW1 : lvW W t = W1 at *
      generalize hF1 : lvF W F t = F1 at *
      obtain ⟨S', k1, k2, k3, k4, k5⟩ := hH.tkWF2 hb3.1 en.1
      have k3a := k3 a sa at'
      rw [hla] at k3a
      refine tt_cutTk r2 hH hb3.1 en.1 (fun u3 r3 => ?_)
      generalize hW3 : tkW W1 m F1 t Mt b 0 = W3 at *
      generalize hF3 : tkF F1 t Mt b = F3 at *
      have sa' := k2 a sa
      have st' := k2 t t2
      have ba := k1.2.1 a sa'
      have bt := k1.2.1 t st'
      have ba2 := ba.2.1
      have bt2 := bt.2.1
      unfold Nx at ba2 bt2
      have eM : W3 a / 4 = M := by omega
      refine tt_copyBody hN r3 eM (ba.lt m2) (by omega) (by omega) (fun u4 r4 => ?_)
      obtain ⟨c1, c2⟩ := k1.copy (a := a) st' k4 M (by omega)
      have c2a := c2 a sa'
      have c2b : ∀ z, S' z → cpW W3 a t M z = W3 z := c2
      have ref2 : ∀ (R : MS → Int32 → Prop), (∀ v1 : MS, Rc v1.1 (cpW W3 a t M) m F3 (tkC (0 + 1, sc.2) Mt b) → w_X5_release N v1 (nI (a + 1)) fun u13 _ => R u13 (nI (t + 1))) → w_X5_resize N v (nI (a + 1)) (nI n) R := fun R g => by
        refine go R ?_
        unfold w_X5_moved
        refine mm_lookFor hN hv hF31 (by omega) ?_
        rw [t1]
        refine ⟨fun z => absurd ((nm_ie (by omega)).mp z) (by omega), fun _ => ?_⟩
        unfold zlet
        refine mm_leave (by omega) (hv.mv 0) hok (fun v1 q1 => ?_)
        rw [hW1, hF1] at q1
        refine mm_words q1 (by omega) (by rw [hlt]; omega) ?_
        rw [hlt, hMt]
        refine mm_take (p := 0) hN q1 hH hb3.1 en.1 (fun v3 q3 => ?_)
        rw [hW3, hF3] at q3
        exact mm_copy_L (by omega) (by omega) m2 g M 0 N v3 (by omega) (by omega) q3
      generalize hW4 : cpW W3 a t M = W4 at *
      have am' := am
      have wl : W4 a < 8192 := by rw [c2a]; exact ba.lt m2
      have hA := rel_A c1 sa' (show W4 a % 2 = 0 by rw [c2a, k3a.2]; exact ua)
      have hn4 : Nx W4 a ≤ m := (c1.2.1 a sa').2.1
      have hbn : Nx W4 a < m → W4 (Nx W4 a) < 8192 := fun z => (c1.2.1 _ ((c1.2.1 a sa').2.2.2.1 z)).lt m2
      have hsp : ∀ q, (rbC (tkC (0 + 1, sc.2) Mt b) q).2.2.1 = 0 := fun q => by
        rw [rbC_sp]; unfold tkC; split <;> exact s
      have hsp2 : ∀ q, (rbC ((tkC (0 + 1, sc.2) Mt b).1 + 1, (tkC (0 + 1, sc.2) Mt b).2) q).2.2.1 = 0 := fun q => by
        rw [rbC_sp]; unfold tkC; split <;> exact s
      refine tt_release r4 am wl hn4 hA hbn (fun nr u5 r5 => ?_) (fun yr u5 r5 => ?_)
      · refine ref2 _ (fun v1 w1 => mm_release hN w1 am wl hn4 hA hbn (fun _ v2 q2 => ⟨fun _ => nI_1 t, Inv.mk r5 q2 ?_ (hsp _)⟩) (fun yr => absurd yr nr))
        rcases hA with ⟨_, hh⟩ | ⟨yr, _⟩
        · exact hh.rbWF
        · exact absurd yr nr
      · refine ref2 _ (fun v1 w1 => mm_release hN w1 am wl hn4 hA hbn (fun nr => absurd yr nr) (fun _ v2 q2 => ⟨fun _ => nI_1 t, Inv.mk r5 q2 ?_ (hsp2 _)⟩))
        rcases hA with ⟨nr, _⟩ | ⟨_, _, _, hh⟩
        · exact absurd yr nr
        · exact hh.rbWF
  -- both, once the words are enough
  refine cls1 _ (fun yr => ?_) (fun nr => ?_)
  · have yl : a + 1 + M < m := by rw [← hNa]; exact yr.1
    have yf : W (a + 1 + M) % 2 = 1 := by rw [← hNa]; exact yr.2
    have bl2 := bn yl
    obtain ⟨ok, ea, hH⟩ := hw.joinNext sa ua yr.1 yr.2
    rw [hNa] at ok ea hH
    rw [show W a / 4 = M by omega, show W a / 2 % 2 = p by omega] at hH
    have top := hH.2.1.2.1
    refine b_lt (by omega) (by omega) (fun lt => ?_) (fun ge => ?_)
    · refine mvd (M + 1 + W (a + 1 + M) / 4) (by omega) lt (by omega) (fun R g => ref R (fun _ => ?_) (fun z => absurd yr z))
      unfold w_X5_resize_108
      exact b_lt (by omega) (by omega) (fun _ => g) (fun z => by omega)
    · refine tt_forget hu (fun u1 r1 => ?_)
      refine tt_bodyOf r1 am (by omega) ?_
      rw [show W a / 4 = M by omega]
      -- the reference cuts the joined block
      have ref3 : ∀ (u3 : TS), (M < b ∨ b + 4 ≤ M) → Rc u3.1 (tkW (lvW W (a + 1 + M)) m (lvF W F (a + 1 + M)) a (M + 1 + W (a + 1 + M) / 4) b p) m (tkF (lvF W F (a + 1 + M)) a (M + 1 + W (a + 1 + M) / 4) b) (tkC (0 + 1, sc.2) (M + 1 + W (a + 1 + M) / 4) b) → w_X5_resize N v (nI (a + 1)) (nI n) (SmR u (nI n) u3 (nI (a + 1))) := fun u3 c r3 => by
        refine ref _ (fun _ => ?_) (fun z => absurd yr z)
        have fin : w_X5_resize_146 N (SmR u (nI n) u3 (nI (a + 1))) (sMv v.1 0, v.2) (nI (a + 1)) (nI b) (lN (2 * p)) (nI (a + 1 + M + 1)) 1 (nI (M + 1 + W (a + 1 + M) / 4)) := by
          unfold w_X5_resize_146
          refine ⟨fun z => absurd z (by decide), fun _ => mm_leave (by omega) (hv.mv 0) ok (fun v1 q1 => ?_)⟩
          unfold w_X5_resize_157
          refine mm_take hN q1 hH hb3.1 ge (fun v3 q3 => ⟨fun _ => rfl, Inv.mk r3 q3 (hH.tkWF hb3.1) ?_⟩)
          unfold tkC; split <;> exact s
        unfold w_X5_resize_108 zlet
        refine b_lt (by omega) (by omega) (fun z => by omega) (fun _ => b_lt (by omega) (by omega) (fun _ => fin) (fun z => ?_))
        rw [pk_sub z]
        exact b_lt (b := 4) (by omega) (by decide) (fun z => by omega) (fun _ => fin)
      refine b_lt (by omega) (by omega) (fun lt => ?_) (fun ge2 => ?_)
      · refine tt_joinBehind r1 hw sa hWa hp yr (fun u2 r2 => ?_)
        exact tt_cutTk r2 hH hb3.1 ge (fun u3 r3 => ref3 u3 (Or.inl lt) r3)
      · refine tt_cutTo2 r1 hw sa hWa hp hb3.1 ge2 (fun lt => ?_) (fun _ nr => absurd yr nr) (fun ge4 _ u3 r3 => ref3 u3 (Or.inr ge4) r3)
        refine ref _ (fun _ => ?_) (fun z => absurd yr z)
        unfold w_X5_resize_108 zlet
        refine b_lt (by omega) (by omega) (fun z => by omega) (fun _ => b_lt (by omega) (by omega) (fun z => by omega) (fun z => ?_))
        rw [pk_sub z]
        exact b_lt (b := 4) (by omega) (by decide) (fun _ => ⟨fun _ => rfl, Inv.mk r1 (hv.mv 0) ⟨S, hw⟩ s⟩) (fun z => by omega)
  · have hH := hw.hole sa ua (fun z => by
      rcases Nat.mod_two_eq_zero_or_one (W (Nx W a)) with q | q
      · exact q
      · exact absurd ⟨z, q⟩ nr)
    rw [show W a / 4 = M by omega, show W a / 2 % 2 = p by omega] at hH
    refine b_lt (by omega) (by omega) (fun lt => ?_) (fun ge => ?_)
    · refine mvd M (by omega) lt (by omega) (fun R g => ref R (fun z => absurd z nr) (fun _ x7 => ?_))
      unfold w_X5_resize_108
      exact b_lt (by omega) (by omega) (fun _ => g) (fun z => by omega)
    · refine tt_forget hu (fun u1 r1 => ?_)
      refine tt_bodyOf r1 am (by omega) ?_
      rw [show W a / 4 = M by omega]
      refine b_lt (by omega) (by omega) (fun z => by omega) (fun _ => ?_)
      refine tt_cutTo2 r1 hw sa hWa hp hb3.1 ge (fun lt => ?_) (fun ge4 _ u3 r3 => ?_) (fun _ yr => absurd yr nr)
      · refine ref _ (fun z => absurd z nr) (fun _ x7 => ?_)
        unfold w_X5_resize_108 zlet
        refine b_lt (by omega) (by omega) (fun z => by omega) (fun _ => b_lt (by omega) (by omega) (fun z => by omega) (fun z => ?_))
        rw [pk_sub z]
        exact b_lt (b := 4) (by omega) (by decide) (fun _ => ⟨fun _ => rfl, Inv.mk r1 (hv.mv 0) ⟨S, hw⟩ s⟩) (fun z => by omega)
      · refine ref _ (fun z => absurd z nr) (fun _ x7 => ?_)
        unfold w_X5_resize_108 zlet
        refine b_lt (by omega) (by omega) (fun z => by omega) (fun _ => b_lt (by omega) (by omega) (fun z => by omega) (fun z => ?_))
        rw [pk_sub z]
        refine b_lt (b := 4) (by omega) (by decide) (fun z => by omega) (fun _ => ?_)
        unfold w_X5_resize_146 w_X5_resize_157
        refine ⟨fun _ => mm_take hN (hv.mv 0) hH hb3.1 ge (fun v3 q3 => ⟨fun _ => rfl, Inv.mk r3 q3 (hH.tkWF hb3.1) ?_⟩), fun z => absurd rfl z⟩
        unfold tkC; split <;> exact s
