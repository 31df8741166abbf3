theorem rbC_sp (sc : SC) (p : Nat) : (rbC sc p).2.2.1 = sc.2.2.1 := by unfold rbC; split <;> rfl
theorem rel_free {N : Nat} {u : TS} {v : MS} (hN : 3000 ≤ N) (hI : Inv u v) (x : Int32) : w_X4_free N u x (fun u1 r1 => w_X5_free N v x (Sm u1 r1)) := by
  obtain ⟨W, m, F, sc, hu, hv, hm, hF, hs, hW⟩ := id hI
  have sv : v.1.2.2.2.2.2.1 = sc.2.2.1 := by rw [hv.2.2.2.1]
  unfold w_X4_free
  refine rel_place hN hu hv hm hW x (fun hb => ?_) (fun s hb => ?_) (fun S a s hw sa ua hx hb => ?_)
  · refine ⟨fun z => absurd z (by decide), fun _ => ?_⟩
    unfold w_X5_free
    exact hb _ ⟨fun z => absurd z (by decide), fun _ => ⟨rfl, hI⟩⟩
  · refine ⟨fun z => absurd z (by decide), fun _ => ?_⟩
    unfold w_X5_free
    refine hb _ ⟨fun _ => ?_, fun z => absurd rfl z⟩
    rw [sv]; exact ⟨fun z => absurd z s, fun _ => ⟨rfl, hI⟩⟩
  · refine ⟨fun _ => ?_, fun z => absurd rfl z⟩
    have am := hw.1.2.2.2.2 a sa
    have m2 := hw.1.2.1
    have b := hw.2.1 a sa
    have bn : Nx W a < m → W (Nx W a) < 8192 := fun z => (hw.2.1 _ (b.2.2.2.1 z)).lt m2
    have hA := rel_A hw sa ua
    rw [hx] at hb ⊢
    rw [show nI (a + 1) - (1 : Int32) = nI a from nI_pred a]
    refine tt_forget hu (fun u1 r1 => ?_)
    refine tt_release r1 am (b.lt m2) b.2.1 hA bn (fun nr u2 r2 => ?_) (fun yr u2 r2 => ?_)
    · unfold w_X5_free
      refine hb _ ⟨fun _ => ?_, fun z => absurd rfl z⟩
      rw [sv]
      refine ⟨fun _ => ?_, fun z => absurd s z⟩
      unfold zlet
      refine mm_release hN (hv.mv 0) am (b.lt m2) b.2.1 hA bn (fun _ v2 q2 => ⟨rfl, Inv.mk r2 q2 ?_ (by rw [rbC_sp]; exact s)⟩) (fun yr => absurd yr nr)
      rcases hA with ⟨_, hh⟩ | ⟨yr, _⟩
      · exact hh.rbWF
      · exact absurd yr nr
    · unfold w_X5_free
      refine hb _ ⟨fun _ => ?_, fun z => absurd rfl z⟩
      rw [sv]
      refine ⟨fun _ => ?_, fun z => absurd s z⟩
      unfold zlet
      refine mm_release hN (hv.mv 0) am (b.lt m2) b.2.1 hA bn (fun nr => absurd yr nr) (fun _ v2 q2 => ⟨rfl, Inv.mk r2 q2 ?_ (by rw [rbC_sp]; exact s)⟩)
      rcases hA with ⟨nr, _⟩ | ⟨_, _, _, hh⟩
      · exact absurd yr nr
      · exact hh.rbWF
theorem rel_size {N : Nat} {u : TS} {v : MS} (hN : 3000 ≤ N) (hI : Inv u v) (x : Int32) : w_X4_size N u x (fun u1 r1 => w_X5_size N v x (Sm u1 r1)) := by
  obtain ⟨W, m, F, sc, hu, hv, hm, hF, hs, hW⟩ := id hI
  have sv : v.1.2.2.2.2.2.1 = sc.2.2.1 := by rw [hv.2.2.2.1]
  unfold w_X4_size
  refine rel_place hN hu hv hm hW x (fun hb => ?_) (fun s hb => ?_) (fun S a s hw sa ua hx hb => ?_)
  · refine ⟨fun z => absurd z (by decide), fun _ => ?_⟩
    unfold w_X5_size
    exact hb _ ⟨fun z => absurd z (by decide), fun _ => ⟨rfl, hI⟩⟩
  · refine ⟨fun z => absurd z (by decide), fun _ => ?_⟩
    unfold w_X5_size
    refine hb _ ⟨fun _ => ?_, fun z => absurd rfl z⟩
    rw [sv]; exact ⟨fun z => absurd z s, fun _ => ⟨rfl, hI⟩⟩
  · refine ⟨fun _ => ?_, fun z => absurd rfl z⟩
    have am := hw.1.2.2.2.2 a sa
    have m2 := hw.1.2.1
    have bl := (hw.2.1 a sa).lt m2
    rw [hx] at hb ⊢
    rw [show nI (a + 1) - (1 : Int32) = nI a from nI_pred a]
    refine tt_bodyOf hu am (by omega) ?_
    unfold w_X5_size
    refine hb _ ⟨fun _ => ?_, fun z => absurd rfl z⟩
    rw [sv]
    exact ⟨fun _ => mm_words hv (by omega) (by omega) ⟨rfl, hI⟩, fun z => absurd s z⟩
/-- a word of a used block may hold anything -/
theorem WF.write {W : Nat → Nat} {m : Nat} {F : Nat → Nat} {S : Nat → Prop} (h : WF W m F S) {a k y : Nat} (sa : S a) (ua : W a % 2 = 0) (k1 : 1 ≤ k) (k2 : k ≤ W a / 4) : WF (un W (a + k) y) m F S := by
  obtain ⟨⟨g1, g2, g3, g4, g5⟩, hb, hfl, hl⟩ := id h
  have out : ∀ x, S x → ∀ j, j ≤ W x / 4 → (j = 0 ∨ W x % 2 = 1) → un W (a + k) y (x + j) = W (x + j) := fun x hx j hj hc => un_n (fun e => by
    rcases Nat.lt_trichotomy x a with z | z | z
    · have := (h.apart hx sa z).1; unfold Nx at this; omega
    · subst z; omega
    · have := (h.apart sa hx z).1; unfold Nx at this; omega)
  have hd : ∀ x, S x → un W (a + k) y x = W x := fun x hx => out x hx 0 (by omega) (Or.inl rfl)
  have nx : ∀ x, S x → Nx (un W (a + k) y) x = Nx W x := fun x hx => by unfold Nx; rw [hd x hx]
  refine ⟨⟨g1, g2, g3, by rw [hd 0 g3]; exact g4, g5⟩, fun x hx => (hb x hx).congr (hd x hx) (fun z => out x hx _ (Nat.le_refl _) (Or.inr z)) (fun _ _ _ z => z) (hb x hx).2.2.2.1, fun x hx => ?_, ?_⟩
  · rw [nx x hx, hd x hx]
    exact fun z => by rw [hd _ ((hb x hx).2.2.2.1 z)]; exact hfl x hx z
  · refine hl.congr (fun x hx => ⟨out x hx.1 1 (by have := (hb x hx.1).1; omega) (Or.inr hx.2), out x hx.1 2 (by have := (hb x hx.1).1; omega) (Or.inr hx.2)⟩) (fun _ _ => rfl) (fun x => ?_) (fun x hx => by rw [hd x hx.1])
    constructor
    · rintro ⟨z1, z2⟩; rw [hd x z1] at z2; exact ⟨z1, z2⟩
    · rintro ⟨z1, z2⟩; exact ⟨z1, by rw [hd x z1]; exact z2⟩
theorem rel_put {N : Nat} {u : TS} {v : MS} (hN : 3000 ≤ N) (hI : Inv u v) (x i : Int32) (w : Int64) : w_X4_put N u x i w (fun u1 r1 => w_X5_put N v x i w (Sm u1 r1)) := by
  obtain ⟨W, m, F, sc, hu, hv, hm, hF, hs, hW⟩ := id hI
  have sv : v.1.2.2.2.2.2.1 = sc.2.2.1 := by rw [hv.2.2.2.1]
  unfold w_X4_put
  refine rel_place hN hu hv hm hW x (fun hb => ?_) (fun s hb => ?_) (fun S a s hw sa ua hx hb => ?_)
  · refine ⟨fun z => absurd z (by decide), fun _ => ?_⟩
    unfold w_X5_put
    exact hb _ ⟨fun z => absurd z (by decide), fun _ => ⟨rfl, hI⟩⟩
  · refine ⟨fun z => absurd z (by decide), fun _ => ?_⟩
    unfold w_X5_put
    refine hb _ ⟨fun _ => ?_, fun z => absurd rfl z⟩
    rw [sv]; exact ⟨fun z => absurd z s, fun _ => ⟨rfl, hI⟩⟩
  · refine ⟨fun _ => ?_, fun z => absurd rfl z⟩
    have am := hw.1.2.2.2.2 a sa
    have m2 := hw.1.2.1
    have b := hw.2.1 a sa
    have bl := b.lt m2
    have b1 := b.1
    have b2 := b.2.1
    unfold Nx at b2
    rw [hx] at hb ⊢
    have ref : ∀ (u1 : TS) (r : Int32), (w_X5_in N i.toInt64 (lN 0) (lN (W a / 4 - 1)) fun r7 => ((r7 = 0 → (Sm u1 r v (-2 : Int32))) ∧ (¬ r7 = 0 → (vp_in (nI (a + 1) + i) 2048 ∧ zlet (sW v.1 (vp_updL v.1.1 ((nI (a + 1) + i)).toNatClampNeg w), v.2) fun u11 => (Sm u1 r u11 (1 : Int32)))))) → w_X5_put N v (nI (a + 1)) i w (Sm u1 r) := fun u1 r g => by
      unfold w_X5_put
      refine hb _ ⟨fun _ => ?_, fun z => absurd rfl z⟩
      rw [sv]
      refine ⟨fun _ => mm_words hv (by omega) (by omega) ?_, fun z => absurd s z⟩
      rw [show nI (W a / 4) - (1 : Int32) = nI (W a / 4 - 1) from pk_sub (b := 1) (by omega), nI_l (by omega : W a / 4 - 1 < 2 ^ 31)]
      exact g
    rcases rng i (lo := 0) (hi := W a / 4 - 1) (by decide) (by omega) with h | h | ⟨j, h1, h2, h3⟩
    · refine ⟨fun _ => ref _ _ (mm_in_lt (by decide) h ⟨fun _ => ⟨rfl, hI⟩, fun z => absurd rfl z⟩), fun z => absurd h z⟩
    · have n0 : ¬ i < 0 := fun z => by
        rw [Int32.lt_iff_toInt_lt] at z h
        rw [nI_toInt (by omega)] at h
        have : (0 : Int32).toInt = 0 := rfl
        omega
      refine ⟨fun z => absurd z n0, fun _ => ?_⟩
      rw [show nI (a + 1) - (1 : Int32) = nI a from nI_pred a]
      refine tt_bodyOf hu am (by omega) ⟨fun z => ?_, fun _ => ref _ _ (mm_in_gt (by omega) h ⟨fun _ => ⟨rfl, hI⟩, fun z => absurd rfl z⟩)⟩
      exfalso
      rw [Int32.lt_iff_toInt_lt, nI_toInt (by omega)] at z h
      omega
    · subst h3
      refine ⟨fun z => absurd z (nI_pos (by omega)), fun _ => ?_⟩
      rw [show nI (a + 1) - (1 : Int32) = nI a from nI_pred a]
      refine tt_bodyOf hu am (by omega) (b_lt (by omega) (by omega) (fun _ => ?_) (fun z => by omega))
      obtain ⟨y, y1, y2⟩ := wb_of w
      rw [nI_add]
      refine tt_lay hu (by omega) y2 (fun u1 r1 => ?_)
      refine ref _ _ (mm_in_ok h1 h2 (by omega) ⟨fun z => absurd z (by decide), fun _ => ?_⟩)
      rw [nI_add, nI_clamp (by omega : a + 1 + j < 2 ^ 31), y2]
      refine ⟨vp_in_nI (by omega) (by decide), rfl, Inv.mk r1 (hv.put _ _) ⟨S, ?_⟩ s⟩
      have := hw.write (y := y) sa ua (show 1 ≤ 1 + j by omega) (by omega)
      rw [show a + (1 + j) = a + 1 + j by omega] at this
      exact this
theorem rel_word {N : Nat} {u : TS} {v : MS} (hI : Inv u v) (x : Int32) : w_X4_word N u x (fun u1 r1 => w_X5_word N v x (Sm u1 r1)) := by
  obtain ⟨W, m, F, sc, hu, hv, hm, hF, hs, hW⟩ := id hI
  have m2 := hu.2.2.2.2
  have em : (v.1.2.1 - (1 : Int32)).toInt64 = lN (m - 1) := by rw [hv.2.1, show nI m - (1 : Int32) = nI (m - 1) from pk_sub (b := 1) (by omega)]; exact nI_l (by omega)
  unfold w_X4_word w_X3_at
  rw [hu.2.1]
  rcases rng x (lo := 0) (hi := m - 1) (by decide) (by omega) with h | h | ⟨j, h1, h2, h3⟩
  · have g : w_X5_word N v x (Sm u 0) := by
      unfold w_X5_word
      rw [em]
      exact mm_in_lt (lo := 0) (by decide) h ⟨fun _ => ⟨rfl, hI⟩, fun z => absurd rfl z⟩
    exact ⟨fun _ => g, fun z => absurd h z⟩
  · have g : w_X5_word N v x (Sm u 0) := by
      unfold w_X5_word
      rw [em]
      exact mm_in_gt (lo := 0) (by omega) h ⟨fun _ => ⟨rfl, hI⟩, fun z => absurd rfl z⟩
    refine ⟨fun _ => g, fun _ => ⟨fun z => ?_, fun _ => g⟩⟩
    exfalso
    rw [Int32.lt_iff_toInt_lt, nI_toInt (by omega)] at z h
    omega
  · subst h3
    refine ⟨fun z => absurd z (nI_pos (by omega)), fun _ => b_lt (by omega) (by omega) (fun _ => ⟨vp_in_nI (by omega) (by decide), ?_⟩) (fun z => by omega)⟩
    unfold w_X5_word
    rw [em]
    refine mm_in_ok (lo := 0) h1 h2 (by omega) ⟨fun z => absurd z (by decide), fun _ => ⟨vp_in_nI (by omega) (by decide), ?_, hI⟩⟩
    rw [nI_clamp (by omega), hu.1 j (by omega), hv.1 j (by omega)]
theorem rel_spoil {N : Nat} {u : TS} {v : MS} (hI : Inv u v) (x : Int32) (w : Int64) : w_X4_spoil N u x w (fun u1 r1 => w_X5_spoil N v x w (Sm u1 r1)) := by
  obtain ⟨W, m, F, sc, hu, hv, hm, hF, hs, hW⟩ := id hI
  have m2 := hu.2.2.2.2
  have em : (v.1.2.1 - (1 : Int32)).toInt64 = lN (m - 1) := by rw [hv.2.1, show nI m - (1 : Int32) = nI (m - 1) from pk_sub (b := 1) (by omega)]; exact nI_l (by omega)
  unfold w_X4_spoil
  rcases rng x (lo := 0) (hi := m - 1) (by decide) (by omega) with h | h | ⟨j, h1, h2, h3⟩
  · have g : w_X5_spoil N v x w (Sm u (-2)) := by
      unfold w_X5_spoil
      rw [em]
      exact mm_in_lt (lo := 0) (by decide) h ⟨fun _ => ⟨rfl, hI⟩, fun z => absurd rfl z⟩
    unfold w_X3_has
    exact ⟨fun _ => ⟨fun _ => g, fun z => absurd rfl z⟩, fun z => absurd h z⟩
  · have g : w_X5_spoil N v x w (Sm u (-2)) := by
      unfold w_X5_spoil
      rw [em]
      exact mm_in_gt (lo := 0) (by omega) h ⟨fun _ => ⟨rfl, hI⟩, fun z => absurd rfl z⟩
    unfold w_X3_has
    rw [hu.2.1]
    refine ⟨fun _ => ⟨fun _ => g, fun z => absurd rfl z⟩, fun _ => ⟨fun z => ?_, fun _ => ⟨fun _ => g, fun z => absurd rfl z⟩⟩⟩
    exfalso
    rw [Int32.lt_iff_toInt_lt, nI_toInt (by omega)] at z h
    omega
  · subst h3
    refine tt_has hu (by omega) ?_
    rw [if_pos (by omega)]
    refine ⟨fun z => absurd z (by decide), fun _ => ?_⟩
    obtain ⟨y, y1, y2⟩ := wb_of w
    refine tt_lay hu (by omega) y2 (fun u1 r1 => ?_)
    unfold zlet w_X5_spoil zlet
    rw [em]
    refine mm_in_ok (lo := 0) h1 h2 (by omega) ⟨fun z => absurd z (by decide), fun _ => ⟨vp_in_nI (by omega) (by decide), rfl, ?_⟩⟩
    rw [nI_clamp (by omega), y2]
    exact ⟨_, m, F, _, r1.sp 1, (hv.put j y).sp 1, hm, hF, Or.inr rfl, fun z => absurd z (by show ¬ (1 : Int32) = 0; decide)⟩
theorem rel_where {N : Nat} {u : TS} {v : MS} (hI : Inv u v) : w_X4_where N u (fun u1 r1 => w_X5_where N v (Sm u1 r1)) := by
  obtain ⟨W, m, F, sc, hu, hv, hm, hF, hs, hW⟩ := id hI
  unfold w_X4_where w_X5_where
  refine ⟨?_, hI⟩
  rw [hu.2.2.2.1, hv.2.2.2.1]
theorem rel_classOf {N : Nat} {u : TS} {v : MS} (hN : 3000 ≤ N) (hI : Inv u v) (x k : Int32) : w_X4_classOf N u x k (fun u1 r1 => w_X5_classOf N v x k (Sm u1 r1)) := by
  unfold w_X4_classOf
  rcases rng x (lo := 1) (hi := 4095) (by decide) (by decide) with h | h | ⟨n, h1, h2, h3⟩
  · have g : w_X5_classOf N v x k (Sm u (-2)) := by
      unfold w_X5_classOf
      exact mm_in_lt (lo := 1) (hi := 4095) (by decide) h ⟨fun _ => ⟨rfl, hI⟩, fun z => absurd rfl z⟩
    exact ⟨fun _ => g, fun z => absurd h z⟩
  · have g : w_X5_classOf N v x k (Sm u (-2)) := by
      unfold w_X5_classOf
      exact mm_in_gt (lo := 1) (hi := 4095) (by decide) h ⟨fun _ => ⟨rfl, hI⟩, fun z => absurd rfl z⟩
    exact ⟨fun _ => g, fun _ => ⟨fun _ => g, fun z => absurd h z⟩⟩
  · subst h3
    refine b_lt (b := 1) (by omega) (by decide) (fun z => by omega) (fun _ => b_lt (a := 4095) (by decide) (by omega) (fun z => by omega) (fun _ => ⟨fun e => ?_, fun e => ?_⟩))
    · refine l_ofBody N _ (by omega) ?_
      unfold w_X5_classOf
      exact mm_in_ok (lo := 1) (hi := 4095) h1 h2 (by decide) ⟨fun z => absurd z (by decide), fun _ => ⟨fun _ => l_classIn N _ (by omega) (by omega) ⟨rfl, hI⟩, fun z => absurd e z⟩⟩
    · refine l_ofWish N _ (by omega) ?_
      unfold w_X5_classOf
      exact mm_in_ok (lo := 1) (hi := 4095) h1 h2 (by decide) ⟨fun z => absurd z (by decide), fun _ => ⟨fun z => absurd z e, fun _ => l_wishIn N _ (by omega) (by omega) ⟨rfl, hI⟩⟩⟩
