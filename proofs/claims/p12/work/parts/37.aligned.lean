/-! ===== aligned ===== -/
def pw2 (a : Nat) : Prop := a = 2 ∨ a = 4 ∨ a = 8 ∨ a = 16 ∨ a = 32 ∨ a = 64
def ap (p a : Nat) : Nat := if p % a = 0 then p else (p + 4 + a - 1) / a * a
theorem ap_b {p a : Nat} (ha : 0 < a) : ap p a = p ∨ (p + 4 ≤ ap p a ∧ ap p a ≤ p + a + 3) := by
  unfold ap
  split
  · exact Or.inl rfl
  · have h1 := Nat.div_add_mod (p + 4 + a - 1) a
    have h2 := Nat.mod_lt (p + 4 + a - 1) ha
    rw [Nat.mul_comm] at h1
    exact Or.inr ⟨by omega, by omega⟩
def apC (a p : Nat) : Bool := decide ((nI p &&& (nI a - 1) = 0 ↔ p % a = 0) ∧ (¬ p % a = 0 → (nI p + 4 + (nI a - 1)) &&& ((nI a - 1) ^^^ (-1)) = nI ((p + 4 + a - 1) / a * a)))
theorem ap2 : (List.range 2100).all (apC 2) = true := by decide +kernel
theorem ap4 : (List.range 2100).all (apC 4) = true := by decide +kernel
theorem ap8 : (List.range 2100).all (apC 8) = true := by decide +kernel
theorem ap16 : (List.range 2100).all (apC 16) = true := by decide +kernel
theorem ap32 : (List.range 2100).all (apC 32) = true := by decide +kernel
theorem ap64 : (List.range 2100).all (apC 64) = true := by decide +kernel
theorem tt_alignedPlace {N p a : Nat} {P : Int32 → Prop} (ha : pw2 a) (hp : p < 2100) (H : P (nI (ap p a))) : w_X4_alignedPlace N (nI p) (nI a) P := by
  have k : apC a p = true := by
    rcases ha with e | e | e | e | e | e <;> subst e
    · exact nm_fin _ _ ap2 hp
    · exact nm_fin _ _ ap4 hp
    · exact nm_fin _ _ ap8 hp
    · exact nm_fin _ _ ap16 hp
    · exact nm_fin _ _ ap32 hp
    · exact nm_fin _ _ ap64 hp
  obtain ⟨k1, k2⟩ := of_decide_eq_true k
  unfold w_X4_alignedPlace
  unfold ap at H
  refine ⟨fun z => ?_, fun z => ?_⟩
  · rw [if_pos (k1.mp z)] at H; exact H
  · have nz : ¬ p % a = 0 := fun q => z (k1.mpr q)
    rw [if_neg nz] at H
    rw [k2 nz]; exact H
def isA (j : Nat) : Bool := decide ((nI j &&& (nI j - 1) = 0) ↔ (j = 2 ∨ j = 4 ∨ j = 8 ∨ j = 16 ∨ j = 32 ∨ j = 64 ∨ j ≤ 1))
theorem isA_ok : (List.range 65).all isA = true := by decide +kernel
theorem tt_isAlignment {N : Nat} {x : Int32} {P : Int32 → Prop} (H1 : ∀ a, pw2 a → x = nI a → P 1) (H0 : (∀ a, pw2 a → x ≠ nI a) → P 0) : w_X4_isAlignment N x P := by
  unfold w_X4_isAlignment
  have big : ∀ a, pw2 a → 2 ≤ a ∧ a ≤ 64 := fun a h => by unfold pw2 at h; omega
  refine ⟨fun h => H0 (fun a ha e => ?_), fun h0 => ⟨fun h => H0 (fun a ha e => ?_), fun h1 => ?_⟩⟩
  · subst e; have := (nI_ltI (b := 2) (by have := big a ha; omega) (by decide)).mp h; have := big a ha; omega
  · subst e; have := (nI_ltI (a := 64) (by decide) (by have := big a ha; omega)).mp h; have := big a ha; omega
  · rcases rng x (lo := 2) (hi := 64) (by decide) (by decide) with h | h | ⟨j, j1, j2, j3⟩
    · exact absurd h h0
    · exact absurd h h1
    · subst j3
      have k := of_decide_eq_true (nm_fin _ _ isA_ok (show j < 65 by omega))
      refine ⟨fun z => H1 j ?_ rfl, fun z => H0 (fun a ha e => z ?_)⟩
      · have := k.mp z; unfold pw2; omega
      · have : j = a := (nI_eq (by omega) (by have := big a ha; omega)).mp e
        subst this
        refine k.mpr ?_
        unfold pw2 at ha; omega
theorem mm_al39 {N : Nat} {v : MS} {n x : Int32} {P : MS → Int32 → Prop} (H1 : ∀ a, pw2 a → x = nI a → w_X5_aligned_39 N P v n x 1) (H0 : (∀ a, pw2 a → x ≠ nI a) → w_X5_aligned_39 N P v n x 0) : w_X5_aligned N v n x P := by
  unfold w_X5_aligned w_X5_aligned_34
  refine ⟨fun e => H1 2 (by unfold pw2; omega) e, fun e2 => ⟨fun e => H1 4 (by unfold pw2; omega) e, fun e4 => ⟨fun e => H1 8 (by unfold pw2; omega) e, fun e8 => ⟨fun e => H1 16 (by unfold pw2; omega) e, fun e16 => ⟨fun e => H1 32 (by unfold pw2; omega) e, fun e32 => ⟨fun e => H1 64 (by unfold pw2; omega) e, fun e64 => H0 (fun a ha e => ?_)⟩⟩⟩⟩⟩⟩
  rcases ha with z | z | z | z | z | z <;> subst z
  · exact e2 e
  · exact e4 e
  · exact e8 e
  · exact e16 e
  · exact e32 e
  · exact e64 e
theorem lnd_pt {W W' : Nat → Nat} {m : Nat} {F : Nat → Nat} {r n j : Nat} (h : j ≠ r → W j = W' j) : lndW W m F r n j = lndW W' m F r n j := by
  have l1 : lnd1 W F r n j = lnd1 W' F r n j := by
    rw [lnd1_e, lnd1_e]
    by_cases e : j = r
    · rw [if_pos e, if_pos e]
    · rw [h e]
  rw [lndW_e, lndW_e, lnd2_e, lnd2_e, l1]
/-- the class's take, seen from the reference's: as if the block had only left, but for its own header and the mark in the next -/
theorem us_out {W : Nat → Nat} {m a M p j : Nat} (h1 : j ≠ a) (h2 : j ≠ a + 1 + M) : usW W m a M p j = W j := by
  unfold usW
  split
  · rw [un_n h2, un_n h1]
  · rw [un_n h1]
theorem us_a {W : Nat → Nat} {m a M p : Nat} : usW W m a M p a = 4 * M + 2 * p := by
  unfold usW
  split
  · rw [un_n (by omega), un_s]
  · rw [un_s]
theorem us_b {W : Nat → Nat} {m a M p : Nat} (h : a + 1 + M < m) : usW W m a M p (a + 1 + M) = clr2 (W (a + 1 + M)) := by unfold usW; rw [if_pos h, un_s]
theorem us_b2 {W : Nat → Nat} {m a M p : Nat} (h : ¬ a + 1 + M < m) : usW W m a M p (a + 1 + M) = W (a + 1 + M) := by unfold usW; rw [if_neg h, un_n (by omega)]
theorem HI.usHole {W : Nat → Nat} {m : Nat} {F : Nat → Nat} {S : Nat → Prop} {a M p : Nat} (h : HI W m F S a M p) : HI (usW W m a M p) m F S a M p := by
  have g6 := h.1.2.2.2.2.2.1
  have hn : Nx (usW W m a M p) a = a + 1 + M := by unfold Nx; rw [us_a]; omega
  have k := h.used.hole h.2.1.2.2.1 (by rw [us_a]; omega) (fun z => by
    rw [hn] at z ⊢
    rw [us_b z, (clr2_f _).2.1]
    exact (h.2.1.2.2.2.2 z).2)
  rw [us_a, show (4 * M + 2 * p) / 4 = M by omega, show (4 * M + 2 * p) / 2 % 2 = p by omega] at k
  exact k
theorem rel_aligned {N : Nat} {u : TS} {v : MS} (hN : 3000 ≤ N) (hI : Inv u v) (x y : Int32) : w_X4_aligned N u x y (fun u1 r1 => w_X5_aligned N v x y (Sm u1 r1)) := by
  obtain ⟨W, m, F, sc, hu, hv, hm, hF, hs, hW⟩ := id hI
  have su : u.1.2.2.2.2.2.1 = sc.2.2.1 := by rw [hu.2.2.2.1]
  have sv : v.1.2.2.2.2.2.1 = sc.2.2.1 := by rw [hv.2.2.2.1]
  unfold w_X4_aligned
  have nowish : (x < nI 1 ∨ nI 2048 < x) → w_X5_aligned N v x y (Sm u (-2)) := fun h => by
    have g : ∀ y0, w_X5_aligned_39 N (Sm u (-2)) v x y y0 := fun y0 => by
      unfold w_X5_aligned_39
      rcases h with h | h
      · exact mm_in_lt (lo := 1) (hi := 2048) (by decide) h ⟨fun _ => ⟨rfl, hI⟩, fun z => absurd rfl z⟩
      · exact mm_in_gt (lo := 1) (hi := 2048) (by decide) h ⟨fun _ => ⟨rfl, hI⟩, fun z => absurd rfl z⟩
    exact mm_al39 (fun _ _ _ => g _) (fun _ => g _)
  rcases rng x (lo := 1) (hi := 2048) (by decide) (by decide) with h | h | ⟨n, h1, h2, h3⟩
  · exact tt_isWish_no (Or.inl h) ⟨fun _ => nowish (Or.inl h), fun z => absurd rfl z⟩
  · exact tt_isWish_no (Or.inr h) ⟨fun _ => nowish (Or.inr h), fun z => absurd rfl z⟩
  subst h3
  refine tt_isWish_ok h1 h2 ⟨fun z => absurd z (by decide), fun _ => ?_⟩
  refine tt_isAlignment (fun al hal hy => ⟨fun z => absurd z (by decide), fun _ => ?_⟩) (fun hno => ⟨fun _ => ?_, fun z => absurd rfl z⟩)
  · subst hy
    have alb : 2 ≤ al ∧ al ≤ 64 := by unfold pw2 at hal; omega
    have ref0 : ∀ (u1 : TS) (r : Int32), ((sc.2.2.1 = 0 → (w_X5_least N (nI n) fun r7 => (w_X5_lookFor N v ((r7 + nI al) + (3 : Int32)) fun u10 r9 => ((r9 = 0 → (zlet (sRf u10.1 ((u10.1.2.2.2.2.1) + (1 : Int32)), u10.2) fun u32 => (Sm u1 r u32 (-1 : Int32)))) ∧ (¬ r9 = 0 → (zlet (sMv u10.1 (0 : Int32), u10.2) fun u12 => (w_X5_leave N u12 r9 fun u14 => (w_X5_words N u14 r9 fun u16 r15 => (¬ nI al = 0 ∧ (((r9 - r9 / nI al * nI al) = 0 → (w_X5_aligned_144 N (Sm u1 r) u16 (nI n) r9 r15 r9)) ∧ (¬ (r9 - r9 / nI al * nI al) = 0 → (¬ nI al = 0 ∧ (w_X5_aligned_144 N (Sm u1 r) u16 (nI n) r9 r15 (((((r9 + (4 : Int32)) + nI al) - (1 : Int32)) / nI al) * nI al)))))))))))))) ∧ (¬ sc.2.2.1 = 0 → (Sm u1 r v (-3 : Int32)))) → w_X5_aligned N v (nI n) (nI al) (Sm u1 r) := fun u1 r g => by
      have k : w_X5_aligned_39 N (Sm u1 r) v (nI n) (nI al) 1 := by
        unfold w_X5_aligned_39
        refine mm_in_ok (lo := 1) (hi := 2048) h1 h2 (by decide) ⟨fun z => absurd z (by decide), fun _ => ⟨fun z => absurd z (by decide), fun _ => ?_⟩⟩
        rw [sv]; exact g
      exact mm_al39 (fun _ _ _ => k) (fun z => absurd rfl (z al hal))
    rw [su]
    refine ⟨fun s0 => ?_, fun s0 => ref0 _ _ ⟨fun z => absurd z s0, fun _ => ⟨rfl, hI⟩⟩⟩
    obtain ⟨S, hW⟩ := hW s0
    have hF31 : ∀ c, c < 72 → F c < 2 ^ 31 := fun c hc => by have := hF c hc; omega
    generalize hb : (if n < 3 then 3 else n) = b
    have hb3 : 3 ≤ b ∧ n ≤ b ∧ b ≤ 2048 := by rw [← hb]; split <;> omega
    refine l_bodyFor N _ (by omega) ?_
    rw [hb]
    unfold w_X4_mostAhead
    rw [show (4 : Int32) + nI al - 1 = nI (al + 3) by show nI 4 + nI al - nI 1 = _; rw [nI_add, pk_sub (by omega)]; congr 1; omega]
    dsimp only
    rw [nI_add]
    refine tt_headerFor hN hu hF31 (show b + (al + 3) < 2300 by omega) ?_
    have ref1 : ∀ (u1 : TS) (r : Int32), (w_X5_lookFor N v (nI (b + (al + 3))) fun u10 r9 => ((r9 = 0 → (zlet (sRf u10.1 ((u10.1.2.2.2.2.1) + (1 : Int32)), u10.2) fun u32 => (Sm u1 r u32 (-1 : Int32)))) ∧ (¬ r9 = 0 → (zlet (sMv u10.1 (0 : Int32), u10.2) fun u12 => (w_X5_leave N u12 r9 fun u14 => (w_X5_words N u14 r9 fun u16 r15 => (¬ nI al = 0 ∧ (((r9 - r9 / nI al * nI al) = 0 → (w_X5_aligned_144 N (Sm u1 r) u16 (nI n) r9 r15 r9)) ∧ (¬ (r9 - r9 / nI al * nI al) = 0 → (¬ nI al = 0 ∧ (w_X5_aligned_144 N (Sm u1 r) u16 (nI n) r9 r15 (((((r9 + (4 : Int32)) + nI al) - (1 : Int32)) / nI al) * nI al)))))))))))) → w_X5_aligned N v (nI n) (nI al) (Sm u1 r) := fun u1 r g => ref0 u1 r ⟨fun _ => mm_least (by omega) (by
        rw [hb, nI_add, show nI (b + al) + (3 : Int32) = nI (b + (al + 3)) by show _ + nI 3 = _; rw [nI_add]; congr 1]; exact g), fun z => absurd s0 z⟩
    by_cases e : fd F (wsh (b + (al + 3))) = 0
    · rw [if_pos e]
      refine ⟨fun _ => ?_, fun z => absurd rfl z⟩
      unfold w_X4_refuse zlet
      refine ref1 _ _ (mm_lookFor hN hv hF31 (by omega) ?_)
      rw [e]
      refine ⟨fun _ => ⟨rfl, ?_⟩, fun z => absurd rfl z⟩
      exact Inv.mk (hu.rf (y := sc.2.1 + 1) (by rw [hu.2.2.2.1])) (hv.rf (y := sc.2.1 + 1) (by rw [hv.2.2.2.1])) ⟨S, hW⟩ s0
    · rw [if_neg e]
      obtain ⟨h, a1, a2, a3, a4⟩ := hW.found e
      have am := hW.1.2.2.2.2 h a2
      have m2 := hW.1.2.1
      have hM8 := (hW.2.1 h a2).lt m2
      have en := wsh_enough (n := b + (al + 3)) (b := W h / 4) (by omega) (by omega) a4
      rw [a1, Nat.add_sub_cancel]
      refine ⟨fun z => absurd z (nI_m1 (by omega)), fun _ => ?_⟩
      refine tt_forget hu (fun u1 r1 => ?_)
      refine tt_take r1 hW a2 a3 (fun u2 r2 => ?_)
      have hH := hW.leave a2 a3
      have hok := hW.okv a2 a3
      have nxm : h + 1 + W h / 4 ≤ m := (hW.2.1 h a2).2.1
      have hla := lvW_a hok
      generalize hMe : W h / 4 = M at *
      generalize hW1 : lvW W h = W1 at *
      generalize hF1 : lvF W F h = F1 at *
      have hH2 := hH.usHole
      rw [nI_1]
      refine tt_alignedPlace hal (by omega) ?_
      have apb := ap_b (p := h + 1) (a := al) (by omega)
      -- the reference up to its cut
      have ref2 : ∀ (u3 : TS) (r : Int32), (∀ v1 : MS, Rc v1.1 W1 m F1 (0 + 1, sc.2) → w_X5_aligned_144 N (Sm u3 r) v1 (nI n) (nI (h + 1)) (nI M) (nI (ap (h + 1) al))) → w_X5_aligned N v (nI n) (nI al) (Sm u3 r) := fun u3 r g => by
        refine ref1 _ _ (mm_lookFor hN hv hF31 (by omega) ?_)
        rw [a1]
        refine ⟨fun z => absurd ((nm_ie (by omega)).mp z) (by omega), fun _ => ?_⟩
        unfold zlet
        refine mm_leave (by omega) (hv.mv 0) hok (fun v1 q1 => ?_)
        rw [hW1, hF1] at q1
        refine mm_words q1 (by omega) (by rw [hla]; omega) ?_
        rw [hla, hMe]
        refine ⟨fun z => absurd ((nm_ie (by omega)).mp z) (by omega), ?_⟩
        rw [pk_rem (by omega) (by omega) (by omega), show nI (h + 1) + (4 : Int32) = nI (h + 1 + 4) from nI_add _ 4, nI_add, show nI (h + 1 + 4 + al) - (1 : Int32) = nI (h + 1 + 4 + al - 1) from pk_sub (b := 1) (by omega), pk_div (by omega) (by omega) (by omega), pk_mul]
        have g1 := g v1 q1
        unfold ap at g1
        refine b_eq (b := 0) (by have := Nat.mod_lt (h + 1) (show 0 < al by omega); omega) (by decide) (fun z => ?_) (fun z => ⟨fun z => absurd ((nm_ie (by omega)).mp z) (by omega), ?_⟩)
        · rw [if_pos z] at g1; exact g1
        · rw [if_neg z] at g1; exact g1
      rcases apb with e0 | ⟨q1, q2⟩
      · -- no cut ahead
        have ref3 : ∀ (u3 : TS), (∀ v3 : MS, Rc v3.1 (tkW W1 m F1 h M b 0) m (tkF F1 h M b) (tkC (0 + 1, sc.2) M b) → Inv u3 v3) → w_X5_aligned N v (nI n) (nI al) (Sm u3 (nI (h + 1))) := fun u3 fin => ref2 _ _ (fun v1 w1 => by
          rw [e0]
          unfold w_X5_aligned_144
          refine ⟨fun _ => ?_, fun z => absurd rfl z⟩
          unfold w_X5_aligned_187
          refine mm_least (by omega) ?_
          rw [hb]
          refine ⟨fun _ => ?_, fun z => absurd rfl z⟩
          rw [pk_sub (Nat.le_refl _), Nat.sub_self, pk_sub (by omega), Nat.sub_zero]
          exact mm_take (p := 0) hN w1 hH hb3.1 (by omega) (fun v3 w3 => ⟨rfl, fin v3 w3⟩))
        rw [e0]
        refine ⟨fun _ => ?_, fun z => absurd rfl z⟩
        unfold w_X4_aligned_100
        rw [show nI (h + 1) - (1 : Int32) = nI h from nI_pred h]
        refine tt_cutTo r2 hH2 us_a hb3.1 (by omega) (fun lt => ?_) (fun ge u3 r3 => ?_)
        · refine ref3 _ (fun v3 q3 => ?_)
          have wf := hH.tkWF hb3.1
          unfold tkW tkF at wf
          unfold tkW tkF tkC at q3
          rw [if_pos lt, if_pos lt] at wf
          rw [if_pos lt, if_pos lt, if_pos lt] at q3
          exact Inv.mk r2 q3 wf s0
        · refine ref3 _ (fun v3 q3 => ?_)
          have wf := hH.tkWF hb3.1
          unfold tkW tkF at wf
          unfold tkW tkF tkC at q3
          rw [if_neg (by omega), if_neg (by omega)] at wf
          rw [if_neg (by omega), if_neg (by omega), if_neg (by omega)] at q3
          refine Inv.mk (r3.congr (fun j _ => ?_) (fun _ _ => rfl)) q3 wf s0
          have hbb : h + b + 1 + 1 + (M - b - 1) = h + 1 + M := by omega
          refine lnd_same (by omega) (fun j j1 j2 => ?_) (fun z => ?_) (fun z => ?_) j
          · rw [hbb] at j2
            by_cases ja : j = h
            · rw [ja, un_s, un_s]
            · rw [un_n ja, un_n ja]; exact us_out ja j2
          · rw [hbb] at z ⊢
            rw [un_n (by omega), un_n (by omega), us_b z]; exact set_clr _
          · rw [hbb] at z ⊢
            rw [un_n (by omega), un_n (by omega), us_b2 z]
      · -- the words ahead become a free block
        generalize hq : ap (h + 1) al = q at *
        obtain ⟨k, hk⟩ : ∃ k, q = h + 1 + (k + 1) := ⟨q - h - 2, by omega⟩
        subst hk
        have k3 : 3 ≤ k := by omega
        have kM : k + 4 ≤ M := by omega
        have X8 : 4 * (M - k - 1) + 0 < 8192 := by omega
        obtain ⟨okT, hT⟩ := hH2.split (X := 4 * (M - k - 1) + 0) k3 kM X8
        obtain ⟨okM, hMM⟩ := hH.split (X := 4 * (M - k - 1) + 0) k3 kM X8
        have fq : ∀ z : F1 (cls k) ≠ 0, F1 (cls k) + 1 ≠ h + 1 + k ∧ F1 (cls k) + 1 ≠ h + 1 + M := fun z => by
          obtain ⟨r, w1, w2, w3, w4, w5, w6, w7, w8⟩ := hH.first (cls_lt (by omega)) z
          refine ⟨by omega, fun e => ?_⟩
          have b1 := (hH.2.2.1 r w1 w2)
          have b2 := b1.1
          refine b1.2.2.1 (r + 2) (by omega) (by unfold Nx; omega) ?_
          rw [show r + 2 = h + 1 + M by omega]
          exact (hH.2.1.2.2.2.2 (by omega)).1
        generalize hW3 : lndW (un (usW W1 m h M 0) (h + 1 + k) (4 * (M - k - 1) + 0)) m F1 h k = W3 at *
        generalize hW4 : lndW (un W1 (h + 1 + k) (4 * (M - k - 1) + 0)) m F1 h k = W4 at *
        have eA : ∀ j, j ≠ h + 1 + M → W3 j = W4 j := fun j hj => by
          rw [← hW3, ← hW4]
          refine lnd_pt (fun jh => ?_)
          by_cases e : j = h + 1 + k
          · rw [e, un_s, un_s]
          · rw [un_n e, un_n e]; exact us_out jh hj
        have out : ∀ Wx : Nat → Nat, lndW (un Wx (h + 1 + k) (4 * (M - k - 1) + 0)) m F1 h k (h + 1 + M) = Wx (h + 1 + M) := fun Wx => by
          rw [lf_o (by omega) (by omega) (by omega) (by omega) (by omega) (fun z w => (fq z).2 w.symm), un_n (by omega)]
        have eB : h + 1 + M < m → W3 (h + 1 + M) = clr2 (W4 (h + 1 + M)) := fun z => by
          rw [← hW3, ← hW4, out, out, us_b z]
        have eC : ¬ h + 1 + M < m → W3 (h + 1 + M) = W4 (h + 1 + M) := fun z => by
          rw [← hW3, ← hW4, out, out, us_b2 z]
        have eh : W3 (h + 1 + k) = 4 * (M - k - 1) + 2 * 1 := by
          rw [← hW3, lf_b k3 (fun z => (fq z).1) (by omega), un_s]; unfold set2; omega
        have ref3 : ∀ (u3 : TS), (∀ v3 : MS, Rc v3.1 (tkW W4 m (un F1 (cls k) (h + 1)) (h + 1 + k) (M - k - 1) b 1) m (tkF (un F1 (cls k) (h + 1)) (h + 1 + k) (M - k - 1) b) (tkC (0 + 1 + 1, sc.2) (M - k - 1) b) → Inv u3 v3) → w_X5_aligned N v (nI n) (nI al) (Sm u3 (nI (h + 1 + (k + 1)))) := fun u3 fin => ref2 _ _ (fun v1 w1 => by
          unfold w_X5_aligned_144 zlet
          refine ⟨fun z => absurd ((nI_eq (by omega) (by omega)).mp z) (by omega), fun _ => ?_⟩
          rw [show nI (h + 1 + (k + 1)) - (1 : Int32) = nI (h + 1 + k) from nI_pred (h + 1 + k), nI_clamp (by omega : h + 1 + k < 2 ^ 31), pk_sub (by omega), show h + 1 + (k + 1) - (h + 1) = k + 1 by omega, pk_sub (by omega), show M - (k + 1) = M - k - 1 by omega, nI_l (by omega : M - k - 1 < 2 ^ 31), show (4 : Int64) * lN (M - k - 1) = lN (4 * (M - k - 1) + 0) by show lN 4 * _ = _; rw [lN_mul]; rfl, show nI (k + 1) - (1 : Int32) = nI k from nI_pred k]
          refine ⟨vp_in_nI (by omega) (by decide), ?_⟩
          have w2 := w1.put (h + 1 + k) (4 * (M - k - 1) + 0)
          refine mm_lend (by omega) w2 okM (fun v3 w3 => ?_)
          rw [hW4] at w3
          unfold w_X5_aligned_187
          refine mm_least (by omega) ?_
          rw [hb]
          refine ⟨fun z => absurd ((nI_eq (by omega) (by omega)).mp z) (by omega), fun _ => ?_⟩
          rw [pk_sub (by omega), show h + 1 + (k + 1) - (h + 1) = k + 1 by omega, pk_sub (by omega), show M - (k + 1) = M - k - 1 by omega]
          exact mm_take (a := h + 1 + k) (p := 1) hN w3 hMM hb3.1 (by omega) (fun v4 w4 => ⟨rfl, fin v4 w4⟩))
        refine ⟨fun z => absurd ((nI_eq (by omega) (by omega)).mp z) (by omega), fun _ => ?_⟩
        unfold w_X4_splitBefore
        have ua : usW W1 m h M 0 h / 4 = M := by rw [us_a]; omega
        refine tt_bodyOf r2 am (by rw [us_a]; omega) ?_
        rw [ua, show nI (h + 1 + (k + 1)) - (1 : Int32) = nI (h + 1 + k) from nI_pred (h + 1 + k), pk_sub (by omega), show h + 1 + k - h = k + 1 by omega, pk_sub (by omega), show M - (k + 1) = M - k - 1 by omega, show nI (k + 1) - (1 : Int32) = nI k from nI_pred k, show (0 : Int32) = nI 0 from rfl]
        refine tt_layHeader r2 (by omega) (by omega) (by decide) (fun u3 r3 => ?_)
        refine tt_makeFree r3 okT (fun u4 r4 => ?_)
        rw [hW3] at r4
        unfold w_X4_aligned_100
        rw [show nI (h + 1 + (k + 1)) - (1 : Int32) = nI (h + 1 + k) from nI_pred (h + 1 + k)]
        refine tt_cutTo r4 hT eh hb3.1 (by omega) (fun lt => ?_) (fun ge u5 r5 => ?_)
        · refine ref3 _ (fun v3 w3 => ?_)
          have wf := hMM.tkWF hb3.1
          unfold tkW tkF at wf
          unfold tkW tkF tkC at w3
          rw [if_pos lt, if_pos lt] at wf
          rw [if_pos lt, if_pos lt, if_pos lt] at w3
          refine Inv.mk (r4.congr (fun j _ => ?_) (fun _ _ => rfl)) w3 wf s0
          have hbb : h + 1 + k + 1 + (M - k - 1) = h + 1 + M := by omega
          by_cases j1 : j = h + 1 + k
          · rw [j1, us_a, eh]
          · by_cases j2 : j = h + 1 + M
            · rw [j2]
              by_cases z : h + 1 + M < m
              · rw [eB z]
                have := us_b (W := W4) (m := m) (a := h + 1 + k) (M := M - k - 1) (p := 1) (by omega)
                rw [hbb] at this; exact this.symm
              · rw [eC z]
                have := us_b2 (W := W4) (m := m) (a := h + 1 + k) (M := M - k - 1) (p := 1) (by omega)
                rw [hbb] at this; exact this.symm
            · rw [eA j j2, us_out j1 (by omega)]
        · refine ref3 _ (fun v3 w3 => ?_)
          have wf := hMM.tkWF hb3.1
          unfold tkW tkF at wf
          unfold tkW tkF tkC at w3
          rw [if_neg (by omega), if_neg (by omega)] at wf
          rw [if_neg (by omega), if_neg (by omega), if_neg (by omega)] at w3
          refine Inv.mk (r5.congr (fun j _ => ?_) (fun _ _ => rfl)) w3 wf s0
          have hbb : h + 1 + k + b + 1 + 1 + (M - k - 1 - b - 1) = h + 1 + M := by omega
          refine lnd_same (by omega) (fun j j1 j2 => ?_) (fun z => ?_) (fun z => ?_) j
          · rw [hbb] at j2
            by_cases ja : j = h + 1 + k
            · rw [ja, un_s, un_s]
            · rw [un_n ja, un_n ja]; exact eA j j2
          · rw [hbb] at z ⊢
            rw [un_n (by omega), un_n (by omega), eB z]; exact set_clr _
          · rw [hbb] at z ⊢
            rw [un_n (by omega), un_n (by omega), eC z]
  · refine mm_al39 (fun a ha e => absurd e (hno a ha)) (fun _ => ?_)
    unfold w_X5_aligned_39
    exact mm_in_ok (lo := 1) (hi := 2048) h1 h2 (by decide) ⟨fun z => absurd z (by decide), fun _ => ⟨fun _ => ⟨rfl, hI⟩, fun z => absurd rfl z⟩⟩
