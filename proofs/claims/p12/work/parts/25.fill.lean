/-! ===== a hole is filled ===== -/
theorem LI.okv {W F : Nat → Nat} {L : Nat → Prop} {C : Nat → Nat} {m a : Nat} (h : LI W F L C) (ha : L a) (top : ∀ x, L x → x + 3 < m) (hw : W a < 8192) : okV W m a := by
  obtain ⟨h1, h2, h3, h4⟩ := h
  obtain ⟨k1, k2, k3⟩ := h1 a ha
  have ta := top a ha
  refine ⟨by omega, hw, ?_, ?_⟩
  · rcases k2 with z | ⟨q, q1, q3, q4, q5⟩
    · exact Or.inl z
    · refine Or.inr ⟨by have := top q q1; omega, fun e => ?_, fun e => ?_⟩
      · have := h3 q a q1 ha (by omega); omega
      · rcases k3 with ⟨z, _⟩ | ⟨r, r1, r3, r4, r5⟩
        · omega
        · have := h3 q r q1 r1 (by omega); omega
  · rcases k3 with ⟨z, _⟩ | ⟨r, r1, r3, r4, r5⟩
    · exact Or.inl z
    · refine Or.inr ⟨by have := top r r1; omega, fun e => ?_⟩
      have := h3 r a r1 ha (by omega); omega
theorem HI.top {W : Nat → Nat} {m : Nat} {F : Nat → Nat} {S : Nat → Prop} {a M p : Nat} (h : HI W m F S a M p) {x : Nat} (hx : S x) (hxa : x ≠ a) : x + 3 < m := by
  have b := h.2.2.1 x hx hxa; have := b.1; have := b.2.1; unfold Nx at this; omega
/-- the free block ahead of a hole -/
theorem HI.ahead {W : Nat → Nat} {m : Nat} {F : Nat → Nat} {S : Nat → Prop} {a M : Nat} (h : HI W m F S a M 1) : ∃ s, S s ∧ s ≠ a ∧ s < a ∧ W s % 2 = 1 ∧ W s / 4 = W (a - 1) ∧ W (a - 1) < a ∧ s = a - 1 - W (a - 1) ∧ okV W m s ∧ HI (lvW W s) m (lvF W F s) (fun x => S x ∧ x ≠ a) s (W s / 4 + 1 + M) 0 := by
  obtain ⟨⟨g1, g2, g3, g4, g5, g6, g7⟩, ⟨h1, h2, h3, h4, h5⟩, hb, hfl, hl⟩ := id h
  have a0 : a ≠ 0 := fun e => by have := g5 e; omega
  obtain ⟨s, s1, s2, s3⟩ := prevB (fun x hx hxa => hb x hx (by omega)) h3 (by omega) a 0 (by omega) g3 (by omega)
  have sa : s ≠ a := by omega
  have bs := hb s s1 sa
  have sf : W s % 2 = 1 := (hfl s s1 sa (by rw [s3]; omega)).2 s3
  have lw := (bs.2.2.2.2 sf)
  have ea : s + W s / 4 = a - 1 := by unfold Nx at s3; omega
  rw [ea] at lw
  have ok := hl.okv (m := m) ⟨s1, sa, sf⟩ (fun x hx => h.top hx.1 hx.2.1) (bs.lt g2)
  have nin : ∀ j, (∀ x, S x → x ≠ a → W x % 2 = 1 → j ≠ x + 1 ∧ j ≠ x + 2) → lvW W s j = W j := fun j hj => lv_hd hl ⟨s1, sa, sf⟩ (fun x hx => hj x hx.1 hx.2.1 hx.2.2)
  have hd : ∀ y, S y → y ≠ a → lvW W s y = W y := fun y hy hya => nin y (fun x hx hxa hxf => by
    rcases Nat.lt_trichotomy x y with z | z | z
    · have := (h.apart hx hxa hy z).2; omega
    · omega
    · omega)
  have ll : ∀ y, S y → y ≠ a → y ≠ s → W y % 2 = 1 → lvW W s (y + W y / 4) = W (y + W y / 4) := fun y hy hya _ hyf => nin _ (fun x hx hxa hxf => by
    have b3 := (hb y hy hya).1
    have b4 := (hb x hx hxa).1
    rcases Nat.lt_trichotomy x y with z | z | z
    · have := (h.apart hx hxa hy z).1; unfold Nx at this; omega
    · subst z; omega
    · have := (h.apart hy hya hx z).1; unfold Nx at this; omega)
  refine ⟨s, s1, sa, s2, sf, lw.2.symm, by omega, by omega, ok, ?_⟩
  have k := h.join s1 sa s3 hd ll ((hl.leave ⟨s1, sa, sf⟩ rfl).congr (fun _ _ => ⟨rfl, rfl⟩) (fun _ _ => rfl) (fun x => ⟨fun z => ⟨⟨z.1, z.2.1, z.2.2.2⟩, z.2.2.1⟩, fun z => ⟨z.1.1, z.1.2.1, z.2, z.1.2.2⟩⟩) (fun _ _ => rfl))
  rw [lw.1] at k
  exact k
/-- a used block and the free one behind it -/
theorem WF.joinNext {W : Nat → Nat} {m : Nat} {F : Nat → Nat} {S : Nat → Prop} (h : WF W m F S) {a : Nat} (ha : S a) (hu : W a % 2 = 0) (hn : Nx W a < m) (hf : W (Nx W a) % 2 = 1) : okV W m (Nx W a) ∧ lvW W (Nx W a) a = W a ∧ HI (lvW W (Nx W a)) m (lvF W F (Nx W a)) (fun x => S x ∧ x ≠ Nx W a) a (W a / 4 + 1 + W (Nx W a) / 4) (W a / 2 % 2) := by
  obtain ⟨⟨g1, g2, g3, g4, g5⟩, hb, hfl, hl⟩ := id h
  have sn := (hb a ha).2.2.2.1 hn
  have k := h.leave sn hf
  have an : a < Nx W a := by unfold Nx; omega
  have ea : lvW W (Nx W a) a = W a := lv_hd hl ⟨sn, hf⟩ (fun x hx => by
    rcases Nat.lt_trichotomy x a with z | z | z
    · have := (h.apart hx.1 ha z).2; omega
    · omega
    · omega)
  refine ⟨h.okv sn hf, ea, ?_⟩
  generalize hq : Nx W a = b at *
  have k2 := k.join (s := a) ha (by omega) (by unfold Nx; rw [ea]; exact hq) (fun _ _ _ => rfl) (fun _ _ _ _ _ => rfl) (k.2.2.2.2.congr (fun _ _ => ⟨rfl, rfl⟩) (fun _ _ => rfl) (fun x => ⟨fun z => ⟨z.1, z.2.1, z.2.2.2⟩, fun z => ⟨z.1, z.2.1, fun e => by subst e; have := z.2.2; rw [ea] at this; omega, z.2.2⟩⟩) (fun _ _ => rfl))
  rw [ea] at k2
  exact k2
/-- the hole's first words become a used block -/
theorem HI.cut {W : Nat → Nat} {m : Nat} {F : Nat → Nat} {S : Nat → Prop} {a M p n : Nat} (h : HI W m F S a M p) (hn : 3 ≤ n) (hM : n + 4 ≤ M) : HI (un W a (4 * n + 2 * p)) m F (fun x => S x ∨ x = a + n + 1) (a + n + 1) (M - n - 1) 0 := by
  obtain ⟨⟨g1, g2, g3, g4, g5, g6, g7⟩, ⟨h1, h2, h3, h4, h5⟩, hb, hfl, hl⟩ := id h
  have ea : un W a (4 * n + 2 * p) a = 4 * n + 2 * p := un_s
  have eo : ∀ j, j ≠ a → un W a (4 * n + 2 * p) j = W j := fun j hj => un_n hj
  have far := fun x (hx : S x) (hxa : x ≠ a) => h.far hx hxa
  have nx : ∀ x, x ≠ a → Nx (un W a (4 * n + 2 * p)) x = Nx W x := fun x hx => by unfold Nx; rw [eo x hx]
  have nxa : Nx (un W a (4 * n + 2 * p)) a = a + n + 1 := by unfold Nx; rw [ea]; omega
  refine ⟨⟨g1, g2, Or.inl g3, fun _ => ?_, fun e => by omega, by decide, fun x hx => ?_⟩, ⟨by omega, by omega, Or.inr rfl, fun j j1 j2 j3 => ?_, fun z => ?_⟩, fun x hx hxn => ?_, fun x hx hxn => ?_, ?_⟩
  · by_cases e : a = 0
    · subst e; rw [ea]; have := g5 rfl; omega
    · rw [eo 0 (by omega)]; exact g4 e
  · rcases hx with hx | hx
    · exact g7 x hx
    · omega
  · rcases j3 with j3 | j3
    · exact h4 j (by omega) (by omega) j3
    · omega
  · rw [show a + n + 1 + 1 + (M - n - 1) = a + 1 + M by omega] at z ⊢
    obtain ⟨z1, z2⟩ := h5 z
    exact ⟨Or.inl z1, by rw [eo _ (by omega)]; exact z2⟩
  · have hx : S x := hx.resolve_right hxn
    by_cases e : x = a
    · subst e
      refine ⟨by rw [ea]; omega, by rw [nxa]; omega, fun j j1 j2 j3 => ?_, fun _ => by rw [nxa]; exact Or.inr rfl, fun z => by rw [ea] at z; omega⟩
      rw [nxa] at j2
      rcases j3 with j3 | j3
      · exact h4 j j1 (by omega) j3
      · omega
    · have b := hb x hx e
      refine b.congr (eo x e) (fun _ => eo _ ?_) (fun j j1 j2 j3 => j3.resolve_right (fun q => ?_)) (fun z => Or.inl (b.2.2.2.1 z))
      · have b1 := b.1
        rcases far x hx e with z | z
        · have := z.2.1; unfold Nx at this; omega
        · omega
      · rcases far x hx e with z | z <;> omega
  · have hx : S x := hx.resolve_right hxn
    by_cases e : x = a
    · subst e
      rw [nxa, ea]
      exact fun z => ⟨fun q => absurd rfl q, fun _ => by omega⟩
    · rw [nx x e, eo x e]
      intro z
      have k := hfl x hx e z
      have nn : Nx W x ≠ a + n + 1 := fun q => by
        rcases far x hx e with w | w
        · omega
        · unfold Nx at q; omega
      refine ⟨fun _ => ?_, fun q => absurd q nn⟩
      by_cases e2 : Nx W x = a
      · rw [e2, ea, k.2 e2]; omega
      · rw [eo _ e2]; exact k.1 e2
  · refine hl.congr (fun x hx => ⟨eo _ ?_, eo _ ?_⟩) (fun _ _ => rfl) (fun x => ?_) (fun x hx => by rw [eo x hx.2.1])
    · rcases far x hx.1 hx.2.1 with z | z <;> omega
    · rcases far x hx.1 hx.2.1 with z | z <;> omega
    · constructor
      · rintro ⟨z1, z2, z3⟩
        have z1 : S x := z1.resolve_right z2
        by_cases e : x = a
        · subst e; rw [ea] at z3; omega
        · rw [eo x e] at z3; exact ⟨z1, e, z3⟩
      · rintro ⟨z1, z2, z3⟩
        refine ⟨Or.inl z1, fun e => ?_, by rw [eo x z2]; exact z3⟩
        rcases far x z1 z2 with w | w <;> omega
theorem clr2_f (x : Nat) : clr2 x / 4 = x / 4 ∧ clr2 x % 2 = x % 2 ∧ clr2 x / 2 % 2 = 0 ∧ clr2 x ≤ x := by unfold clr2; omega
theorem set2_f (x : Nat) : set2 x / 4 = x / 4 ∧ set2 x % 2 = x % 2 ∧ set2 x / 2 % 2 = 1 ∧ set2 x ≤ x + 2 := by unfold set2; omega
/-- a used block in the whole hole -/
def usW (W : Nat → Nat) (m a M p : Nat) : Nat → Nat := if a + 1 + M < m then un (un W a (4 * M + 2 * p)) (a + 1 + M) (clr2 (W (a + 1 + M))) else un W a (4 * M + 2 * p)
theorem HI.used {W : Nat → Nat} {m : Nat} {F : Nat → Nat} {S : Nat → Prop} {a M p : Nat} (h : HI W m F S a M p) : WF (usW W m a M p) m F S := by
  obtain ⟨⟨g1, g2, g3, g4, g5, g6, g7⟩, ⟨h1, h2, h3, h4, h5⟩, hb, hfl, hl⟩ := id h
  have far := fun x (hx : S x) (hxa : x ≠ a) => h.far hx hxa
  have ea : usW W m a M p a = 4 * M + 2 * p := by
    unfold usW
    split
    · rw [un_n (by omega), un_s]
    · rw [un_s]
  have eb : a + 1 + M < m → usW W m a M p (a + 1 + M) = clr2 (W (a + 1 + M)) := fun z => by unfold usW; rw [if_pos z, un_s]
  have eo : ∀ j, j ≠ a → j ≠ a + 1 + M → usW W m a M p j = W j := fun j j1 j2 => by
    unfold usW
    split
    · rw [un_n j2, un_n j1]
    · rw [un_n j1]
  have sm : ∀ x, S x → x ≠ a → usW W m a M p x / 4 = W x / 4 ∧ usW W m a M p x % 2 = W x % 2 := fun x hx hxa => by
    by_cases e : x = a + 1 + M
    · subst e; rw [eb (g7 _ hx)]; exact ⟨(clr2_f _).1, (clr2_f _).2.1⟩
    · rw [eo x hxa e]; exact ⟨rfl, rfl⟩
  have nx : ∀ x, S x → x ≠ a → Nx (usW W m a M p) x = Nx W x := fun x hx hxa => by unfold Nx; rw [(sm x hx hxa).1]
  have nxa : Nx (usW W m a M p) a = a + 1 + M := by unfold Nx; rw [ea]; omega
  have inn : ∀ x, S x → x ≠ a → ∀ k, 1 ≤ k → k ≤ W x / 4 → usW W m a M p (x + k) = W (x + k) := fun x hx hxa k k1 k2 => by
    refine eo _ (fun e => ?_) (fun e => ?_)
    · rcases far x hx hxa with z | z
      · have := z.2.1; unfold Nx at this; omega
      · omega
    · have sb := (h5 (by have b := (hb x hx hxa).2.1; unfold Nx at b; omega)).1
      exact (hb x hx hxa).2.2.1 _ (by omega) (by unfold Nx; omega) sb
  refine ⟨⟨g1, g2, g3, ?_, g7⟩, fun x hx => ?_, fun x hx z => ?_, ?_⟩
  · by_cases e : a = 0
    · subst e; rw [ea]; have := g5 rfl; omega
    · rw [eo 0 (by omega) (by omega)]; exact g4 e
  · by_cases e : x = a
    · subst e
      exact ⟨by rw [ea]; omega, by rw [nxa]; exact h2, fun j j1 j2 j3 => h4 j j1 (by rw [nxa] at j2; exact j2) j3, fun z => by rw [nxa] at z ⊢; exact (h5 z).1, fun z => by rw [ea] at z; omega⟩
    · obtain ⟨b1, b2, b3, b4, b5⟩ := hb x hx e
      refine ⟨by rw [(sm x hx e).1]; exact b1, by rw [nx x hx e]; exact b2, by rw [nx x hx e]; exact b3, by rw [nx x hx e]; exact b4, ?_⟩
      rw [(sm x hx e).1, (sm x hx e).2]
      intro z
      have e3 : x ≠ a + 1 + M := fun q => by have := (h5 (by have := g7 x hx; omega)).2; rw [← q] at this; omega
      rw [eo x e e3, inn x hx e _ (by omega) (Nat.le_refl _)]
      exact b5 z
  · by_cases e : x = a
    · subst e
      rw [nxa] at z ⊢
      rw [eb z, ea, (clr2_f _).2.2.1]; omega
    · rw [nx x hx e] at z ⊢
      rw [(sm x hx e).2]
      have k := hfl x hx e z
      by_cases e2 : Nx W x = a
      · rw [e2, ea, k.2 e2]; omega
      · have nb : Nx W x ≠ a + 1 + M := fun q => by
          rcases far x hx e with w | w
          · omega
          · unfold Nx at q; omega
        rw [eo _ e2 nb]; exact k.1 e2
  · refine hl.congr (fun x hx => ⟨inn x hx.1 hx.2.1 1 (by omega) (by have := (hb x hx.1 hx.2.1).1; omega), inn x hx.1 hx.2.1 2 (by omega) (by have := (hb x hx.1 hx.2.1).1; omega)⟩) (fun _ _ => rfl) (fun x => ?_) (fun x hx => by rw [(sm x hx.1 hx.2.1).1])
    constructor
    · rintro ⟨z1, z2⟩
      by_cases e : x = a
      · subst e; rw [ea] at z2; omega
      · rw [(sm x z1 e).2] at z2; exact ⟨z1, e, z2⟩
    · rintro ⟨z1, z2, z3⟩; exact ⟨z1, by rw [(sm x z1 z2).2]; exact z3⟩
