/-! ===== a hole cut for an aligned place; a pool that grows ===== -/
theorem HI.split {W : Nat → Nat} {m : Nat} {F : Nat → Nat} {S : Nat → Prop} {a M n X : Nat} (h : HI W m F S a M 0) (hn : 3 ≤ n) (hM : n + 4 ≤ M) (hX : X < 8192) : okL (un W (a + 1 + n) X) m F a n ∧ HI (lndW (un W (a + 1 + n) X) m F a n) m (un F (cls n) (a + 1)) (fun x => S x ∨ x = a + 1 + n) (a + 1 + n) (M - n - 1) 1 := by
  obtain ⟨⟨g1, g2, g3, g4, g5, g6, g7⟩, ⟨h1, h2, h3, h4, h5⟩, hb, hfl, hl⟩ := id h
  have hc : cls n < 72 := cls_lt (by omega)
  have far := fun x (hx : S x) (hxa : x ≠ a) => h.far hx hxa
  have fq := fun e => h.first hc e
  have sb : a + 1 + M < m → S (a + 1 + M) := fun z => (h5 z).1
  have ok : okL (un W (a + 1 + n) X) m F a n := by
    refine ⟨hn, by omega, ?_, fun _ => by rw [un_s]; exact hX⟩
    by_cases e : F (cls n) = 0
    · exact Or.inl e
    · obtain ⟨q, q1, q2, q3, q4, q5, q6, q7, q8⟩ := fq e
      exact Or.inr ⟨by omega, by omega⟩
  refine ⟨ok, ?_⟩
  generalize hW' : lndW (un W (a + 1 + n) X) m F a n = W'
  have ea : W' a = 4 * n + 1 := by rw [← hW']; exact lf_a hn (fun e => by obtain ⟨q, q1, q2, q3, q4, q5, q6, q7, q8⟩ := fq e; omega)
  have e1 : W' (a + 1) = F (cls n) := by rw [← hW']; exact lf_1 hn (fun e => by obtain ⟨q, q1, q2, q3, q4, q5, q6, q7, q8⟩ := fq e; omega)
  have e2 : W' (a + 2) = 0 := by rw [← hW']; exact lf_2 hn (fun e => by obtain ⟨q, q1, q2, q3, q4, q5, q6, q7, q8⟩ := fq e; omega)
  have eM : W' (a + n) = n := by rw [← hW']; exact lf_n hn (fun e => by obtain ⟨q, q1, q2, q3, q4, q5, q6, q7, q8⟩ := fq e; omega)
  have eF : F (cls n) ≠ 0 → W' (F (cls n) + 1) = a + 1 := fun e => by rw [← hW']; exact lf_F e (by obtain ⟨q, q1, q2, q3, q4, q5, q6, q7, q8⟩ := fq e; omega)
  have eo : ∀ x, S x → x ≠ a → ∀ k, k ≤ W x / 4 → (F (cls n) ≠ 0 → x + k ≠ F (cls n) + 1) → W' (x + k) = W (x + k) := fun x hx hxa k k1 k3 => by
    have b := (hb x hx hxa).2.1
    rw [← hW']
    rcases far x hx hxa with z | z
    · have z2 := z.2.1
      unfold Nx at z2
      rw [lf_o (by omega) (by omega) (by omega) (by omega) (by omega) k3, un_n (by omega)]
    · rw [lf_o (by omega) (by omega) (by omega) (by omega) (by omega) k3, un_n (by omega)]
  have hdr : ∀ x, S x → x ≠ a → F (cls n) ≠ 0 → x ≠ F (cls n) + 1 := fun x hx hxa e q => by
    obtain ⟨r, r1, r2, r3, r4, r5, r6, r7, r8⟩ := fq e
    have b := hb r r1 r2
    have b1 := b.1
    exact b.2.2.1 x (by omega) (by unfold Nx; omega) hx
  have sm : ∀ x, S x → x ≠ a → W' x = W x := fun x hx hxa => eo x hx hxa 0 (by omega) (hdr x hx hxa)
  have nx : ∀ x, S x → x ≠ a → Nx W' x = Nx W x := fun x hx hxa => by unfold Nx; rw [sm x hx hxa]
  have nxa : Nx W' a = a + 1 + n := by unfold Nx; rw [ea]; omega
  have inn : ∀ x, S x → x ≠ a → ∀ k, 1 ≤ k → k ≤ W x / 4 → (F (cls n) = x + 1 → k ≠ 2) → W' (x + k) = W (x + k) := fun x hx hxa k k1 k2 k3 => by
    refine eo x hx hxa k k2 (fun e q => ?_)
    obtain ⟨r, r1, r2, r3, r4, r5, r6, r7, r8⟩ := fq e
    have br := (hb r r1 r2).1
    rcases Nat.lt_trichotomy r x with z | z | z
    · have := (h.apart r1 r2 hx z).2; omega
    · subst z; exact k3 r4 (by omega)
    · have := (h.apart hx hxa r1 z).1; unfold Nx at this; omega
  refine ⟨⟨g1, g2, Or.inl g3, fun _ => ?_, fun e => by omega, by decide, fun x hx => ?_⟩, ⟨by omega, by omega, Or.inr rfl, fun j j1 j2 j3 => ?_, fun z => ?_⟩, fun x hx hxn => ?_, fun x hx hxn => ?_, ?_⟩
  · by_cases e : a = 0
    · subst e; rw [ea]; omega
    · rw [sm 0 g3 (fun q => e q.symm)]; exact g4 e
  · rcases hx with hx | hx
    · exact g7 x hx
    · omega
  · rcases j3 with j3 | j3
    · exact h4 j (by omega) (by omega) j3
    · omega
  · rw [show a + 1 + n + 1 + (M - n - 1) = a + 1 + M by omega] at z ⊢
    exact ⟨Or.inl (h5 z).1, by rw [sm _ (h5 z).1 (by omega)]; exact (h5 z).2⟩
  · have hx : S x := hx.resolve_right hxn
    by_cases e : x = a
    · subst e
      refine ⟨by rw [ea]; omega, by rw [nxa]; omega, fun j j1 j2 j3 => ?_, fun _ => by rw [nxa]; exact Or.inr rfl, fun z => ⟨by rw [ea]; omega, by rw [ea, show (4 * n + 1) / 4 = n by omega]; exact eM⟩⟩
      rw [nxa] at j2
      rcases j3 with j3 | j3
      · exact h4 j j1 (by omega) j3
      · omega
    · have b := hb x hx e
      refine b.congr (sm x hx e) (fun z => inn x hx e _ (by have := b.1; omega) (Nat.le_refl _) (by have := b.1; omega)) (fun j j1 j2 j3 => j3.resolve_right (fun q => ?_)) (fun z => Or.inl (b.2.2.2.1 z))
      rcases far x hx e with z | z <;> omega
  · have hx : S x := hx.resolve_right hxn
    by_cases e : x = a
    · subst e
      rw [nxa, ea]
      exact fun z => ⟨fun q => absurd rfl q, fun _ => by omega⟩
    · rw [nx x hx e, sm x hx e]
      intro z
      have k := hfl x hx e z
      have nn : Nx W x ≠ a + 1 + n := fun q => by
        rcases far x hx e with w | w
        · omega
        · unfold Nx at q; omega
      refine ⟨fun _ => ?_, fun q => absurd q nn⟩
      by_cases e2 : Nx W x = a
      · rw [e2, ea, k.2 e2]; omega
      · rw [sm _ ((hb x hx e).2.2.2.1 z) e2]; exact k.1 e2
  · refine (LI.insert (W' := W') (F' := un F (cls n) (a + 1)) (C' := fun x => cls (W' x / 4)) (a := a) (c := cls n) hl hc (fun x hx => ?_) e1 e2 eF (fun x hx => inn x hx.1 hx.2.1 1 (by omega) (by have := (hb x hx.1 hx.2.1).1; omega) (fun _ => by decide)) (fun x hx q => inn x hx.1 hx.2.1 2 (by omega) (by have := (hb x hx.1 hx.2.1).1; omega) (fun z => absurd z q)) un_s (fun d hd => un_n hd) (by show cls (W' a / 4) = _; rw [ea, show (4 * n + 1) / 4 = n by omega]) (fun x hx => by show cls _ = cls _; rw [sm x hx.1 hx.2.1])).congr (fun _ _ => ⟨rfl, rfl⟩) (fun _ _ => rfl) (fun x => ?_) (fun _ _ => rfl)
    · rcases far x hx.1 hx.2.1 with z | z
      · omega
      · omega
    · constructor
      · rintro ⟨z1, z2, z3⟩
        have z1 : S x := z1.resolve_right z2
        by_cases e : x = a
        · exact Or.inr e
        · rw [sm x z1 e] at z3; exact Or.inl ⟨z1, e, z3⟩
      · rintro (⟨z1, z2, z3⟩ | e)
        · refine ⟨Or.inl z1, fun q => ?_, by rw [sm x z1 z2]; exact z3⟩
          rcases far x z1 z2 with w | w <;> omega
        · subst e; exact ⟨Or.inl h3, by omega, by rw [ea]; omega⟩
/-- a pool that grows: its new words are a hole -/
theorem WF.grow {W : Nat → Nat} {m : Nat} {F : Nat → Nat} {S : Nat → Prop} (h : WF W m F S) {n l X : Nat} (hn : 4 ≤ n) (hm : m + n ≤ 2048) (hl1 : S l) (hl2 : Nx W l = m) : HI (un W m X) (m + n) F (fun x => S x ∨ x = m) m (n - 1) (W l % 2) := by
  obtain ⟨⟨g1, g2, g3, g4, g5⟩, hb, hfl, hl⟩ := id h
  have eo : ∀ j, j ≠ m → un W m X j = W j := fun j hj => un_n hj
  have sm : ∀ x, S x → un W m X x = W x := fun x hx => eo x (by have := g5 x hx; omega)
  have nx : ∀ x, S x → Nx (un W m X) x = Nx W x := fun x hx => by unfold Nx; rw [sm x hx]
  have inn : ∀ x, S x → ∀ k, k ≤ W x / 4 → un W m X (x + k) = W (x + k) := fun x hx k hk => eo _ (by have b := (hb x hx).2.1; unfold Nx at b; omega)
  refine ⟨⟨by omega, hm, Or.inl g3, fun _ => by rw [sm 0 g3]; exact g4, fun e => by omega, by omega, fun x hx => ?_⟩, ⟨by omega, by omega, Or.inr rfl, fun j j1 j2 j3 => ?_, fun z => by omega⟩, fun x hx hxn => ?_, fun x hx hxn z => ?_, ?_⟩
  · rcases hx with hx | hx
    · have := g5 x hx; omega
    · omega
  · rcases j3 with j3 | j3
    · have := g5 j j3; omega
    · omega
  · have hx : S x := hx.resolve_right hxn
    obtain ⟨b1, b2, b3, b4, b5⟩ := hb x hx
    refine ⟨by rw [sm x hx]; exact b1, by rw [nx x hx]; omega, fun j j1 j2 j3 => ?_, fun z => ?_, fun z => ?_⟩
    · rw [nx x hx] at j2
      rcases j3 with j3 | j3
      · exact b3 j j1 j2 j3
      · omega
    · rw [nx x hx]
      by_cases e : Nx W x = m
      · exact Or.inr e
      · exact Or.inl (b4 (by omega))
    · rw [sm x hx] at z ⊢
      rw [inn x hx _ (Nat.le_refl _)]; exact b5 z
  · have hx : S x := hx.resolve_right hxn
    rw [nx x hx, sm x hx]
    refine ⟨fun e => ?_, fun e => ?_⟩
    · have lt : Nx W x < m := by have := (hb x hx).2.1; omega
      rw [sm _ ((hb x hx).2.2.2.1 lt)]; exact hfl x hx lt
    · have : x = l := by
        rcases Nat.lt_trichotomy x l with w | w | w
        · have := (h.apart hx hl1 w).1; have := g5 l hl1; omega
        · exact w
        · have := (h.apart hl1 hx w).1; have := g5 x hx; omega
      rw [this]
  · refine hl.congr (fun x hx => ⟨inn x hx.1 1 (by have := (hb x hx.1).1; omega), inn x hx.1 2 (by have := (hb x hx.1).1; omega)⟩) (fun _ _ => rfl) (fun x => ?_) (fun x hx => by rw [sm x hx.1])
    constructor
    · rintro ⟨z1, z2, z3⟩
      have z1 : S x := z1.resolve_right z2
      rw [sm x z1] at z3; exact ⟨z1, z3⟩
    · rintro ⟨z1, z3⟩
      exact ⟨Or.inl z1, by have := g5 x z1; omega, by rw [sm x z1]; exact z3⟩
