/-! ===== a pool that isn't spoilt: blocks from end to end, the free ones in their lists ===== -/
def Nx (W : Nat → Nat) (x : Nat) : Nat := x + 1 + W x / 4
def Blk (W : Nat → Nat) (m : Nat) (S : Nat → Prop) (x : Nat) : Prop := 3 ≤ W x / 4 ∧ Nx W x ≤ m ∧ (∀ j, x < j → j < Nx W x → ¬ S j) ∧ (Nx W x < m → S (Nx W x)) ∧ (W x % 2 = 1 → W x / 2 % 2 = 0 ∧ W (x + W x / 4) = W x / 4)
def WF (W : Nat → Nat) (m : Nat) (F : Nat → Nat) (S : Nat → Prop) : Prop := (16 ≤ m ∧ m ≤ 2048 ∧ S 0 ∧ W 0 / 2 % 2 = 0 ∧ ∀ x, S x → x < m) ∧ (∀ x, S x → Blk W m S x) ∧ (∀ x, S x → Nx W x < m → W (Nx W x) / 2 % 2 = W x % 2) ∧ LI W F (fun x => S x ∧ W x % 2 = 1) (fun x => cls (W x / 4))
/-- the same, but for a hole at a, of M words behind its header; p: whether the block ahead of it is free -/
def HI (W : Nat → Nat) (m : Nat) (F : Nat → Nat) (S : Nat → Prop) (a M p : Nat) : Prop :=
  (16 ≤ m ∧ m ≤ 2048 ∧ S 0 ∧ (a ≠ 0 → W 0 / 2 % 2 = 0) ∧ (a = 0 → p = 0) ∧ p < 2 ∧ ∀ x, S x → x < m) ∧ (3 ≤ M ∧ a + 1 + M ≤ m ∧ S a ∧ (∀ j, a < j → j < a + 1 + M → ¬ S j) ∧ (a + 1 + M < m → S (a + 1 + M) ∧ W (a + 1 + M) % 2 = 0)) ∧
  (∀ x, S x → x ≠ a → Blk W m S x) ∧ (∀ x, S x → x ≠ a → Nx W x < m → (Nx W x ≠ a → W (Nx W x) / 2 % 2 = W x % 2) ∧ (Nx W x = a → W x % 2 = p)) ∧ LI W F (fun x => S x ∧ x ≠ a ∧ W x % 2 = 1) (fun x => cls (W x / 4))
theorem Blk.congr {W W' : Nat → Nat} {m : Nat} {S S' : Nat → Prop} {x : Nat} (h : Blk W m S x) (e : W' x = W x) (l : W x % 2 = 1 → W' (x + W x / 4) = W (x + W x / 4)) (s : ∀ j, x < j → j < Nx W x → S' j → S j) (t : Nx W x < m → S' (Nx W x)) : Blk W' m S' x := by
  obtain ⟨h1, h2, h3, h4, h5⟩ := h
  have en : Nx W' x = Nx W x := by unfold Nx; rw [e]
  unfold Blk
  rw [en, e]
  exact ⟨h1, h2, fun j a b c => h3 j a b (s j a b c), t, fun z => ⟨(h5 z).1, by rw [l z]; exact (h5 z).2⟩⟩
theorem Blk.lt {W : Nat → Nat} {m : Nat} {S : Nat → Prop} {x : Nat} (h : Blk W m S x) (hm : m ≤ 2048) : W x < 8192 := by
  have := h.2.1; unfold Nx at this; omega
theorem Blk.in {W : Nat → Nat} {m : Nat} {S : Nat → Prop} {x y : Nat} (h : Blk W m S x) (hy : S y) (hxy : x < y) : Nx W x ≤ y := by
  rcases Nat.lt_or_ge y (Nx W x) with z | z
  · exact absurd hy (h.2.2.1 y hxy z)
  · exact z
theorem prevB {W : Nat → Nat} {m a : Nat} {S : Nat → Prop} (hb : ∀ x, S x → x < a → Blk W m S x) (hs : S a) (ha : a < m) : ∀ (k x : Nat), a - x ≤ k → S x → x < a → ∃ y, S y ∧ y < a ∧ Nx W y = a := by
  intro k
  induction k with
  | zero => intro x h1 h2 h3; omega
  | succ k ih =>
    intro x h1 h2 h3
    have b := hb x h2 h3
    have z := b.in hs h3
    by_cases e : Nx W x = a
    · exact ⟨x, h2, h3, e⟩
    · have : x < Nx W x := by unfold Nx; omega
      exact ih (Nx W x) (by omega) (b.2.2.2.1 (by omega)) (by omega)
/-- two blocks are apart -/
theorem WF.apart {W : Nat → Nat} {m : Nat} {F : Nat → Nat} {S : Nat → Prop} (h : WF W m F S) {x y : Nat} (hx : S x) (hy : S y) (hxy : x < y) : Nx W x ≤ y ∧ x + 4 ≤ y := by
  have b := h.2.1 x hx
  have z := b.in hy hxy
  refine ⟨z, ?_⟩
  have := b.1; unfold Nx at z; omega
/-- a free block can leave; what it was in becomes a hole -/
theorem WF.okv {W : Nat → Nat} {m : Nat} {F : Nat → Nat} {S : Nat → Prop} (h : WF W m F S) {a : Nat} (ha : S a) (hf : W a % 2 = 1) : okV W m a := by
  obtain ⟨⟨g1, g2, g3, g4, g5⟩, hb, hfl, hl⟩ := id h
  have ba := hb a ha
  obtain ⟨k1, k2, k3⟩ := hl.1 a ⟨ha, hf⟩
  have hn := ba.2.1
  have h3 := ba.1
  unfold Nx at hn
  have far : ∀ q, S q → q + 4 ≤ a ∨ a + 4 ≤ q ∨ q = a := fun q hq => by
    rcases Nat.lt_trichotomy q a with z | z | z
    · exact Or.inl (h.apart hq ha z).2
    · exact Or.inr (Or.inr z)
    · exact Or.inr (Or.inl (h.apart ha hq z).2)
  have top : ∀ q, S q → q + 3 < m := fun q hq => by have b := hb q hq; have := b.1; have := b.2.1; unfold Nx at this; omega
  refine ⟨by omega, ba.lt g2, ?_, ?_⟩
  · rcases k2 with z | ⟨q, ⟨q1, q2⟩, q3, q4, q5⟩
    · exact Or.inl z
    · refine Or.inr ⟨?_, ?_, ?_⟩
      · have := top q q1; omega
      · have := far q q1; omega
      · rcases k3 with ⟨z, _⟩ | ⟨r, ⟨r1, r2⟩, r3, r4, r5⟩
        · omega
        · have : q + 4 ≤ r ∨ r + 4 ≤ q ∨ q = r := by
            rcases Nat.lt_trichotomy q r with z | z | z
            · exact Or.inl (h.apart q1 r1 z).2
            · exact Or.inr (Or.inr z)
            · exact Or.inr (Or.inl (h.apart r1 q1 z).2)
          omega
  · rcases k3 with ⟨z, _⟩ | ⟨r, ⟨r1, r2⟩, r3, r4, r5⟩
    · exact Or.inl z
    · refine Or.inr ⟨?_, ?_⟩
      · have := top r r1; omega
      · have := far r r1; omega
/-- words that leaving doesn't touch: headers, and last words of other free blocks -/
theorem lv_hd {W F : Nat → Nat} {L : Nat → Prop} {C : Nat → Nat} {a j : Nat} (h : LI W F L C) (ha : L a) (hj : ∀ x, L x → j ≠ x + 1 ∧ j ≠ x + 2) : lvW W a j = W j := lvW_out h ha (fun x hx _ => hj x hx) (hj a ha)
theorem WF.leave {W : Nat → Nat} {m : Nat} {F : Nat → Nat} {S : Nat → Prop} (h : WF W m F S) {a : Nat} (ha : S a) (hf : W a % 2 = 1) : HI (lvW W a) m (lvF W F a) S a (W a / 4) 0 := by
  obtain ⟨⟨g1, g2, g3, g4, g5⟩, hb, hfl, hl⟩ := id h
  have hd : ∀ y, S y → lvW W a y = W y := fun y hy => lv_hd hl ⟨ha, hf⟩ (fun x hx => by
    rcases Nat.lt_trichotomy x y with z | z | z
    · have := (h.apart hx.1 hy z).2; omega
    · omega
    · omega)
  have ll : ∀ y, S y → W y % 2 = 1 → lvW W a (y + W y / 4) = W (y + W y / 4) := fun y hy hyf => lv_hd hl ⟨ha, hf⟩ (fun x hx => by
    have b3 := (hb y hy).1
    have b4 := (hb x hx.1).1
    rcases Nat.lt_trichotomy x y with z | z | z
    · have := (h.apart hx.1 hy z).1; unfold Nx at this; omega
    · subst z; omega
    · have := (h.apart hy hx.1 z).1; unfold Nx at this; omega)
  have nx : ∀ y, S y → Nx (lvW W a) y = Nx W y := fun y hy => by unfold Nx; rw [hd y hy]
  have ba := hb a ha
  have pa := (ba.2.2.2.2 hf).1
  refine ⟨⟨g1, g2, g3, fun _ => by rw [hd 0 g3]; exact g4, fun _ => rfl, by decide, g5⟩, ⟨ba.1, ba.2.1, ha, ba.2.2.1, fun z => ⟨ba.2.2.2.1 z, ?_⟩⟩, fun x hx hxa => (hb x hx).congr (hd x hx) (ll x hx) (fun _ _ _ z => z) (hb x hx).2.2.2.1, fun x hx hxa => ?_, ?_⟩
  · have sn := ba.2.2.2.1 z
    show lvW W a (Nx W a) % 2 = 0
    rw [hd _ sn]
    have fl := hfl a ha z
    rcases Nat.mod_two_eq_zero_or_one (W (Nx W a)) with e | e
    · exact e
    · have := ((hb _ sn).2.2.2.2 e).1; omega
  · rw [nx x hx, hd x hx]
    intro z
    refine ⟨fun _ => ?_, fun e => ?_⟩
    · rw [hd _ ((hb x hx).2.2.2.1 z)]; exact hfl x hx z
    · have := hfl x hx z; rw [e] at this; omega
  · refine (hl.leave ⟨ha, hf⟩ rfl).congr (fun _ _ => ⟨rfl, rfl⟩) (fun _ _ => rfl) (fun x => ?_) (fun x hx => by rw [hd x hx.1.1])
    constructor
    · rintro ⟨z1, z2, z3⟩; rw [hd x z1] at z3; exact ⟨⟨z1, z3⟩, z2⟩
    · rintro ⟨⟨z1, z3⟩, z2⟩; exact ⟨z1, z2, by rw [hd x z1]; exact z3⟩
/-- a used block whose next isn't free is a hole -/
theorem WF.hole {W : Nat → Nat} {m : Nat} {F : Nat → Nat} {S : Nat → Prop} (h : WF W m F S) {a : Nat} (ha : S a) (hu : W a % 2 = 0) (hn : Nx W a < m → W (Nx W a) % 2 = 0) : HI W m F S a (W a / 4) (W a / 2 % 2) := by
  obtain ⟨⟨g1, g2, g3, g4, g5⟩, hb, hfl, hl⟩ := id h
  have ba := hb a ha
  refine ⟨⟨g1, g2, g3, fun _ => g4, fun e => by subst e; exact g4, by omega, g5⟩, ⟨ba.1, ba.2.1, ha, ba.2.2.1, fun z => ⟨ba.2.2.2.1 z, hn z⟩⟩, fun x hx _ => hb x hx, fun x hx _ z => ⟨fun _ => hfl x hx z, fun e => ?_⟩, ?_⟩
  · have := hfl x hx z; rw [e] at this; exact this.symm
  · refine hl.congr (fun _ _ => ⟨rfl, rfl⟩) (fun _ _ => rfl) (fun x => ?_) (fun _ _ => rfl)
    constructor
    · rintro ⟨z1, z2, z3⟩; exact ⟨z1, z3⟩
    · rintro ⟨z1, z3⟩; exact ⟨z1, fun e => by subst e; omega, z3⟩
theorem HI.far {W : Nat → Nat} {m : Nat} {F : Nat → Nat} {S : Nat → Prop} {a M p : Nat} (h : HI W m F S a M p) {x : Nat} (hx : S x) (hxa : x ≠ a) : (x < a ∧ Nx W x ≤ a ∧ x + 4 ≤ a) ∨ (a < x ∧ a + 1 + M ≤ x) := by
  obtain ⟨⟨g1, g2, g3, g4, g5, g6, g7⟩, ⟨h1, h2, h3, h4, h5⟩, hb, hfl, hl⟩ := h
  rcases Nat.lt_trichotomy x a with z | z | z
  · have b := hb x hx hxa
    have y := b.in h3 z
    have := b.1
    exact Or.inl ⟨z, y, by unfold Nx at y; omega⟩
  · exact absurd z hxa
  · refine Or.inr ⟨z, ?_⟩
    rcases Nat.lt_or_ge x (a + 1 + M) with y | y
    · exact absurd hx (h4 x z y)
    · exact y
theorem HI.apart {W : Nat → Nat} {m : Nat} {F : Nat → Nat} {S : Nat → Prop} {a M p : Nat} (h : HI W m F S a M p) {x y : Nat} (hx : S x) (hxa : x ≠ a) (hy : S y) (hxy : x < y) : Nx W x ≤ y ∧ x + 4 ≤ y := by
  have b := h.2.2.1 x hx hxa
  have z := b.in hy hxy
  refine ⟨z, ?_⟩
  have := b.1; unfold Nx at z; omega
/-- the block ahead of a hole joins it -/
theorem HI.join {W W' : Nat → Nat} {m : Nat} {F F' : Nat → Nat} {S : Nat → Prop} {a M p s : Nat} (h : HI W m F S a M p) (hs : S s) (hsa : s ≠ a) (hn : Nx W s = a) (hd : ∀ y, S y → y ≠ a → W' y = W y) (ll : ∀ y, S y → y ≠ a → y ≠ s → W y % 2 = 1 → W' (y + W y / 4) = W (y + W y / 4)) (hl' : LI W' F' (fun x => S x ∧ x ≠ a ∧ x ≠ s ∧ W x % 2 = 1) (fun x => cls (W x / 4))) : HI W' m F' (fun x => S x ∧ x ≠ a) s (W s / 4 + 1 + M) (W s / 2 % 2) := by
  obtain ⟨⟨g1, g2, g3, g4, g5, g6, g7⟩, ⟨h1, h2, h3, h4, h5⟩, hb, hfl, hl⟩ := id h
  have bs := hb s hs hsa
  have nx : ∀ y, S y → y ≠ a → Nx W' y = Nx W y := fun y hy hya => by unfold Nx; rw [hd y hy hya]
  have sa : s < a := by rw [← hn]; unfold Nx; omega
  have es : s + 1 + (W s / 4 + 1 + M) = a + 1 + M := by rw [← hn]; unfold Nx; omega
  have w0 : W 0 / 2 % 2 = 0 := g4 (by omega)
  have a0 : (0 : Nat) ≠ a := by omega
  refine ⟨⟨g1, g2, ⟨g3, a0⟩, fun _ => by rw [hd 0 g3 a0]; exact w0, fun e => by subst e; exact w0, by omega, fun x hx => g7 x hx.1⟩, ⟨by omega, by omega, ⟨hs, hsa⟩, fun j j1 j2 j3 => ?_, fun z => ?_⟩, fun x hx hxs => ?_, fun x hx hxs z => ?_, ?_⟩
  · rcases Nat.lt_trichotomy j a with q | q | q
    · exact bs.2.2.1 j j1 (by omega) j3.1
    · exact j3.2 q
    · exact h4 j q (by omega) j3.1
  · rw [es] at z ⊢
    obtain ⟨z1, z2⟩ := h5 z
    exact ⟨⟨z1, by omega⟩, by rw [hd _ z1 (by omega)]; exact z2⟩
  · refine (hb x hx.1 hx.2).congr (hd x hx.1 hx.2) (ll x hx.1 hx.2 hxs) (fun j _ _ y => y.1) (fun z => ⟨(hb x hx.1 hx.2).2.2.2.1 z, fun e => ?_⟩)
    rcases Nat.lt_trichotomy x s with q | q | q
    · have := (h.apart hx.1 hx.2 hs q).1; omega
    · exact hxs q
    · have := (h.apart hs hsa hx.1 q).1; unfold Nx at e; omega
  · rw [nx x hx.1 hx.2, hd x hx.1 hx.2] at *
    have nea : Nx W x ≠ a := fun e => by
      rcases Nat.lt_trichotomy x s with q | q | q
      · have := (h.apart hx.1 hx.2 hs q).1; omega
      · exact hxs q
      · have := (h.apart hs hsa hx.1 q).1; unfold Nx at e; omega
    have k := (hfl x hx.1 hx.2 z).1 nea
    have sn := (hb x hx.1 hx.2).2.2.2.1 z
    refine ⟨fun _ => by rw [hd _ sn nea]; exact k, fun e => ?_⟩
    rw [e] at k; exact k.symm
  · refine hl'.congr (fun _ _ => ⟨rfl, rfl⟩) (fun _ _ => rfl) (fun x => ?_) (fun x hx => by rw [hd x hx.1 hx.2.1])
    constructor
    · rintro ⟨⟨z1, z2⟩, z3, z4⟩; rw [hd x z1 z2] at z4; exact ⟨z1, z2, z3, z4⟩
    · rintro ⟨z1, z2, z3, z4⟩; exact ⟨⟨z1, z2⟩, z3, by rw [hd x z1 z2]; exact z4⟩
