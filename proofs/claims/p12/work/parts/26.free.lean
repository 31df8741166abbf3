/-! ===== a free block in a hole ===== -/
theorem lnd1_e (W F : Nat → Nat) (a n j : Nat) : lnd1 W F a n j = if j = a + n then n else if j = a + 2 then 0 else if j = a + 1 then F (cls n) else if j = a then 4 * n + 1 else W j := rfl
theorem lnd2_e (W F : Nat → Nat) (a n j : Nat) : lnd2 W F a n j = if F (cls n) ≠ 0 ∧ j = F (cls n) + 1 then a + 1 else lnd1 W F a n j := by
  unfold lnd2
  by_cases e : F (cls n) = 0
  · rw [if_pos e, if_neg (fun q => q.1 e)]
  · rw [if_neg e]
    unfold un
    by_cases e2 : j = F (cls n) + 1
    · rw [if_pos e2, if_pos ⟨e, e2⟩]
    · rw [if_neg e2, if_neg (fun q => e2 q.2)]
theorem lndW_e (W : Nat → Nat) (m : Nat) (F : Nat → Nat) (a n j : Nat) : lndW W m F a n j = if a + 1 + n < m ∧ j = a + 1 + n then set2 (lnd2 W F a n j) else lnd2 W F a n j := by
  unfold lndW
  by_cases e : a + 1 + n < m
  · rw [if_pos e]
    unfold un
    by_cases e2 : j = a + 1 + n
    · rw [if_pos e2, if_pos ⟨e, e2⟩, e2]
    · rw [if_neg e2, if_neg (fun q => e2 q.2)]
  · rw [if_neg e, if_neg (fun q => e q.1)]
section LF
variable {W : Nat → Nat} {m : Nat} {F : Nat → Nat} {a n : Nat}
theorem lf_a (hn : 3 ≤ n) (hF : F (cls n) ≠ 0 → F (cls n) + 1 ≠ a) : lndW W m F a n a = 4 * n + 1 := by
  rw [lndW_e, if_neg (by omega), lnd2_e, if_neg (fun q => hF q.1 q.2.symm), lnd1_e, if_neg (by omega), if_neg (by omega), if_neg (by omega), if_pos rfl]
theorem lf_1 (hn : 3 ≤ n) (hF : F (cls n) ≠ 0 → F (cls n) + 1 ≠ a + 1) : lndW W m F a n (a + 1) = F (cls n) := by
  rw [lndW_e, if_neg (by omega), lnd2_e, if_neg (fun q => hF q.1 q.2.symm), lnd1_e, if_neg (by omega), if_neg (by omega), if_pos rfl]
theorem lf_2 (hn : 3 ≤ n) (hF : F (cls n) ≠ 0 → F (cls n) + 1 ≠ a + 2) : lndW W m F a n (a + 2) = 0 := by
  rw [lndW_e, if_neg (by omega), lnd2_e, if_neg (fun q => hF q.1 q.2.symm), lnd1_e, if_neg (by omega), if_pos rfl]
theorem lf_n (hn : 3 ≤ n) (hF : F (cls n) ≠ 0 → F (cls n) + 1 ≠ a + n) : lndW W m F a n (a + n) = n := by
  rw [lndW_e, if_neg (by omega), lnd2_e, if_neg (fun q => hF q.1 q.2.symm), lnd1_e, if_pos rfl]
theorem lf_b (hn : 3 ≤ n) (hF : F (cls n) ≠ 0 → F (cls n) + 1 ≠ a + 1 + n) (hb : a + 1 + n < m) : lndW W m F a n (a + 1 + n) = set2 (W (a + 1 + n)) := by
  rw [lndW_e, if_pos ⟨hb, rfl⟩, lnd2_e, if_neg (fun q => hF q.1 q.2.symm), lnd1_e, if_neg (by omega), if_neg (by omega), if_neg (by omega), if_neg (by omega)]
theorem lf_F (hF0 : F (cls n) ≠ 0) (hF : F (cls n) + 1 ≠ a + 1 + n) : lndW W m F a n (F (cls n) + 1) = a + 1 := by
  rw [lndW_e, if_neg (fun q => hF q.2), lnd2_e, if_pos ⟨hF0, rfl⟩]
theorem lf_o {j : Nat} (h0 : j ≠ a) (h1 : j ≠ a + 1) (h2 : j ≠ a + 2) (h3 : j ≠ a + n) (h4 : j ≠ a + 1 + n) (h5 : F (cls n) ≠ 0 → j ≠ F (cls n) + 1) : lndW W m F a n j = W j := by
  rw [lndW_e, if_neg (fun q => h4 q.2), lnd2_e, if_neg (fun q => h5 q.1 q.2), lnd1_e, if_neg h3, if_neg h2, if_neg h1, if_neg h0]
end LF
/-- where the first of a list lies, as seen from a hole: the word with its link back is in no header, in no last word, outside the hole -/
theorem HI.first {W : Nat → Nat} {m : Nat} {F : Nat → Nat} {S : Nat → Prop} {a M p c : Nat} (h : HI W m F S a M p) (hc : c < 72) (h0 : F c ≠ 0) : ∃ q, S q ∧ q ≠ a ∧ W q % 2 = 1 ∧ F c = q + 1 ∧ cls (W q / 4) = c ∧ W (q + 2) = 0 ∧ q + 3 < m ∧ (q + 4 ≤ a ∨ a + 1 + M ≤ q) := by
  rcases h.2.2.2.2.2.1 c hc with z | ⟨q, ⟨q1, q2, q3⟩, q4, q5, q6⟩
  · exact absurd z h0
  · refine ⟨q, q1, q2, q3, q4, q5, q6, h.top q1 q2, ?_⟩
    rcases h.far q1 q2 with w | w
    · exact Or.inl w.2.2
    · exact Or.inr w.2
theorem HI.okl {W : Nat → Nat} {m : Nat} {F : Nat → Nat} {S : Nat → Prop} {a M p : Nat} (h : HI W m F S a M p) : okL W m F a M := by
  obtain ⟨⟨g1, g2, g3, g4, g5, g6, g7⟩, ⟨h1, h2, h3, h4, h5⟩, hb, hfl, hl⟩ := id h
  refine ⟨h1, by omega, ?_, fun z => (hb _ (h5 z).1 (by omega)).lt g2⟩
  by_cases e : F (cls M) = 0
  · exact Or.inl e
  · obtain ⟨q, q1, q2, q3, q4, q5, q6, q7, q8⟩ := h.first (cls_lt (by omega)) e
    exact Or.inr ⟨by omega, by omega⟩
theorem HI.free {W : Nat → Nat} {m : Nat} {F : Nat → Nat} {S : Nat → Prop} {a M : Nat} (h : HI W m F S a M 0) : WF (lndW W m F a M) m (un F (cls M) (a + 1)) S := by
  obtain ⟨⟨g1, g2, g3, g4, g5, g6, g7⟩, ⟨h1, h2, h3, h4, h5⟩, hb, hfl, hl⟩ := id h
  have hc : cls M < 72 := cls_lt (by omega)
  have far := fun x (hx : S x) (hxa : x ≠ a) => h.far hx hxa
  have fq := fun e => h.first hc e
  have sb : a + 1 + M < m → S (a + 1 + M) := fun z => (h5 z).1
  have bq : ∀ q, S q → q ≠ a → q + 2 ≠ a + 1 + M := fun q q1 q2 e => by
    have b := hb q q1 q2
    have b1 := b.1
    refine b.2.2.1 (q + 2) (by omega) (by unfold Nx; omega) ?_
    rw [e]; exact sb (by have := h.top q1 q2; omega)
  have ea : lndW W m F a M a = 4 * M + 1 := lf_a h1 (fun e => by obtain ⟨q, q1, q2, q3, q4, q5, q6, q7, q8⟩ := fq e; omega)
  have e1 : lndW W m F a M (a + 1) = F (cls M) := lf_1 h1 (fun e => by obtain ⟨q, q1, q2, q3, q4, q5, q6, q7, q8⟩ := fq e; omega)
  have e2 : lndW W m F a M (a + 2) = 0 := lf_2 h1 (fun e => by obtain ⟨q, q1, q2, q3, q4, q5, q6, q7, q8⟩ := fq e; omega)
  have eM : lndW W m F a M (a + M) = M := lf_n h1 (fun e => by obtain ⟨q, q1, q2, q3, q4, q5, q6, q7, q8⟩ := fq e; omega)
  have eb : a + 1 + M < m → lndW W m F a M (a + 1 + M) = set2 (W (a + 1 + M)) := fun z => lf_b h1 (fun e => by obtain ⟨q, q1, q2, q3, q4, q5, q6, q7, q8⟩ := fq e; have := bq q q1 q2; omega) z
  have eF : F (cls M) ≠ 0 → lndW W m F a M (F (cls M) + 1) = a + 1 := fun e => lf_F e (by obtain ⟨q, q1, q2, q3, q4, q5, q6, q7, q8⟩ := fq e; have := bq q q1 q2; omega)
  -- outside the hole and its next header, but for the link back of the first
  have eo : ∀ x, S x → x ≠ a → ∀ k, k ≤ W x / 4 → x + k ≠ a + 1 + M → (F (cls M) ≠ 0 → x + k ≠ F (cls M) + 1) → lndW W m F a M (x + k) = W (x + k) := fun x hx hxa k k1 k2 k3 => by
    have b := (hb x hx hxa).2.1
    rcases far x hx hxa with z | z
    · have z2 := z.2.1
      unfold Nx at z2
      exact lf_o (by omega) (by omega) (by omega) (by omega) k2 k3
    · exact lf_o (by omega) (by omega) (by omega) (by omega) k2 k3
  have inb : ∀ x, S x → x ≠ a → ∀ k, 1 ≤ k → k ≤ W x / 4 → x + k ≠ a + 1 + M := fun x hx hxa k k1 k2 e => by
    have b := hb x hx hxa
    have b2 := b.2.1
    unfold Nx at b2
    exact b.2.2.1 (x + k) (by omega) (by unfold Nx; omega) (by rw [e]; exact sb (by omega))
  have hdr : ∀ x, S x → x ≠ a → F (cls M) ≠ 0 → x ≠ F (cls M) + 1 := fun x hx hxa e q => by
    obtain ⟨r, r1, r2, r3, r4, r5, r6, r7, r8⟩ := fq e
    have b := hb r r1 r2
    have b1 := b.1
    exact b.2.2.1 x (by omega) (by unfold Nx; omega) hx
  have sm : ∀ x, S x → x ≠ a → lndW W m F a M x / 4 = W x / 4 ∧ lndW W m F a M x % 2 = W x % 2 := fun x hx hxa => by
    by_cases e : x = a + 1 + M
    · subst e; rw [eb (g7 _ hx)]; exact ⟨(set2_f _).1, (set2_f _).2.1⟩
    · rw [show lndW W m F a M x = W x from eo x hx hxa 0 (by omega) e (hdr x hx hxa)]; exact ⟨rfl, rfl⟩
  have nx : ∀ x, S x → x ≠ a → Nx (lndW W m F a M) x = Nx W x := fun x hx hxa => by unfold Nx; rw [(sm x hx hxa).1]
  have nxa : Nx (lndW W m F a M) a = a + 1 + M := by unfold Nx; rw [ea]; omega
  -- words of other blocks, but the link back of the first
  have inn : ∀ x, S x → x ≠ a → ∀ k, 1 ≤ k → k ≤ W x / 4 → (F (cls M) = x + 1 → k ≠ 2) → lndW W m F a M (x + k) = W (x + k) := fun x hx hxa k k1 k2 k3 => by
    refine eo x hx hxa k k2 (inb x hx hxa k k1 k2) (fun e q => ?_)
    obtain ⟨r, r1, r2, r3, r4, r5, r6, r7, r8⟩ := fq e
    have br := (hb r r1 r2).1
    rcases Nat.lt_trichotomy r x with z | z | z
    · have := (h.apart r1 r2 hx z).2; omega
    · subst z; exact k3 r4 (by omega)
    · have := (h.apart hx hxa r1 z).1; unfold Nx at this; omega
  refine ⟨⟨g1, g2, g3, ?_, g7⟩, fun x hx => ?_, fun x hx z => ?_, ?_⟩
  · by_cases e : a = 0
    · subst e; rw [ea]; omega
    · have z0 : lndW W m F a M 0 = W 0 := eo 0 g3 (fun q => e q.symm) 0 (by omega) (by omega) (hdr 0 g3 (fun q => e q.symm))
      rw [z0]; exact g4 e
  · by_cases e : x = a
    · subst e
      refine ⟨by rw [ea]; omega, by rw [nxa]; exact h2, fun j j1 j2 j3 => h4 j j1 (by rw [nxa] at j2; exact j2) j3, fun z => by rw [nxa] at z ⊢; exact sb z, fun _ => ⟨by rw [ea]; omega, ?_⟩⟩
      rw [ea, show (4 * M + 1) / 4 = M by omega]; exact eM
    · obtain ⟨b1, b2, b3, b4, b5⟩ := hb x hx e
      refine ⟨by rw [(sm x hx e).1]; exact b1, by rw [nx x hx e]; exact b2, by rw [nx x hx e]; exact b3, by rw [nx x hx e]; exact b4, ?_⟩
      rw [(sm x hx e).1, (sm x hx e).2]
      intro z
      have e3 : x ≠ a + 1 + M := fun q => by have := (h5 (by have := g7 x hx; omega)).2; rw [← q] at this; omega
      rw [show lndW W m F a M x = W x from eo x hx e 0 (by omega) e3 (hdr x hx e), inn x hx e _ (by omega) (Nat.le_refl _) (by omega)]
      exact b5 z
  · by_cases e : x = a
    · subst e
      rw [nxa] at z ⊢
      rw [eb z, ea, (set2_f _).2.2.1]; omega
    · rw [nx x hx e] at z ⊢
      rw [(sm x hx e).2]
      have k := hfl x hx e z
      by_cases e2 : Nx W x = a
      · rw [e2, ea, k.2 e2]; omega
      · have nb : Nx W x ≠ a + 1 + M := fun q => by
          rcases far x hx e with w | w
          · omega
          · unfold Nx at q; omega
        have sn := (hb x hx e).2.2.2.1 z
        rw [show lndW W m F a M (Nx W x) = W (Nx W x) from eo _ sn e2 0 (by omega) nb (hdr _ sn e2)]; exact k.1 e2
  · refine (LI.insert (W' := lndW W m F a M) (F' := un F (cls M) (a + 1)) (C' := fun x => cls (lndW W m F a M x / 4)) (a := a) (c := cls M) hl hc (fun x hx => ?_) e1 e2 eF (fun x hx => inn x hx.1 hx.2.1 1 (by omega) (by have := (hb x hx.1 hx.2.1).1; omega) (fun _ => by decide)) (fun x hx q => inn x hx.1 hx.2.1 2 (by omega) (by have := (hb x hx.1 hx.2.1).1; omega) (fun z => absurd z q)) un_s (fun d hd => un_n hd) (by show cls (lndW W m F a M a / 4) = _; rw [ea, show (4 * M + 1) / 4 = M by omega]) (fun x hx => by show cls _ = cls _; rw [(sm x hx.1 hx.2.1).1])).congr (fun _ _ => ⟨rfl, rfl⟩) (fun _ _ => rfl) (fun x => ?_) (fun _ _ => rfl)
    · rcases far x hx.1 hx.2.1 with z | z
      · omega
      · omega
    · constructor
      · rintro ⟨z1, z2⟩
        by_cases e : x = a
        · exact Or.inr e
        · rw [(sm x z1 e).2] at z2; exact Or.inl ⟨z1, e, z2⟩
      · rintro (⟨z1, z2, z3⟩ | e)
        · exact ⟨z1, by rw [(sm x z1 z2).2]; exact z3⟩
        · subst e; exact ⟨h3, by rw [ea]; omega⟩
/-- the fresh pool -/
theorem WF.fresh {m : Nat} (h1 : 16 ≤ m) (h2 : m ≤ 2048) : WF (frW m) m (frF m) (fun x => x = 0) := by
  refine HI.free (W := fun _ => 0) (F := fun _ => 0) ⟨⟨h1, h2, rfl, fun h => absurd rfl h, fun _ => rfl, by decide, fun x hx => by omega⟩, ⟨by omega, by omega, rfl, fun j j1 _ j3 => by omega, fun h => by omega⟩, fun x hx hx2 => absurd hx hx2, fun x hx hx2 => absurd hx hx2, ⟨fun a ha => absurd ha.1 ha.2.1, fun c hc => Or.inl rfl, fun x y hx => absurd hx.1 hx.2.1, fun _ => 0, fun x q hx => absurd hx.1 hx.2.1⟩⟩
