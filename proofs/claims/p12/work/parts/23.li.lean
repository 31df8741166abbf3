/-! ===== the lists: linked both ways, held by their firsts ===== -/
def LI (W F : Nat → Nat) (L : Nat → Prop) (C : Nat → Nat) : Prop :=
  (∀ a, L a → C a < 72 ∧ (W (a + 1) = 0 ∨ ∃ q, L q ∧ W (a + 1) = q + 1 ∧ C q = C a ∧ W (q + 2) = a + 1) ∧ ((W (a + 2) = 0 ∧ F (C a) = a + 1) ∨ ∃ q, L q ∧ W (a + 2) = q + 1 ∧ C q = C a ∧ W (q + 1) = a + 1)) ∧
  (∀ c, c < 72 → F c = 0 ∨ ∃ q, L q ∧ F c = q + 1 ∧ C q = c ∧ W (q + 2) = 0) ∧
  (∀ a q, L a → L q → a ≠ q → a + 4 ≤ q ∨ q + 4 ≤ a) ∧
  (∃ rk : Nat → Nat, ∀ a q, L a → W (a + 1) = q + 1 → rk q < rk a)
theorem LI.congr {W W' F F' : Nat → Nat} {L L' : Nat → Prop} {C C' : Nat → Nat} (h : LI W F L C) (hW : ∀ a, L a → W' (a + 1) = W (a + 1) ∧ W' (a + 2) = W (a + 2)) (hF : ∀ c, c < 72 → F' c = F c) (hL : ∀ a, L' a ↔ L a) (hC : ∀ a, L a → C' a = C a) : LI W' F' L' C' := by
  obtain ⟨h1, h2, h3, rk, h4⟩ := h
  refine ⟨fun a ha => ?_, fun c hc => ?_, fun a q ha hq => h3 a q ((hL a).mp ha) ((hL q).mp hq), rk, fun a q ha e => h4 a q ((hL a).mp ha) (by rw [← (hW a ((hL a).mp ha)).1]; exact e)⟩
  · have ha := (hL a).mp ha
    obtain ⟨k1, k2, k3⟩ := h1 a ha
    rw [hC a ha, (hW a ha).1, (hW a ha).2, hF _ k1]
    refine ⟨k1, ?_, ?_⟩
    · rcases k2 with z | ⟨q, z1, z2, z3, z4⟩
      · exact Or.inl z
      · exact Or.inr ⟨q, (hL q).mpr z1, z2, by rw [hC q z1]; exact z3, by rw [(hW q z1).2]; exact z4⟩
    · rcases k3 with z | ⟨q, z1, z2, z3, z4⟩
      · exact Or.inl z
      · exact Or.inr ⟨q, (hL q).mpr z1, z2, by rw [hC q z1]; exact z3, by rw [(hW q z1).1]; exact z4⟩
  · rw [hF c hc]
    rcases h2 c hc with z | ⟨q, z1, z2, z3, z4⟩
    · exact Or.inl z
    · exact Or.inr ⟨q, (hL q).mpr z1, z2, by rw [hC q z1]; exact z3, by rw [(hW q z1).2]; exact z4⟩
theorem LI.insert {W W' F F' : Nat → Nat} {L : Nat → Prop} {C C' : Nat → Nat} {a c : Nat} (h : LI W F L C) (hc : c < 72) (hs : ∀ x, L x → a + 4 ≤ x ∨ x + 4 ≤ a) (w1 : W' (a + 1) = F c) (w2 : W' (a + 2) = 0) (w3 : F c ≠ 0 → W' (F c + 1) = a + 1) (w4 : ∀ x, L x → W' (x + 1) = W (x + 1)) (w5 : ∀ x, L x → F c ≠ x + 1 → W' (x + 2) = W (x + 2)) (f1 : F' c = a + 1) (f2 : ∀ d, d ≠ c → F' d = F d) (c1 : C' a = c) (c2 : ∀ x, L x → C' x = C x) : LI W' F' (fun x => L x ∨ x = a) C' := by
  obtain ⟨h1, h2, h3, rk, h4⟩ := h
  have na : ∀ x, L x → x ≠ a := fun x hx e => by have := hs x hx; omega
  refine ⟨fun x hx => ?_, fun d hd => ?_, fun x y hx hy hxy => ?_, fun x => if x = a then rk (F c - 1) + 1 else rk x, fun x q hx e => ?_⟩
  · rcases hx with hx | hx
    · obtain ⟨k1, k2, k3⟩ := h1 x hx
      rw [c2 x hx]
      refine ⟨k1, ?_, ?_⟩
      · rw [w4 x hx]
        rcases k2 with z | ⟨q, z1, z2, z3, z4⟩
        · exact Or.inl z
        · refine Or.inr ⟨q, Or.inl z1, z2, by rw [c2 q z1]; exact z3, ?_⟩
          rw [w5 q z1 (fun e => ?_)]; exact z4
          rcases h2 c hc with y | ⟨r, y1, y2, y3, y4⟩
          · omega
          · have : r = q := by omega
            subst this; omega
      · by_cases e : F c = x + 1
        · refine Or.inr ⟨a, Or.inr rfl, ?_, ?_, ?_⟩
          · have := w3 (by omega); rw [e] at this; exact this
          · rcases h2 c hc with y | ⟨r, y1, y2, y3, y4⟩
            · omega
            · have : r = x := by omega
              subst this; omega
          · rw [w1, e]
        · rw [w5 x hx e]
          rcases k3 with ⟨z1, z2⟩ | ⟨q, z1, z2, z3, z4⟩
          · refine Or.inl ⟨z1, ?_⟩
            rw [f2 _ (fun q => e (by rw [← q]; exact z2))]; exact z2
          · exact Or.inr ⟨q, Or.inl z1, z2, by rw [c2 q z1]; exact z3, by rw [w4 q z1]; exact z4⟩
    · subst hx
      rw [c1]
      refine ⟨hc, ?_, Or.inl ⟨w2, f1⟩⟩
      rw [w1]
      rcases h2 c hc with y | ⟨r, y1, y2, y3, y4⟩
      · exact Or.inl y
      · refine Or.inr ⟨r, Or.inl y1, y2, by rw [c2 r y1]; exact y3, ?_⟩
        have := w3 (by omega); rw [y2] at this; exact this
  · by_cases e : d = c
    · subst e; exact Or.inr ⟨a, Or.inr rfl, f1, c1, w2⟩
    · rw [f2 d e]
      rcases h2 d hd with y | ⟨r, y1, y2, y3, y4⟩
      · exact Or.inl y
      · refine Or.inr ⟨r, Or.inl y1, y2, by rw [c2 r y1]; exact y3, ?_⟩
        rw [w5 r y1 (fun q => ?_)]; exact y4
        rcases h2 c hc with z | ⟨t, z1, z2, z3, z4⟩
        · omega
        · have : t = r := by omega
          subst this; exact e (by rw [← y3, z3])
  · rcases hx with hx | hx
    · rcases hy with hy | hy
      · exact h3 x y hx hy hxy
      · subst hy; have := hs x hx; omega
    · rcases hy with hy | hy
      · subst hx; have := hs y hy; omega
      · omega
  · rcases hx with hx | hx
    · rw [w4 x hx] at e
      have hq : q ≠ a := fun z => by
        rcases (h1 x hx).2.1 with y | ⟨r, r1, r2, r3, r4⟩
        · omega
        · exact na r r1 (by omega)
      show (if q = a then _ else _) < (if x = a then _ else _)
      rw [if_neg hq, if_neg (na x hx)]
      exact h4 x q hx e
    · subst hx
      rw [w1] at e
      have hq : q ≠ x := fun z => by
        rcases h2 c hc with y | ⟨r, r1, r2, r3, r4⟩
        · omega
        · exact na r r1 (by omega)
      show (if q = x then _ else _) < (if x = x then _ else _)
      rw [if_neg hq, if_pos rfl, e, Nat.add_sub_cancel]
      omega
theorem LI.leave {W F : Nat → Nat} {L : Nat → Prop} {C : Nat → Nat} {a : Nat} (h : LI W F L C) (ha : L a) (hc : C a = cls (W a / 4)) : LI (lvW W a) (lvF W F a) (fun x => L x ∧ x ≠ a) C := by
  obtain ⟨h1, h2, h3, rk, h4⟩ := h
  obtain ⟨a1, a2, a3⟩ := h1 a ha
  have near : ∀ x y, L x → L y → x + 4 ≤ y ∨ y + 4 ≤ x ∨ x = y := fun x y hx hy => by
    by_cases e : x = y
    · exact Or.inr (Or.inr e)
    · rcases h3 x y hx hy e with z | z
      · exact Or.inl z
      · exact Or.inr (Or.inl z)
  have nxt : ∀ {P : Prop}, (W (a + 1) = 0 → P) → (∀ r, L r → W (a + 1) = r + 1 → C r = C a → W (r + 2) = a + 1 → P) → P := fun f g => by
    rcases a2 with z | ⟨r, z1, z2, z3, z4⟩
    · exact f z
    · exact g r z1 z2 z3 z4
  have prv : ∀ {P : Prop}, (W (a + 2) = 0 → F (C a) = a + 1 → P) → (∀ r, L r → W (a + 2) = r + 1 → C r = C a → W (r + 1) = a + 1 → P) → P := fun f g => by
    rcases a3 with ⟨z, z'⟩ | ⟨r, z1, z2, z3, z4⟩
    · exact f z z'
    · exact g r z1 z2 z3 z4
  have ev1 : ∀ x, L x → lvW W a (x + 1) = if W (a + 2) = x + 1 then W (a + 1) else W (x + 1) := fun x hx => by
    have e1 : lv1 W a (x + 1) = if W (a + 2) = x + 1 then W (a + 1) else W (x + 1) := by
      unfold lv1
      by_cases e : W (a + 2) = 0
      · rw [if_pos e, if_neg (by omega)]
      · rw [if_neg e]
        unfold un
        by_cases e2 : x + 1 = W (a + 2)
        · rw [if_pos e2, if_pos e2.symm]
        · rw [if_neg e2, if_neg (fun q => e2 q.symm)]
    unfold lvW
    refine nxt (fun z => ?_) (fun r r1 r2 r3 r4 => ?_)
    · rw [if_pos z]; exact e1
    · rw [if_neg (by omega), un_n (fun q => by rcases near x r hx r1 with w | w | w <;> omega)]; exact e1
  have ev2 : ∀ x, L x → lvW W a (x + 2) = if W (a + 1) = x + 1 then W (a + 2) else W (x + 2) := fun x hx => by
    have e1 : lv1 W a (x + 2) = W (x + 2) := by
      unfold lv1
      refine prv (fun z _ => ?_) (fun r r1 r2 r3 r4 => ?_)
      · rw [if_pos z]
      · rw [if_neg (by omega), un_n (fun q => by rcases near x r hx r1 with w | w | w <;> omega)]
    unfold lvW
    by_cases z : W (a + 1) = 0
    · rw [if_pos z, if_neg (by omega)]; exact e1
    · rw [if_neg z]
      unfold un
      by_cases e2 : x + 2 = W (a + 1) + 1
      · rw [if_pos e2, if_pos (by omega)]
      · rw [if_neg e2, if_neg (by omega)]; exact e1
  have evF : ∀ c, lvF W F a c = if W (a + 2) = 0 ∧ c = C a then W (a + 1) else F c := fun c => by
    unfold lvF
    by_cases z : W (a + 2) = 0
    · rw [if_pos z, ← hc]
      unfold un
      by_cases e : c = C a
      · rw [if_pos e, if_pos ⟨z, e⟩]
      · rw [if_neg e, if_neg (fun q => e q.2)]
    · rw [if_neg z, if_neg (fun q => z q.1)]
  refine ⟨fun x hx => ?_, fun c hcc => ?_, fun x y hx hy hxy => h3 x y hx.1 hy.1 hxy, rk, fun x q hx e => ?_⟩
  · obtain ⟨hx, hxa⟩ := hx
    obtain ⟨k1, k2, k3⟩ := h1 x hx
    refine ⟨k1, ?_, ?_⟩
    · rw [ev1 x hx]
      by_cases e : W (a + 2) = x + 1
      · rw [if_pos e]
        have hq : C x = C a := prv (fun z _ => by omega) (fun r r1 r2 r3 r4 => by rw [show x = r by omega]; exact r3)
        refine nxt (fun z => Or.inl z) (fun r r1 r2 r3 r4 => Or.inr ⟨r, ⟨r1, fun q => ?_⟩, r2, by rw [r3, hq], ?_⟩)
        · subst q; omega
        · rw [ev2 r r1, if_pos r2]; exact e
      · rw [if_neg e]
        rcases k2 with z | ⟨y, y1, y2, y3, y4⟩
        · exact Or.inl z
        · refine Or.inr ⟨y, ⟨y1, fun q => ?_⟩, y2, y3, ?_⟩
          · subst q; exact e y4
          · rw [ev2 y y1, if_neg (fun q => ?_)]; exact y4
            refine nxt (fun z => by omega) (fun r r1 r2 r3 r4 => ?_)
            have : r = y := by omega
            subst this; clear k3 a2 a3; omega
    · rw [ev2 x hx]
      by_cases e : W (a + 1) = x + 1
      · rw [if_pos e]
        have hq : C x = C a := nxt (fun z => by omega) (fun r r1 r2 r3 r4 => by rw [show x = r by omega]; exact r3)
        refine prv (fun z _ => Or.inl ⟨z, ?_⟩) (fun r r1 r2 r3 r4 => Or.inr ⟨r, ⟨r1, fun q => ?_⟩, r2, by rw [r3, hq], ?_⟩)
        · rw [evF, if_pos ⟨z, hq⟩]; exact e
        · subst q; omega
        · rw [ev1 r r1, if_pos r2]; exact e
      · rw [if_neg e]
        rcases k3 with ⟨z1, z2⟩ | ⟨y, y1, y2, y3, y4⟩
        · refine Or.inl ⟨z1, ?_⟩
          rw [evF, if_neg (fun q => ?_)]; exact z2
          refine prv (fun _ z => ?_) (fun r r1 r2 r3 r4 => by omega)
          rw [← q.2, z2] at z; clear k2 a2 a3; omega
        · refine Or.inr ⟨y, ⟨y1, fun q => ?_⟩, y2, y3, ?_⟩
          · subst q; exact e y4
          · rw [ev1 y y1, if_neg (fun q => ?_)]; exact y4
            refine prv (fun z _ => by omega) (fun r r1 r2 r3 r4 => ?_)
            have : r = y := by omega
            subst this; clear k2 a2 a3; omega
  · rw [evF]
    by_cases e : W (a + 2) = 0 ∧ c = C a
    · rw [if_pos e]
      refine nxt (fun z => Or.inl z) (fun r r1 r2 r3 r4 => Or.inr ⟨r, ⟨r1, fun q => ?_⟩, r2, by rw [r3, e.2], ?_⟩)
      · subst q; omega
      · rw [ev2 r r1, if_pos r2]; exact e.1
    · rw [if_neg e]
      rcases h2 c hcc with z | ⟨q, q1, q2, q3, q4⟩
      · exact Or.inl z
      · refine Or.inr ⟨q, ⟨q1, fun w => ?_⟩, q2, q3, ?_⟩
        · subst w; exact e ⟨q4, q3.symm⟩
        · rw [ev2 q q1, if_neg (fun w => ?_)]; exact q4
          refine nxt (fun z => by omega) (fun r r1 r2 r3 r4 => ?_)
          have : r = q := by omega
          subst this; omega
  · obtain ⟨hx, hxa⟩ := hx
    rw [ev1 x hx] at e
    by_cases z : W (a + 2) = x + 1
    · rw [if_pos z] at e
      have y1 := h4 a q ha e
      refine prv (fun w _ => by omega) (fun r r1 r2 r3 r4 => ?_)
      have : r = x := by omega
      subst this
      exact Nat.lt_trans y1 (h4 r a r1 r4)
    · rw [if_neg z] at e
      exact h4 x q hx e
/-- what leaving touches: the link words of others in the list alone -/
theorem lvW_out {W F : Nat → Nat} {L : Nat → Prop} {C : Nat → Nat} {a j : Nat} (h : LI W F L C) (ha : L a) (hj : ∀ x, L x → x ≠ a → j ≠ x + 1 ∧ j ≠ x + 2) (hja : j ≠ a + 1 ∧ j ≠ a + 2) : lvW W a j = W j := by
  obtain ⟨h1, h2, h3, h4⟩ := h
  obtain ⟨a1, a2, a3⟩ := h1 a ha
  have e1 : lv1 W a j = W j := by
    unfold lv1
    rcases a3 with ⟨z, _⟩ | ⟨r, z1, z2, z3, z4⟩
    · rw [if_pos z]
    · rw [if_neg (by omega), un_n (fun q => ?_)]
      by_cases e : r = a
      · subst e; omega
      · have := hj r z1 e; omega
  unfold lvW
  rcases a2 with z | ⟨r, z1, z2, z3, z4⟩
  · rw [if_pos z]; exact e1
  · rw [if_neg (by omega), un_n (fun q => ?_)]; exact e1
    by_cases e : r = a
    · subst e; omega
    · have := hj r z1 e; omega
