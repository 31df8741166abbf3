/-! ===== check: the pure account of a whole run, and WF where it tells nothing ===== -/
def BI (W : Nat → Nat) (m h af : Nat) (K : Nat → Nat) (S : Nat → Prop) : Prop :=
  (h ≤ m ∧ ∀ x, S x → x < h) ∧ (∀ x, S x → 3 ≤ W x / 4 ∧ Nx W x ≤ h ∧ (∀ j, x < j → j < Nx W x → ¬ S j) ∧ (Nx W x < h → S (Nx W x)) ∧ (W x % 2 = 1 → W x / 2 % 2 = 0 ∧ W (x + W x / 4) = W x / 4)) ∧ (∀ x, S x → Nx W x < h → W (Nx W x) / 2 % 2 = W x % 2) ∧
  ((h = 0 ∧ af = 0) ∨ (S 0 ∧ W 0 / 2 % 2 = 0 ∧ ∀ l, S l → Nx W l = h → W l % 2 = af)) ∧ ((∀ x, K x = 1 ↔ (S x ∧ W x % 2 = 1)) ∧ ∀ x, K x ≤ 1) ∧ 4 * cn K 2048 ≤ h
theorem BI.step {W : Nat → Nat} {m h af : Nat} {K : Nat → Nat} {S : Nat → Prop} (b : BI W m h af K S) (hm : h < m) (m2 : m ≤ 2048) (z : wob W m h af = 0) : BI W m (Nx W h) (W h % 2) (if W h % 2 = 0 then K else un K h 1) (fun x => S x ∨ x = h) := by
  obtain ⟨o1, o2, o3, o4, o5⟩ := wob_ok hm z
  obtain ⟨⟨b1, b2⟩, b3, b4, b5, ⟨b6, b7⟩, b8⟩ := b
  have hn : h < Nx W h := by unfold Nx; omega
  have n4 : h + 4 ≤ Nx W h := by unfold Nx; omega
  have k0 : K h = 0 := by
    have := b7 h
    have : K h ≠ 1 := fun e => by have := b2 h ((b6 h).mp e).1; omega
    omega
  refine ⟨⟨by unfold Nx; omega, fun x hx => ?_⟩, fun x hx => ?_, fun x hx => ?_, Or.inr ⟨?_, ?_, fun l hl e => ?_⟩, ⟨fun x => ?_, fun x => ?_⟩, ?_⟩
  · rcases hx with hx | hx
    · have := b2 x hx; omega
    · omega
  · rcases hx with hx | hx
    · obtain ⟨c1, c2, c3, c4, c5⟩ := b3 x hx
      refine ⟨c1, by omega, fun j j1 j2 j3 => j3.elim (c3 j j1 j2) (fun e => by omega), fun q => ?_, c5⟩
      by_cases e : Nx W x = h
      · exact Or.inr e
      · exact Or.inl (c4 (by omega))
    · subst hx
      refine ⟨o2, Nat.le_refl _, fun j j1 j2 j3 => ?_, fun q => absurd q (Nat.lt_irrefl _), fun q => ⟨?_, (o5 q).2⟩⟩
      · rcases j3 with j3 | j3
        · have := b2 j j3; omega
        · omega
      · rw [o4]; exact (o5 q).1
  · intro q
    rcases hx with hx | hx
    · by_cases e : Nx W x = h
      · rw [e, o4]
        rcases b5 with c | c
        · have := b2 x hx; omega
        · exact (c.2.2 x hx e).symm
      · exact b4 x hx (by have := (b3 x hx).2.1; omega)
    · subst hx; omega
  · rcases b5 with c | c
    · exact Or.inr c.1.symm
    · exact Or.inl c.1
  · rcases b5 with c | c
    · obtain ⟨c1, c2⟩ := c
      subst c1; rw [o4]; exact c2
    · exact c.2.1
  · rcases hl with hl | hl
    · have := (b3 l hl).2.1; omega
    · rw [hl]
  · by_cases q : W h % 2 = 0
    · rw [if_pos q]
      constructor
      · exact fun e => ⟨Or.inl ((b6 x).mp e).1, ((b6 x).mp e).2⟩
      · rintro ⟨e1 | e1, e2⟩
        · exact (b6 x).mpr ⟨e1, e2⟩
        · subst e1; omega
    · rw [if_neg q]
      by_cases e : x = h
      · subst e; rw [un_s]; exact ⟨fun _ => ⟨Or.inr rfl, by omega⟩, fun _ => rfl⟩
      · rw [un_n e]
        exact ⟨fun y => ⟨Or.inl ((b6 x).mp y).1, ((b6 x).mp y).2⟩, fun y => (b6 x).mpr ⟨y.1.resolve_right e, y.2⟩⟩
  · split
    · exact b7 x
    · unfold un; split
      · decide
      · exact b7 x
  · split
    · omega
    · rw [cn_new k0 2048 (by omega)]; omega
theorem rb_BI {W : Nat → Nat} {m : Nat} (m2 : m ≤ 2048) : ∀ (k h af : Nat) (K : Nat → Nat) (S : Nat → Prop), m - h ≤ k → BI W m h af K S → (rb W m k h af K).1 = 0 → ∃ af' S', BI W m m af' (rb W m k h af K).2.2 S' ∧ (rb W m k h af K).2.1 = -1 := by
  intro k
  induction k with
  | zero =>
    intro h af K S hk b _
    rw [rb]
    have e : h = m := by have := b.1.1; omega
    subst e
    exact ⟨af, S, b, rfl⟩
  | succ k ih =>
    intro h af K S hk b z
    rw [rb] at z ⊢
    by_cases hm : m ≤ h
    · rw [if_pos hm] at z ⊢
      have e : h = m := by have := b.1.1; omega
      subst e
      exact ⟨af, S, b, rfl⟩
    · rw [if_neg hm] at z ⊢
      by_cases e : wob W m h af = 0
      · rw [if_pos e] at z ⊢
        exact ih _ _ _ _ (by unfold Nx; omega) (b.step (by omega) m2 e) z
      · rw [if_neg e] at z
        exact absurd z e
theorem rb_lt {W : Nat → Nat} {m : Nat} : ∀ (k h af : Nat) (K : Nat → Nat), (rb W m k h af K).1 < 6 := by
  intro k
  induction k with
  | zero => intro h af K; rw [rb]; exact (by decide : 0 < 6)
  | succ k ih =>
    intro h af K
    rw [rb]
    split
    · exact (by decide : 0 < 6)
    · split
      · exact ih _ _ _
      · have := wob_le W m h af
        show wob W m h af < 6
        omega
theorem BI.ki {W : Nat → Nat} {m h af : Nat} {K : Nat → Nat} {S : Nat → Prop} (b : BI W m h af K S) (m2 : m ≤ 2048) : KI W m K := by
  obtain ⟨⟨b1, b2⟩, b3, b4, b5, ⟨b6, b7⟩, b8⟩ := b
  refine ⟨by omega, fun j => by have := b7 j; omega, fun j hj => ?_⟩
  have k1 : K j = 1 := by have := b7 j; omega
  have s := ((b6 j).mp k1).1
  obtain ⟨c1, c2, c3, c4, c5⟩ := b3 j s
  unfold Nx at c2
  omega
/-- the lists up to c, and this one up to place a -/
def QI (W F : Nat → Nat) (K : Nat → Nat) (c a : Nat) : Prop :=
  (∀ y, K y = 2 → (W (y + 2) = 0 ∧ F (cls (W y / 4)) = y + 1) ∨ ∃ q, K q = 2 ∧ W (y + 2) = q + 1 ∧ cls (W q / 4) = cls (W y / 4) ∧ W (q + 1) = y + 1) ∧
  (∀ y, K y = 2 → y + 1 ≠ a → W (y + 1) = 0 ∨ ∃ q, K q = 2 ∧ W (y + 1) = q + 1 ∧ cls (W q / 4) = cls (W y / 4) ∧ W (q + 2) = y + 1) ∧
  (∃ rk : Nat → Nat, ∀ y q, K y = 2 → y + 1 ≠ a → W (y + 1) = q + 1 → rk q < rk y) ∧
  (∀ d, d < c → F d = 0 ∨ ∃ q, K q = 2 ∧ F d = q + 1 ∧ cls (W q / 4) = d ∧ W (q + 2) = 0)
def QC (W F : Nat → Nat) (K : Nat → Nat) (c a x : Nat) : Prop := (a = 0 ∧ x = F c) ∨ (a ≠ 0 ∧ K (a - 1) = 2 ∧ x = W a ∧ cls (W (a - 1) / 4) = c ∧ ∃ q, K q = 2 ∧ F c = q + 1 ∧ cls (W q / 4) = c ∧ W (q + 2) = 0)
theorem QI.step {W F K : Nat → Nat} {m c a x : Nat} (h : QI W F K c a) (hc : QC W F K c a x) (i : 1 ≤ x ∧ x < m ∧ K (x - 1) = 1 ∧ cls (W (x - 1) / 4) = c ∧ W (x + 1) = a) : QI W F (un K (x - 1) 2) c x ∧ QC W F (un K (x - 1) 2) c x (W x) := by
  obtain ⟨i1, i2, i3, i4, i5⟩ := i
  obtain ⟨y0, rfl⟩ : ∃ y, x = y + 1 := ⟨x - 1, by omega⟩
  rw [Nat.add_sub_cancel] at i3 i4 ⊢
  obtain ⟨h1, h2, ⟨rk, h3⟩, h4⟩ := h
  have k0 : un K y0 2 y0 = 2 := un_s
  have kn : ∀ q, q ≠ y0 → un K y0 2 q = K q := fun q hq => un_n hq
  have nm : ∀ q, K q = 2 → q ≠ y0 := fun q hq e => by subst e; omega
  have up : ∀ q, K q = 2 → un K y0 2 q = 2 := fun q hq => by rw [kn q (nm q hq)]; exact hq
  have fst : ∃ q, un K y0 2 q = 2 ∧ F c = q + 1 ∧ cls (W q / 4) = c ∧ W (q + 2) = 0 := by
    rcases hc with ⟨c1, c2⟩ | ⟨c1, c2, c3, c4, q, q1, q2, q3, q4⟩
    · exact ⟨y0, k0, c2.symm, i4, by rw [show y0 + 2 = y0 + 1 + 1 from rfl, i5]; exact c1⟩
    · exact ⟨q, up q q1, q2, q3, q4⟩
  refine ⟨⟨fun y hy => ?_, fun y hy hya => ?_, ⟨fun y => if y = y0 then 0 else rk y + 1, fun y q hy hya e => ?_⟩, fun d hd => ?_⟩, Or.inr ⟨by omega, k0, rfl, i4, fst⟩⟩
  · by_cases e : y = y0
    · subst e
      rcases hc with ⟨c1, c2⟩ | ⟨c1, c2, c3, c4, _⟩
      · exact Or.inl ⟨by rw [show y + 2 = y + 1 + 1 from rfl, i5]; exact c1, by rw [i4]; exact c2.symm⟩
      · refine Or.inr ⟨a - 1, up _ c2, by rw [show y + 2 = y + 1 + 1 from rfl, i5]; omega, by rw [c4, i4], ?_⟩
        rw [show a - 1 + 1 = a by omega]; exact c3.symm
    · rw [kn y e] at hy
      rcases h1 y hy with z | ⟨q, q1, q2⟩
      · exact Or.inl z
      · exact Or.inr ⟨q, up q q1, q2⟩
  · have e : y ≠ y0 := by omega
    rw [kn y e] at hy
    by_cases ya : y + 1 = a
    · rcases hc with ⟨c1, c2⟩ | ⟨c1, c2, c3, c4, _⟩
      · omega
      · have ay : a - 1 = y := by omega
        rw [ay] at c4
        exact Or.inr ⟨y0, k0, by rw [ya]; exact c3.symm, by rw [i4, c4], by rw [show y0 + 2 = y0 + 1 + 1 from rfl, i5, ya]⟩
    · rcases h2 y hy ya with z | ⟨q, q1, q2⟩
      · exact Or.inl z
      · exact Or.inr ⟨q, up q q1, q2⟩
  · have ey : y ≠ y0 := by omega
    rw [kn y ey] at hy
    show (if q = y0 then 0 else rk q + 1) < (if y = y0 then 0 else rk y + 1)
    rw [if_neg ey]
    by_cases ya : y + 1 = a
    · rcases hc with ⟨c1, c2⟩ | ⟨c1, c2, c3, c4, _⟩
      · omega
      · rw [ya, ← c3] at e
        rw [if_pos (by omega)]; omega
    · have := h3 y q hy ya e
      split <;> omega
  · rcases h4 d hd with z | ⟨q, q1, q2⟩
    · exact Or.inl z
    · exact Or.inr ⟨q, up q q1, q2⟩
theorem QI.last {W F K : Nat → Nat} {c a : Nat} (h : QI W F K c a) (hc : QC W F K c a 0) : QI W F K (c + 1) 0 := by
  obtain ⟨h1, h2, ⟨rk, h3⟩, h4⟩ := h
  have wa : ∀ y, y + 1 = a → W (y + 1) = 0 := fun y e => by
    rcases hc with ⟨c1, c2⟩ | ⟨c1, c2, c3, c4, _⟩
    · omega
    · rw [e]; exact c3.symm
  refine ⟨h1, fun y hy _ => ?_, ⟨rk, fun y q hy _ e => ?_⟩, fun d hd => ?_⟩
  · by_cases e : y + 1 = a
    · exact Or.inl (wa y e)
    · exact h2 y hy e
  · by_cases e2 : y + 1 = a
    · rw [wa y e2] at e; omega
    · exact h3 y q hy e2 e
  · by_cases e : d = c
    · subst e
      rcases hc with ⟨c1, c2⟩ | ⟨c1, c2, c3, c4, q⟩
      · exact Or.inl c2.symm
      · exact Or.inr q
    · exact h4 d (by omega)
theorem rl_Q {W F : Nat → Nat} {m c : Nat} : ∀ (k a x : Nat) (K : Nat → Nat), QI W F K c a → QC W F K c a x → (rl W m c k a x K).1 = 0 → QI W F (rl W m c k a x K).2.2 (c + 1) 0 ∧ ∀ j, (rl W m c k a x K).2.2 j = 0 ↔ K j = 0 := by
  intro k
  induction k with
  | zero =>
    intro a x K h hc z
    rw [rl] at z ⊢
    by_cases e : x = 0
    · subst e
      exact ⟨h.last hc, fun _ => Iff.rfl⟩
    · rw [if_neg e] at z; exact absurd (show 5 = 0 from z) (by decide)
  | succ k ih =>
    intro a x K h hc z
    rw [rl] at z ⊢
    by_cases e : x = 0
    · subst e
      exact ⟨h.last hc, fun _ => Iff.rfl⟩
    · rw [if_neg e] at z ⊢
      by_cases i : 1 ≤ x ∧ x < m ∧ K (x - 1) = 1 ∧ cls (W (x - 1) / 4) = c ∧ W (x + 1) = a
      · rw [if_pos i] at z ⊢
        obtain ⟨s1, s2⟩ := h.step hc i
        obtain ⟨t1, t2⟩ := ih x (W x) _ s1 s2 z
        refine ⟨t1, fun j => (t2 j).trans ?_⟩
        by_cases q : j = x - 1
        · rw [q, un_s]; have := i.2.2.1; omega
        · rw [un_n q]
      · rw [if_neg i] at z; exact absurd (show 5 = 0 from z) (by decide)
theorem ra_Q {W F : Nat → Nat} {m : Nat} (m2 : m ≤ 2048) : ∀ (k c : Nat) (K : Nat → Nat), KI W m K → QI W F K c 0 → (ra W m F k c K).1 = 0 → QI W F (ra W m F k c K).2.2 (c + k) 0 ∧ KI W m (ra W m F k c K).2.2 ∧ (ra W m F k c K).2.1 = -1 ∧ ∀ j, (ra W m F k c K).2.2 j = 0 ↔ K j = 0 := by
  intro k
  induction k with
  | zero => intro c K hk h _; rw [ra]; exact ⟨h, hk, rfl, fun _ => Iff.rfl⟩
  | succ k ih =>
    intro c K hk h z
    rw [ra] at z ⊢
    have g := rl_KI (W := W) (c := c) m2 512 0 (F c) K hk
    by_cases e : (rl W m c 512 0 (F c) K).1 = 0
    · rw [if_pos e] at z ⊢
      obtain ⟨s1, s2⟩ := rl_Q (m := m) 512 0 (F c) K h (Or.inl ⟨rfl, rfl⟩) e
      obtain ⟨t1, t2, t3, t4⟩ := ih (c + 1) _ g.1 s1 z
      rw [show c + 1 + k = c + (k + 1) by omega] at t1
      exact ⟨t1, t2, t3, fun j => (t4 j).trans (s2 j)⟩
    · rw [if_neg e] at z; exact absurd z e
theorem sl_0 {m : Nat} {K : Nat → Nat} : ∀ (k j : Nat), m - j ≤ k → (sl m K k j).1 = 0 → ∀ i, j ≤ i → i < m → K i ≠ 1 := by
  intro k
  induction k with
  | zero => intro j hk _ i hi hm; omega
  | succ k ih =>
    intro j hk z i hi hm
    rw [sl] at z
    rw [if_neg (by omega)] at z
    by_cases e : K j = 1
    · rw [if_pos e] at z; exact absurd (show 6 = 0 from z) (by decide)
    · rw [if_neg e] at z
      by_cases q : i = j
      · rw [q]; exact e
      · exact ih (j + 1) (by omega) z i (by omega) hm
def ckR (W : Nat → Nat) (m : Nat) (F : Nat → Nat) : Nat × Int32 :=
  if (rb W m 2048 0 0 (fun _ => 0)).1 = 0 then (if (ra W m F 72 0 (rb W m 2048 0 0 (fun _ => 0)).2.2).1 = 0 then sl m (ra W m F 72 0 (rb W m 2048 0 0 (fun _ => 0)).2.2).2.2 2048 0 else ((ra W m F 72 0 (rb W m 2048 0 0 (fun _ => 0)).2.2).1, (ra W m F 72 0 (rb W m 2048 0 0 (fun _ => 0)).2.2).2.1)) else ((rb W m 2048 0 0 (fun _ => 0)).1, (rb W m 2048 0 0 (fun _ => 0)).2.1)
theorem BI.start (W : Nat → Nat) (m : Nat) : BI W m 0 0 (fun _ => 0) (fun _ => False) := ⟨⟨by omega, fun _ h => absurd h id⟩, fun _ h => absurd h id, fun _ h => absurd h id, Or.inl ⟨rfl, rfl⟩, ⟨fun x => ⟨fun h => absurd (show 0 = 1 from h) (by decide), fun h => absurd h.1 id⟩, fun _ => Nat.zero_le 1⟩, by rw [cn_zero]; omega⟩
theorem QI.start {W F K : Nat → Nat} (h : ∀ j, K j ≤ 1) : QI W F K 0 0 := ⟨fun y e => by have := h y; omega, fun y e => by have := h y; omega, ⟨fun _ => 0, fun y q e => by have := h y; omega⟩, fun d hd => by omega⟩
theorem ck_wf {W : Nat → Nat} {m : Nat} {F : Nat → Nat} (m1 : 16 ≤ m) (m2 : m ≤ 2048) (z : (ckR W m F).1 = 0) : ∃ S, WF W m F S := by
  unfold ckR at z
  by_cases e1 : (rb W m 2048 0 0 (fun _ => 0)).1 = 0
  · rw [if_pos e1] at z
    obtain ⟨af, S, b, _⟩ := rb_BI (W := W) m2 2048 0 0 (fun _ => 0) _ (by omega) (BI.start W m) e1
    generalize (rb W m 2048 0 0 (fun _ => 0)).2.2 = K at z b
    have ki := b.ki m2
    by_cases e2 : (ra W m F 72 0 K).1 = 0
    · rw [if_pos e2] at z
      obtain ⟨q, k2, _, nz⟩ := ra_Q m2 72 0 K ki (QI.start b.2.2.2.2.1.2) e2
      generalize (ra W m F 72 0 K).2.2 = K2 at z q k2 nz
      have ns := sl_0 2048 0 (by omega) z
      obtain ⟨⟨b1, b2⟩, b3, b4, b5, ⟨b6, b7⟩, b8⟩ := b
      have k2i : ∀ x, K2 x = 2 ↔ (S x ∧ W x % 2 = 1) := fun x => by
        rw [← b6 x]
        have a1 := b7 x
        have a2 := k2.2.1 x
        have a3 := nz x
        constructor
        · intro h; omega
        · intro h
          have := ns x (by omega) (by have := (k2.2.2 x (by omega)).1; omega)
          omega
      have ap : ∀ x y, S x → S y → x < y → x + 4 ≤ y := fun x y hx hy hxy => by
        obtain ⟨c1, c2, c3, c4, c5⟩ := b3 x hx
        have : ¬ y < Nx W x := fun h => c3 y hxy h hy
        unfold Nx at this; omega
      rcases b5 with c | ⟨c1, c2, c3⟩
      · omega
      refine ⟨S, ⟨m1, m2, c1, c2, b2⟩, fun x hx => b3 x hx, b4, ?_⟩
      obtain ⟨q1, q2, ⟨rk, q3⟩, q4⟩ := q
      refine ⟨fun y hy => ⟨cls_lt ?_, ?_, ?_⟩, fun c hc => ?_, fun x y hx hy hxy => ?_, ⟨rk, fun y p hy e => ?_⟩⟩
      · have := (k2.2.2 y (by have := (k2i y).mpr hy; omega)).2; omega
      · rcases q2 y ((k2i y).mpr hy) (by omega) with h | ⟨p, p1, p2⟩
        · exact Or.inl h
        · exact Or.inr ⟨p, (k2i p).mp p1, p2⟩
      · rcases q1 y ((k2i y).mpr hy) with h | ⟨p, p1, p2⟩
        · exact Or.inl h
        · exact Or.inr ⟨p, (k2i p).mp p1, p2⟩
      · rcases q4 c (by omega) with h | ⟨p, p1, p2⟩
        · exact Or.inl h
        · exact Or.inr ⟨p, (k2i p).mp p1, p2⟩
      · rcases Nat.lt_trichotomy x y with h | h | h
        · exact Or.inl (ap x y hx.1 hy.1 h)
        · exact absurd h hxy
        · exact Or.inr (ap y x hy.1 hx.1 h)
      · exact q3 y p ((k2i y).mpr hy) (by omega) e
    · rw [if_neg e2] at z; exact absurd z e2
  · rw [if_neg e1] at z; exact absurd z e1
