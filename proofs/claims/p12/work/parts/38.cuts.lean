/-! ===== a used block is cut; words are copied ===== -/
theorem HI.freeHd {W : Nat → Nat} {m : Nat} {F : Nat → Nat} {S : Nat → Prop} {a M p : Nat} (h : HI W m F S a M p) {x : Nat} (hx : S x) (hxa : x ≠ a) : lndW W m F a M x / 4 = W x / 4 ∧ lndW W m F a M x % 2 = W x % 2 := by
  obtain ⟨⟨g1, g2, g3, g4, g5, g6, g7⟩, ⟨h1, h2, h3, h4, h5⟩, hb, hfl, hl⟩ := id h
  have hc : cls M < 72 := cls_lt (by omega)
  have fq := fun e => h.first hc e
  have sb : a + 1 + M < m → S (a + 1 + M) := fun z => (h5 z).1
  have bq : ∀ q, S q → q ≠ a → q + 2 ≠ a + 1 + M := fun q q1 q2 e => by
    have b := hb q q1 q2
    have b1 := b.1
    refine b.2.2.1 (q + 2) (by omega) (by unfold Nx; omega) ?_
    rw [e]; exact sb (by have := h.top q1 q2; omega)
  by_cases e : x = a + 1 + M
  · subst e
    rw [lf_b h1 (fun e => by obtain ⟨q, q1, q2, q3, q4, q5, q6, q7, q8⟩ := fq e; have := bq q q1 q2; omega) (g7 _ hx)]
    exact ⟨(set2_f _).1, (set2_f _).2.1⟩
  · have hd : F (cls M) ≠ 0 → x ≠ F (cls M) + 1 := fun e q => by
      obtain ⟨r, r1, r2, r3, r4, r5, r6, r7, r8⟩ := fq e
      have b := hb r r1 r2
      have b1 := b.1
      exact b.2.2.1 x (by omega) (by unfold Nx; omega) hx
    have e1 : lndW W m F a M x = W x := by
      rcases h.far hx hxa with z | z
      · exact lf_o (by omega) (by omega) (by omega) (by omega) e hd
      · exact lf_o (by omega) (by omega) (by omega) (by omega) e hd
    rw [e1]; exact ⟨rfl, rfl⟩
theorem HI.tkWF2 {W : Nat → Nat} {m : Nat} {F : Nat → Nat} {S : Nat → Prop} {a M p n : Nat} (h : HI W m F S a M p) (hn : 3 ≤ n) (hnM : n ≤ M) : ∃ S' : Nat → Prop, WF (tkW W m F a M n p) m (tkF F a M n) S' ∧ (∀ x, S x → S' x) ∧ (∀ x, S x → x ≠ a → tkW W m F a M n p x / 4 = W x / 4 ∧ tkW W m F a M n p x % 2 = W x % 2) ∧ tkW W m F a M n p a % 2 = 0 ∧ n ≤ tkW W m F a M n p a / 4 := by
  have g6 := h.1.2.2.2.2.2.1
  have g7 := h.1.2.2.2.2.2.2
  unfold tkW tkF
  by_cases e : M < n + 4
  · rw [if_pos e, if_pos e]
    refine ⟨S, h.used, fun _ z => z, fun x hx hxa => ?_, by rw [us_a]; omega, by rw [us_a]; omega⟩
    by_cases q : x = a + 1 + M
    · subst q; rw [us_b (g7 _ hx)]; exact ⟨(clr2_f _).1, (clr2_f _).2.1⟩
    · rw [us_out hxa q]; exact ⟨rfl, rfl⟩
  · rw [if_neg e, if_neg e]
    have c := h.cut hn (by omega)
    have ca := c.freeHd (x := a) (Or.inl h.2.1.2.2.1) (by omega)
    rw [un_s] at ca
    refine ⟨_, c.free, fun _ z => Or.inl z, fun x hx hxa => ?_, by rw [ca.2]; omega, by rw [ca.1]; omega⟩
    have xr : x ≠ a + n + 1 := fun q => h.2.1.2.2.2.1 x (by omega) (by omega) hx
    have := c.freeHd (x := x) (Or.inl hx) xr
    rw [un_n hxa] at this
    exact this
theorem tt_cutTk {N : Nat} {u : TS} {W F : Nat → Nat} {m : Nat} {sc : SC} {S : Nat → Prop} {a M n p : Nat} {P : TS → Prop} (hR : Rc u.1 (usW W m a M p) m F sc) (hI : HI W m F S a M p) (hn : 3 ≤ n) (hnM : n ≤ M) (H : ∀ u1 : TS, Rc u1.1 (tkW W m F a M n p) m (tkF F a M n) (tkC sc M n) → P u1) : w_X4_cutTo N u (nI a) (nI n) P := by
  refine tt_cutTo hR hI.usHole us_a hn hnM (fun lt => H u ?_) (fun ge u1 r1 => H u1 ?_)
  · unfold tkW tkF tkC; rw [if_pos lt, if_pos lt, if_pos lt]; exact hR
  · unfold tkW tkF tkC; rw [if_neg (by omega), if_neg (by omega), if_neg (by omega)]
    refine r1.congr (fun j _ => ?_) (fun _ _ => rfl)
    have hbb : a + n + 1 + 1 + (M - n - 1) = a + 1 + M := by omega
    refine lnd_same (by omega) (fun j j1 j2 => ?_) (fun z => ?_) (fun z => ?_) j
    · rw [hbb] at j2
      by_cases ja : j = a
      · rw [ja, un_s, un_s]
      · rw [un_n ja, un_n ja]; exact us_out ja j2
    · rw [hbb] at z ⊢
      rw [un_n (by omega), un_n (by omega), us_b z]; exact set_clr _
    · rw [hbb] at z ⊢
      rw [un_n (by omega), un_n (by omega), us_b2 z]
/-- a used block becomes two used ones -/
theorem WF.cutUsed {W : Nat → Nat} {m : Nat} {F : Nat → Nat} {S : Nat → Prop} (h : WF W m F S) {a n M p : Nat} (sa : S a) (hWa : W a = 4 * M + 2 * p) (hp : p < 2) (hn : 3 ≤ n) (hM : n + 4 ≤ M) : WF (un (un W a (4 * n + 2 * p)) (a + n + 1) (4 * (M - n - 1) + 0)) m F (fun x => S x ∨ x = a + n + 1) := by
  obtain ⟨⟨g1, g2, g3, g4, g5⟩, hb, hfl, hl⟩ := id h
  obtain ⟨a1, a2, a3, a4, a5⟩ := hb a sa
  have hNa : Nx W a = a + 1 + M := by unfold Nx; rw [hWa]; omega
  rw [hNa] at a2 a3 a4
  have ua : W a % 2 = 0 := by omega
  have nr : ∀ x, S x → x ≠ a + n + 1 := fun x hx e => a3 x (by omega) (by omega) hx
  generalize hW2 : un (un W a (4 * n + 2 * p)) (a + n + 1) (4 * (M - n - 1) + 0) = W2
  have er : W2 (a + n + 1) = 4 * (M - n - 1) := by rw [← hW2, un_s]; rfl
  have ea : W2 a = 4 * n + 2 * p := by rw [← hW2, un_n (by omega), un_s]
  have eo : ∀ j, j ≠ a → j ≠ a + n + 1 → W2 j = W j := fun j j1 j2 => by rw [← hW2, un_n j2, un_n j1]
  have nxa : Nx W2 a = a + n + 1 := by unfold Nx; rw [ea]; omega
  have nxr : Nx W2 (a + n + 1) = a + 1 + M := by unfold Nx; rw [er]; omega
  have far : ∀ x, S x → x ≠ a → (x < a ∧ Nx W x ≤ a) ∨ a + 1 + M ≤ x := fun x hx hxa => by
    rcases Nat.lt_trichotomy x a with z | z | z
    · exact Or.inl ⟨z, (h.apart hx sa z).1⟩
    · exact absurd z hxa
    · have := (h.apart sa hx z).1; rw [hNa] at this; exact Or.inr this
  have out : ∀ x, S x → x ≠ a → ∀ j, j ≤ W x / 4 → W2 (x + j) = W (x + j) := fun x hx hxa j hj => by
    rcases far x hx hxa with z | z
    · have := z.2; unfold Nx at this; exact eo _ (by omega) (by omega)
    · exact eo _ (by omega) (by omega)
  have hd : ∀ x, S x → x ≠ a → W2 x = W x := fun x hx hxa => out x hx hxa 0 (by omega)
  have nx : ∀ x, S x → x ≠ a → Nx W2 x = Nx W x := fun x hx hxa => by unfold Nx; rw [hd x hx hxa]
  refine ⟨⟨g1, g2, Or.inl g3, ?_, fun x hx => ?_⟩, fun x hx => ?_, fun x hx => ?_, ?_⟩
  · by_cases e : a = 0
    · subst e; rw [ea]; omega
    · rw [hd 0 g3 (fun q => e q.symm)]; exact g4
  · rcases hx with hx | hx
    · exact g5 x hx
    · omega
  · by_cases e : x = a
    · subst e
      refine ⟨by rw [ea]; omega, by rw [nxa]; omega, fun j j1 j2 j3 => ?_, fun _ => by rw [nxa]; exact Or.inr rfl, fun z => by rw [ea] at z; omega⟩
      rw [nxa] at j2
      rcases j3 with j3 | j3
      · exact a3 j j1 (by omega) j3
      · omega
    · by_cases e2 : x = a + n + 1
      · subst e2
        refine ⟨by rw [er]; omega, by rw [nxr]; omega, fun j j1 j2 j3 => ?_, fun z => by rw [nxr] at z ⊢; exact Or.inl (a4 z), fun z => by rw [er] at z; omega⟩
        rw [nxr] at j2
        rcases j3 with j3 | j3
        · exact a3 j (by omega) (by omega) j3
        · omega
      · have hx : S x := hx.resolve_right e2
        have b := hb x hx
        refine b.congr (hd x hx e) (fun _ => out x hx e _ (Nat.le_refl _)) (fun j j1 j2 j3 => j3.resolve_right (fun q => ?_)) (fun z => Or.inl (b.2.2.2.1 z))
        rcases far x hx e with z | z
        · omega
        · omega
  · by_cases e : x = a
    · subst e
      rw [nxa, ea, er]
      exact fun _ => by omega
    · by_cases e2 : x = a + n + 1
      · subst e2
        rw [nxr, er]
        intro z
        have := hfl a sa (by rw [hNa]; exact z)
        rw [hNa] at this
        rw [hd _ (a4 z) (by omega), this]; omega
      · have hx : S x := hx.resolve_right e2
        rw [nx x hx e, hd x hx e]
        intro z
        have k := hfl x hx z
        by_cases q : Nx W x = a
        · rw [q] at k ⊢
          rw [ea]; omega
        · rw [hd _ ((hb x hx).2.2.2.1 z) q]; exact k
  · have fa : ∀ x, S x ∧ W x % 2 = 1 → x ≠ a := fun x hx e => by subst e; omega
    refine hl.congr (fun x hx => ⟨out x hx.1 (fa x hx) 1 (by have := (hb x hx.1).1; omega), out x hx.1 (fa x hx) 2 (by have := (hb x hx.1).1; omega)⟩) (fun _ _ => rfl) (fun x => ?_) (fun x hx => by rw [hd x hx.1 (fa x hx)])
    constructor
    · rintro ⟨z1, z2⟩
      rcases z1 with z1 | z1
      · by_cases e : x = a
        · subst e; rw [ea] at z2; omega
        · rw [hd x z1 e] at z2; exact ⟨z1, z2⟩
      · subst z1; rw [er] at z2; omega
    · rintro z
      exact ⟨Or.inl z.1, by rw [hd x z.1 (fa x z)]; exact z.2⟩
theorem lv_pt {W W2 : Nat → Nat} {b j : Nat} (h1 : W2 (b + 1) = W (b + 1)) (h2 : W2 (b + 2) = W (b + 2)) (hj : W2 j = W j) : lvW W2 b j = lvW W b j := by
  have e1 : lv1 W2 b j = lv1 W b j := by
    unfold lv1
    rw [h2, h1]
    split
    · exact hj
    · unfold un; rw [hj]
  unfold lvW
  rw [h1]
  split
  · exact e1
  · unfold un; rw [e1, h2]
/-- the class's cut of a used block, whatever is behind it -/
theorem tt_cutTo2 {N : Nat} {u : TS} {W F : Nat → Nat} {m : Nat} {sc : SC} {S : Nat → Prop} {a n M p : Nat} {P : TS → Prop} (hR : Rc u.1 W m F sc) (hW : WF W m F S) (sa : S a) (hWa : W a = 4 * M + 2 * p) (hp : p < 2) (hn : 3 ≤ n) (hnM : n ≤ M)
    (H0 : M < n + 4 → P u)
    (H1 : n + 4 ≤ M → ¬ raB W m a → ∀ u1 : TS, Rc u1.1 (tkW W m F a M n p) m (tkF F a M n) (tkC sc M n) → P u1)
    (H2 : n + 4 ≤ M → raB W m a → ∀ u1 : TS, Rc u1.1 (tkW (lvW W (a + 1 + M)) m (lvF W F (a + 1 + M)) a (M + 1 + W (a + 1 + M) / 4) n p) m (tkF (lvF W F (a + 1 + M)) a (M + 1 + W (a + 1 + M) / 4) n) (tkC (sc.1 + 1, sc.2) (M + 1 + W (a + 1 + M) / 4) n) → P u1) : w_X4_cutTo N u (nI a) (nI n) P := by
  have hm := hR.2.2.2.2
  obtain ⟨⟨g1, g2, g3, g4, g5⟩, hb, hfl, hl⟩ := id hW
  have am := g5 a sa
  have hNa : Nx W a = a + 1 + M := by unfold Nx; rw [hWa]; omega
  have nm := (hb a sa).2.1
  have a4 := (hb a sa).2.2.2.1
  rw [hNa] at nm a4
  unfold w_X4_cutTo
  refine tt_bodyOf hR am (by rw [hWa]; omega) ?_
  rw [hWa, show (4 * M + 2 * p) / 4 = M by omega, pk_sub hnM]
  refine b_lt (b := 4) (by omega) (by decide) (fun e => H0 (by omega)) (fun e => ?_)
  have hM : n + 4 ≤ M := by omega
  refine tt_layBody hR am (by omega) (by rw [hWa]; omega) (fun u1 r1 => ?_)
  rw [hWa, show (4 * M + 2 * p) % 4 = 2 * p by omega] at r1
  refine tt_behind r1 am (by rw [un_s]; omega) ?_
  rw [un_s, show a + 1 + (4 * n + 2 * p) / 4 = a + n + 1 by omega, show nI (M - n) - (1 : Int32) = nI (M - n - 1) from pk_sub (b := 1) (by omega), show (0 : Int32) = nI 0 from rfl]
  refine tt_layHeader r1 (by omega) (by omega) (by decide) (fun u2 r2 => ?_)
  have k := hW.cutUsed sa hWa hp hn hM
  generalize hW2 : un (un W a (4 * n + 2 * p)) (a + n + 1) (4 * (M - n - 1) + 0) = W2 at r2 k
  have er : W2 (a + n + 1) = 4 * (M - n - 1) := by rw [← hW2, un_s]; rfl
  have ea : W2 a = 4 * n + 2 * p := by rw [← hW2, un_n (by omega), un_s]
  have eo : ∀ j, j ≠ a → j ≠ a + n + 1 → W2 j = W j := fun j j1 j2 => by rw [← hW2, un_n j2, un_n j1]
  have nxr : Nx W2 (a + n + 1) = a + 1 + M := by unfold Nx; rw [er]; omega
  have r4 : W2 (a + n + 1) / 4 = M - n - 1 := by rw [er]; omega
  have r2' : W2 (a + n + 1) / 2 % 2 = 0 := by rw [er]; omega
  have raE : raB W2 m (a + n + 1) ↔ raB W m a := by
    unfold raB; rw [nxr, hNa, eo (a + 1 + M) (by omega) (by omega)]
  have hA := rel_A k (Or.inr rfl) (show W2 (a + n + 1) % 2 = 0 by rw [er]; omega)
  refine tt_release r2 (by omega) (by rw [er]; omega) (by rw [nxr]; exact nm) hA (fun z => by rw [nxr] at z ⊢; exact (k.2.1 _ (Or.inl (a4 z))).lt hm) (fun nr u3 r3 => ?_) (fun yr u3 r3 => ?_)
  · refine H1 hM (fun z => nr (raE.mpr z)) u3 ?_
    rw [r4, r2'] at r3
    unfold rbW rbF rbC at r3
    rw [if_pos rfl, if_pos rfl, if_pos rfl] at r3
    unfold tkW tkF tkC
    rw [if_neg (by omega), if_neg (by omega), if_neg (by omega)]
    refine r3.congr (fun j _ => ?_) (fun _ _ => rfl)
    refine lnd_same (by omega) (fun j j1 j2 => ?_) (fun z => ?_) (fun z => ?_) j
    · rw [← hW2, un_n j1]
    · rw [← hW2, un_n (by omega)]
    · rw [← hW2, un_n (by omega)]
  · have yr' := raE.mp yr
    refine H2 hM yr' u3 ?_
    have yl : a + 1 + M < m := by rw [← hNa]; exact yr'.1
    have yf : W (a + 1 + M) % 2 = 1 := by rw [← hNa]; exact yr'.2
    have sx := a4 yl
    have c4 := (hb _ sx).1
    have c5 := (hb _ sx).2.1
    unfold Nx at c5
    rw [r4, r2', nxr, eo (a + 1 + M) (by omega) (by omega)] at r3
    unfold rbW rbF rbC at r3
    rw [if_pos rfl, if_pos rfl, if_pos rfl] at r3
    unfold tkW tkF tkC
    rw [if_neg (by omega), if_neg (by omega), if_neg (by omega)]
    have x0 := eo (a + 1 + M) (by omega) (by omega)
    have x1 := eo (a + 1 + M + 1) (by omega) (by omega)
    have x2 := eo (a + 1 + M + 2) (by omega) (by omega)
    have lF : lvF W2 F (a + 1 + M) = lvF W F (a + 1 + M) := by unfold lvF; rw [x0, x1, x2]
    rw [lF, show M - n - 1 + 1 + W (a + 1 + M) / 4 = M + 1 + W (a + 1 + M) / 4 - n - 1 by omega] at r3
    refine r3.congr (fun j _ => ?_) (fun _ _ => rfl)
    have pt : ∀ j, j ≠ a + n + 1 → lvW W2 (a + 1 + M) j = un (lvW W (a + 1 + M)) a (4 * n + 2 * p) j := fun j hj => by
      by_cases ja : j = a
      · subst ja
        rw [un_s, ← ea]
        refine lv_hd k.2.2.2 ⟨Or.inl sx, by rw [x0]; exact yf⟩ (fun x hx => ?_)
        rcases Nat.lt_trichotomy x j with z | z | z
        · have := (k.apart hx.1 (Or.inl sa) z).2; omega
        · subst z; have := hx.2; rw [ea] at this; omega
        · omega
      · rw [un_n ja]; exact lv_pt x1 x2 (eo j ja hj)
    exact lnd_same (by omega) (fun j j1 _ => pt j j1) (fun _ => by rw [pt _ (by omega)]) (fun _ => pt _ (by omega)) j
/-- words are copied from a's block into t's -/
def cpW (W : Nat → Nat) (a t : Nat) : Nat → Nat → Nat
  | 0 => W
  | k + 1 => un (cpW W a t k) (t + 1 + k) (cpW W a t k (a + 1 + k))
theorem WF.copy {W : Nat → Nat} {m : Nat} {F : Nat → Nat} {S : Nat → Prop} (h : WF W m F S) {a t : Nat} (st : S t) (ut : W t % 2 = 0) : ∀ k, k ≤ W t / 4 → WF (cpW W a t k) m F S ∧ ∀ x, S x → cpW W a t k x = W x := by
  intro k
  induction k with
  | zero => exact fun _ => ⟨h, fun _ _ => rfl⟩
  | succ k ih =>
    intro hk
    obtain ⟨i1, i2⟩ := ih (by omega)
    have et := i2 t st
    have w := i1.write (a := t) (k := k + 1) (y := cpW W a t k (a + 1 + k)) st (by rw [et]; exact ut) (by omega) (by rw [et]; exact hk)
    rw [show t + (k + 1) = t + 1 + k by omega] at w
    refine ⟨w, fun x hx => ?_⟩
    show un _ _ _ x = _
    rw [un_n (fun e => ?_)]
    · exact i2 x hx
    · exact (h.2.1 t st).2.2.1 x (by omega) (by unfold Nx; omega) hx
theorem tt_copy_L {N : Nat} {P : TS → Prop} {W F : Nat → Nat} {m : Nat} {sc : SC} {a t M : Nat} (ha : a + M < m) (ht : t + M < m) (hm : m ≤ 2048) (H : ∀ u1 : TS, Rc u1.1 (cpW W a t M) m F sc → P u1) : ∀ (j k fuel : Nat) (u : TS), k + j = M → j < fuel → Rc u.1 (cpW W a t k) m F sc → w_X4_copyBody_18 N P fuel u (nI a) (nI t) (nI M) (nI (k + 1)) := by
  intro j
  induction j with
  | zero =>
    intro k fuel u hk hf hR
    match fuel, hf with
    | fuel + 1, _ =>
      have e : k = M := by omega
      subst e
      rw [w_X4_copyBody_18]
      exact b_lt (by omega) (by omega) (fun _ => H u hR) (fun z => by omega)
  | succ j ih =>
    intro k fuel u hk hf hR
    match fuel, hf with
    | fuel + 1, hf =>
      rw [w_X4_copyBody_18]
      refine b_lt (by omega) (by omega) (fun z => by omega) (fun _ => ?_)
      rw [nI_add, nI_add, show a + (k + 1) = a + 1 + k by omega, show t + (k + 1) = t + 1 + k by omega, nI_1]
      refine tt_at hR (by omega) ?_
      exact tt_lay hR (by omega) rfl (fun u1 r1 => ih (k + 1) fuel u1 (by omega) (by omega) r1)
theorem tt_copyBody {N : Nat} {u : TS} {P : TS → Prop} {W F : Nat → Nat} {m : Nat} {sc : SC} {a t M : Nat} (hN : 3000 ≤ N) (hR : Rc u.1 W m F sc) (hM : W a / 4 = M) (hw : W a < 8192) (ha : a + M < m) (ht : t + M < m) (H : ∀ u1 : TS, Rc u1.1 (cpW W a t M) m F sc → P u1) : w_X4_copyBody N u (nI a) (nI t) P := by
  have hm := hR.2.2.2.2
  unfold w_X4_copyBody
  refine tt_bodyOf hR (by omega) (by omega) ?_
  rw [hM, if_neg (show ¬ (2048 : Int32) < nI M from fun z => by have := (nI_ltI (a := 2048) (b := M) (by decide) (by omega)).mp z; omega)]
  exact tt_copy_L ha ht hm H M 0 N u (by omega) (by omega) hR
theorem mm_copy_L {N : Nat} {P : MS → Int32 → Prop} {W F : Nat → Nat} {m : Nat} {sc : SC} {a t M : Nat} (ha : a + M < m) (ht : t + M < m) (hm : m ≤ 2048) (H : ∀ v1 : MS, Rc v1.1 (cpW W a t M) m F sc → w_X5_release N v1 (nI (a + 1)) fun u13 _ => P u13 (nI (t + 1))) : ∀ (j k fuel : Nat) (v : MS), k + j = M → j < fuel → Rc v.1 (cpW W a t k) m F sc → w_X5_moved_52 N P fuel v (nI (a + 1)) (nI M) (nI (t + 1)) (nI k) := by
  intro j
  induction j with
  | zero =>
    intro k fuel v hk hf hR
    match fuel, hf with
    | fuel + 1, _ =>
      have e : k = M := by omega
      subst e
      rw [w_X5_moved_52]
      exact b_lt (by omega) (by omega) (fun z => by omega) (fun _ => H v hR)
  | succ j ih =>
    intro k fuel v hk hf hR
    match fuel, hf with
    | fuel + 1, hf =>
      rw [w_X5_moved_52]
      refine b_lt (by omega) (by omega) (fun _ => ?_) (fun z => by omega)
      rw [nI_add, nI_add, nI_1, nI_clamp (by omega : a + 1 + k < 2 ^ 31), nI_clamp (by omega : t + 1 + k < 2 ^ 31), hR.1 (a + 1 + k) (by omega)]
      refine ⟨vp_in_nI (by omega) (by decide), vp_in_nI (by omega) (by decide), ?_⟩
      exact ih (k + 1) fuel _ (by omega) (by omega) (hR.put _ _)
