set_option maxHeartbeats 4000000 in
set_option maxRecDepth 100000 in
/-- the law's entry: the constructors, then its loop -/
theorem whole_of {p : Program} {e : Env} {s : State} {m : MethodId} {below : List Frame} {meth : Method} {c : Code} (l : Launch) {b L : Nat} {xs : Nat → Int32} (C0 : lw_At p s m meth c b L xs) (N n : Nat) (PT : TS → Prop) (PM : MS → Prop) (HT : w_X4_begin N uT0 64 PT) (HM : w_X5_lay N uM0 64 PM) (HW : ∀ u v, PT u → PM v → w_law N xs L n u v 0) : W p l e room_1 s m #[Value.ref b] below meth c s.heap [] 0 0 (lw_Z below #[Value.ref b] s) (entryFrame m ([Value.ref b] : List Value).toArray 4) := by
  obtain ⟨hx, hb, hr, hml, hown, hts1, hX, hbl, hlocks, hgv⟩ := id C0
  have hts : ∀ w ∈ zT, w.before #[Value.ref b] s = true := fun w hw => hts1 w (zT_in w hw)
  have hown : s.vm.findClass RL = some m.cls := hown
  have hA : ∀ q : Nat, s.heap.size ≤ q → (fun q : Nat => s.heap.size ≤ q) q := fun _ h => h
  obtain ⟨c0, i0, k0⟩ := u_known (C := RX0) (T := TX0) (N := 4) (n := 4) hts us_X0 (hts _ it_X0)
  obtain ⟨c1, i1, k1⟩ := u_known (C := RX2) (T := TX2) (N := 3) (n := 3) hts us_X2 (hts _ it_X2)
  obtain ⟨c2, i2, k2⟩ := u_known (C := RX3) (T := TX3) (N := 2) (n := 2) hts us_X3 (hts _ it_X3)
  obtain ⟨c3, i3, k3⟩ := u_known (C := RX4) (T := TX4) (N := 5) (n := 5) hts us_X4 (hts _ it_X4)
  obtain ⟨c4, i4, k4⟩ := u_known (C := RX5) (T := TX5) (N := 9) (n := 9) hts us_X5 (hts _ it_X5)
  obtain ⟨dC, dI, hKc⟩ : ∃ (dC : Nat → ClassId) (dI : Nat → Nat → Nat), ∀ (k : Nat) (q : vw_C), vwCl[k]? = some q → u_Kn s q.1 q.2.1 q.2.2 (dC k) (dI k) := by
    refine ⟨fun k => if k = 0 then c0 else if k = 1 then c1 else if k = 2 then c2 else if k = 3 then c3 else c4, fun k => if k = 0 then i0 else if k = 1 then i1 else if k = 2 then i2 else if k = 3 then i3 else i4, ?_⟩
    intro k q hq
    match k, hq with
    | 0, hq => cases hq; exact k0
    | 1, hq => cases hq; exact k1
    | 2, hq => cases hq; exact k2
    | 3, hq => cases hq; exact k3
    | 4, hq => cases hq; exact k4
    | k + 5, hq => simp [vwCl] at hq
  obtain ⟨cI, kI, cpI, fI1, fI2, fI3⟩ := Cond.arrayClass_spec (hts _ ac_int)
  obtain ⟨cJ, kJ, cpJ, fJ1, fJ2, fJ3⟩ := Cond.arrayClass_spec (hts _ ac_long)
  obtain ⟨cZ, kZ, cpZ, fZ1, fZ2, fZ3⟩ := Cond.arrayClass_spec (hts _ ac_boolean)
  obtain ⟨κ, hκ⟩ : ∃ κ : zK, κ = ((dC, dI), cI, cJ, cZ) := ⟨_, rfl⟩
  have hK : va_K κ.1 vwCl (zty κ) s := by
    subst hκ
    refine ⟨hKc, fun k q hq => ?_⟩
    match k, hq with
    | 0, hq => cases hq; exact ⟨fun n z => ⟨fun k h => (by cases h), kI, fI2, cpI, fI3⟩, fI1⟩
    | 1, hq => cases hq; exact ⟨fun n z => ⟨fun k h => (by cases h), kJ, fJ2, cpJ, fJ3⟩, fJ1⟩
    | 2, hq => cases hq; exact ⟨fun n z => ⟨fun k h => (by cases h), kZ, fZ2, cpZ, fZ3⟩, fZ1⟩
    | k + 3, hq => simp [zty] at hq
  clear hκ
  have hN : zN s := ⟨va_Nw.of rfl (hts1 _ (List.mem_append_right _ (List.mem_append_left _ (List.mem_of_getElem? (l := tables_1_1) (i := 26) (by decide +kernel))))), va_Nw.of rfl (hts1 _ (List.mem_append_right _ (List.mem_append_left _ (List.mem_of_getElem? (l := tables_1_1) (i := 27) (by decide +kernel))))), va_Nw.of rfl (hts1 _ (List.mem_append_right _ (List.mem_append_left _ (List.mem_of_getElem? (l := tables_1_1) (i := 43) (by decide +kernel))))), va_Nw.of rfl (hts1 _ (List.mem_append_right _ (List.mem_append_left _ (List.mem_of_getElem? (l := tables_1_1) (i := 62) (by decide +kernel))))), va_Nw.of rfl (hts1 _ (List.mem_append_right _ (List.mem_append_left _ (List.mem_of_getElem? (l := tables_1_1) (i := 20) (by decide +kernel))))), va_Nw.of rfl (hts1 _ (List.mem_append_right _ (List.mem_append_left _ (List.mem_of_getElem? (l := tables_1_1) (i := 193) (by decide +kernel)))))⟩
  have hS : va_S (fun q : Nat => s.heap.size ≤ q) s.heap s.heap [] := va_S.rf
  have hP : va_P κ.1 vwCl [] s.heap := fun k q h => by simp at h
  have hD : va_D (fun q : Nat => s.heap.size ≤ q) [] := ⟨fun i j p q h => by simp at h, fun k q h => by simp at h⟩
  have hl := lv_entry ([.ref b]) (n := 4) (Nat.le_of_ble_eq_true rfl)
  rw [lg_entry_eq]
  generalize (lg_sl ([.ref b]) ++ List.replicate (4 - (lg_sl ([.ref b])).length) Slot.unset).toArray = ls at hl ⊢
  have hl : lv_has ls 4 [(0, .ref b)] := hl
  refine va_new (ci := 3) (fs := [.null, .null, .null, .int 0, .int 0]) (C := RX4) (T := TX4) (N := 5) hx hb hts us_X4 tyX4 tyX4_ok hown (hts _ cl_L_7) (hts _ it_X4) (hts _ in_X4) hK hP hD hS hA rfl (fun j hj => by rcases (show j = 0 ∨ j = 1 ∨ j = 2 ∨ j = 3 ∨ j = 4 by omega) with rfl | rfl | rfl | rfl | rfl <;> rfl) (Nat.le_of_ble_eq_true rfl) (Nat.le_of_ble_eq_true rfl) dL_law_0 (fun h0 H hP hD hS => ?_)
  have hP : va_P κ.1 vwCl [(h0, .inr (3, [.null, .null, .null, .int 0, .int 0]))] H := hP
  have hD : va_D (fun q : Nat => s.heap.size ≤ q) [(h0, .inr (3, [.null, .null, .null, .int 0, .int 0]))] := hD
  refine W.widen (k := 1) (n := 5) (Nat.le_of_ble_eq_true rfl) (Nat.le_of_ble_eq_true rfl) ?_
  refine lv_dup hx hb dL_law_3 rfl ?_
  have hFc := va_free (wc := [(h0, .inr (3, [.null, .null, .null, .int 0, .int 0]))]) hD hS hA [0] rfl
  refine va_callv (va_runI (As := []) (rest := [.ref h0]) ⟨hx, hb, hml, hown, hts⟩ (c_X4_init l κ N PT HT h0 H.size) ⟨callB_of 0 hts (zT_code cd_X4_init) rfl rfl rfl (hts _ in_X4) (hts _ ml_L_9) (by decide +kernel) ⟨Nat.le_of_ble_eq_true rfl, Nat.le_of_ble_eq_true rfl⟩, rfl, hts _ im_X4_init⟩ ⟨fun a U g mk q => ⟨q.1, q.2.1, q.2.2.1, va_K.moved (u := U) (U := U.calling g mk a) (Vm.Alike.refl U.vm) q.2.2.2.1, q.2.2.2.2.1, zN.same rfl q.2.2.2.2.2⟩, fun U hU hW => ⟨rfl, by rw [hU], by rw [hU]; exact hP, va_K.moved hW.alike hK, hD.weaken (fun _ _ _ _ => trivial), hN.warm hW⟩⟩ rfl rfl hl.1 rfl (lv_room (Nat.le_of_ble_eq_true rfl)) dL_law_4 ⟨Nat.le_of_ble_eq_true rfl, Nat.le_of_ble_eq_true rfl⟩) hS (fun q _ h => hFc q h) hFc (fun zT1 t H1 locs ht hvm hw hB hz1 hk1 hS => ?_)
  obtain ⟨h, u⟩ := zT1
  obtain ⟨hh0, hPT⟩ := hw
  have hh0 : h.1 = h0 := hh0
  obtain ⟨hP1, hD1⟩ := hB
  rw [ht] at hP1
  have hDu : va_D (fun q : Nat => s.heap.size ≤ q) (wT κ h u) := hD1.weaken (fun k q _ hq => hFc q.1 hq)
  have hPu : va_P κ.1 vwCl (wT κ h u) H1 := hP1
  subst hh0
  clear hFc hk1 hD1 hD hz1 hP1 ht hP
  refine W.widen (k := 7) (n := 4182) (Nat.le_of_ble_eq_true rfl) (Nat.le_of_ble_eq_true rfl) ?_
  refine lv_astore_n (lv' := [(1, .ref h.1), (0, .ref b)]) hx hb dL_law_7 rfl hl (by decide) rfl (fun ls hl => ?_)
  refine va_new (ci := 4) (fs := [.null, .int 0, .null, .int 0, .int 0, .int 0, .int 0, .null, .null]) (C := RX5) (T := TX5) (N := 9) hx hb hts us_X5 tyX5 tyX5_ok hown (hts _ cl_L_10) (hts _ it_X5) (hts _ in_X5) hK hPu hDu hS hA rfl (fun j hj => by rcases (show j = 0 ∨ j = 1 ∨ j = 2 ∨ j = 3 ∨ j = 4 ∨ j = 5 ∨ j = 6 ∨ j = 7 ∨ j = 8 by omega) with rfl | rfl | rfl | rfl | rfl | rfl | rfl | rfl | rfl <;> rfl) (Nat.le_of_ble_eq_true rfl) (Nat.le_of_ble_eq_true rfl) dL_law_8 (fun g0 H hP hD hS => ?_)
  refine W.widen (k := 8) (n := 4191) (Nat.le_of_ble_eq_true rfl) (Nat.le_of_ble_eq_true rfl) ?_
  refine lv_dup hx hb dL_law_11 rfl ?_
  have hPc := hP.sub (ws' := [(g0, .inr (4, [.null, .int 0, .null, .int 0, .int 0, .int 0, .int 0, .null, .null]))]) [7] rfl
  have hDc := hD.sub (ws' := [(g0, .inr (4, [.null, .int 0, .null, .int 0, .int 0, .int 0, .int 0, .null, .null]))]) [7] (by decide) rfl
  have hFc := va_free (wc := [(g0, .inr (4, [.null, .int 0, .null, .int 0, .int 0, .int 0, .int 0, .null, .null]))]) hD hS hA [7] rfl
  refine va_callv (va_runI (As := []) (rest := [.ref g0]) ⟨hx, hb, hml, hown, hts⟩ (c_X5_init l κ N PM HM g0 H.size) ⟨callB_of 0 hts (zT_code cd_X5_init) rfl rfl rfl (hts _ in_X5) (hts _ ml_L_12) (by decide +kernel) ⟨Nat.le_of_ble_eq_true rfl, Nat.le_of_ble_eq_true rfl⟩, rfl, hts _ im_X5_init⟩ ⟨fun a U g mk q => ⟨q.1, q.2.1, q.2.2.1, va_K.moved (u := U) (U := U.calling g mk a) (Vm.Alike.refl U.vm) q.2.2.2.1, q.2.2.2.2.1, zN.same rfl q.2.2.2.2.2⟩, fun U hU hW => ⟨rfl, by rw [hU], by rw [hU]; exact hPc, va_K.moved hW.alike hK, hDc.weaken (fun _ _ _ _ => trivial), hN.warm hW⟩⟩ rfl rfl hl.1 rfl (lv_room (Nat.le_of_ble_eq_true rfl)) dL_law_12 ⟨Nat.le_of_ble_eq_true rfl, Nat.le_of_ble_eq_true rfl⟩) hS (fun q _ h => hFc q h) hFc (fun zM1 t H1 locs ht hvm hw hB hz1 hk1 hS => ?_)
  obtain ⟨k, v⟩ := zM1
  obtain ⟨hh0, hPM⟩ := hw
  have hh0 : k.1 = g0 := hh0
  obtain ⟨hP1, hD1⟩ := hB
  rw [ht] at hP1
  obtain ⟨hPj, hDj⟩ := va_join (wr := wT κ h u) (w1 := wM κ k v) hP hD [7] [0, 1, 2, 3, 4, 5, 6] rfl rfl (by decide) (by decide) hk1 hFc hP1 hD1
  have hPT1 : va_P κ.1 vwCl (wT κ h u) H1 := hPj.sub [0, 1, 2, 3, 4, 5, 6] rfl
  subst hh0
  refine W.widen (k := 12) (n := 10409) (Nat.le_of_ble_eq_true rfl) (Nat.le_of_ble_eq_true rfl) ?_
  refine lv_astore_n (lv' := [(2, .ref k.1), (1, .ref h.1), (0, .ref b)]) hx hb dL_law_15 rfl hl (by decide) rfl (fun ls hl => ?_)
  refine lv_iconst (v := 0) hx hb dL_law_16 (by decide) ?_
  refine lv_istore_n (lv' := [(3, .int 0), (2, .ref k.1), (1, .ref h.1), (0, .ref b)]) hx hb dL_law_17 rfl hl (by decide) rfl (fun ls hl => ?_)
  have hDM : va_D (fun q : Nat => s.heap.size ≤ q) (wM κ k v) := hD1.weaken (fun j q _ hq => hFc q.1 hq)
  have memT : ∀ q, q ∈ hsT h → ∃ (j : Nat) (x : Nat × va_E), (wT κ h u)[j]? = some x ∧ x.1 = q := fun q hq => by
    obtain ⟨x, hx1, hx2⟩ := List.mem_map.mp (show q ∈ (wT κ h u).map (fun z => z.1) from hq)
    obtain ⟨j, hj⟩ := List.getElem?_of_mem hx1
    exact ⟨j, x, hj, hx2⟩
  have memM : ∀ q, q ∈ hsM k → ∃ (j : Nat) (x : Nat × va_E), (wM κ k v)[j]? = some x ∧ x.1 = q := fun q hq => by
    obtain ⟨x, hx1, hx2⟩ := List.mem_map.mp (show q ∈ (wM κ k v).map (fun z => z.1) from hq)
    obtain ⟨j, hj⟩ := List.getElem?_of_mem hx1
    exact ⟨j, x, hj, hx2⟩
  have X : zLC (p, l, e, room_1, s, m, #[Value.ref b], below, meth, c) κ h k b L xs := by
    refine ⟨⟨hx, hb, hml, hown, hts⟩, hr, hlocks, hK, hN, rfl, rfl, ⟨zDT.of hDu, zDM.of hDM⟩, ⟨fun q hq => ?_, fun q hq => ?_, fun q hq hq2 => ?_⟩, hX, hbl⟩
    · obtain ⟨j, x, a1, a2⟩ := memT q hq; rw [← a2]; exact hDu.2 j x a1
    · obtain ⟨j, x, a1, a2⟩ := memM q hq; rw [← a2]; exact hDM.2 j x a1
    · obtain ⟨j, x, a1, a2⟩ := memT q hq
      obtain ⟨j2, x2, b1, b2⟩ := memM q hq2
      have l1 : j < 7 := (List.getElem?_eq_some_iff.mp a1).1
      have e1 : (wT κ h u ++ wM κ k v)[j]? = some x := by rw [List.getElem?_append_left (show j < (wT κ h u).length from l1)]; exact a1
      have e2 : (wT κ h u ++ wM κ k v)[7 + j2]? = some x2 := by
        rw [List.getElem?_append_right (show (wT κ h u).length ≤ 7 + j2 from Nat.le_add_right 7 j2), show 7 + j2 - (wT κ h u).length = j2 from Nat.add_sub_cancel_left 7 j2]; exact b1
      have := hDj.1 _ _ _ _ e1 e2 (by rw [a2, b2])
      omega
  exact j_law X N n u v 0 (HW u v hPT hPM) H1 _ ls hPT1 hP1 hS (lv_sub hl [3, 2, 1, 0] rfl)
