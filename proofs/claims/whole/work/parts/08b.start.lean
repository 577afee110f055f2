def st_tm (i : Nat) : Term := .string RX6 (r_lit.getD i (0, "")).1
theorem st_arr {s : State} {args : Array Value} {ty : FieldType} (h : (Cond.arrayClass ty).before args s = true) (hra : ∀ cA, s.vm.findClass ("[" ++ ty.toString) = some cA → va_RA s cA ty) : ∃ cA : ClassId, ArrOfT s cA ty ∧ va_RA s cA ty := by
  obtain ⟨cA, kA, comp, h1, h2, h3⟩ := Cond.arrayClass_spec h
  exact ⟨cA, fun n z => ⟨fun k h => (by cases h), kA, h2, comp, h3⟩, hra cA h1⟩
theorem st_arq {s : State} {args : Array Value} {C : String} (h : (Cond.arrayOver (.object C)).before args s = true) : ∃ cA : ClassId, ArrOfT s cA (.object C) ∧ va_RA s cA (.object C) := by
  obtain ⟨comp, cA, kA, h1, h2, h3, h4, h5⟩ := Cond.arrayOver_spec h
  exact ⟨cA, fun n z => ⟨fun k h => (by cases h), kA, h3, comp, h4⟩, kA, comp, h3, h4, h1, h5⟩
set_option maxHeartbeats 4000000 in
set_option maxRecDepth 100000 in
/-- what the Statement's words give at the start: the classes, the arrays' classes, the literals, the JDK's statics -/
theorem st_all {s : State} {b0 : Nat} (hts : ∀ w ∈ lw_tbl, w.before #[Value.ref b0] s = true) (hgv : (Jvm.Cond.and given_1 narrow_1).before #[Value.ref b0] s = true) : ∃ D : RG, r_K D s ∧ r_E D s.heap.size s s.heap := by
  have hfl := flat_of_before _ hgv
  have hA : ∀ a : Nat, a < s.heap.size → ¬ (fun q : Nat => s.heap.size ≤ q) a := fun a h => Nat.not_le.mpr h
  obtain ⟨c0, i0, hKn0⟩ := u_known (C := RX0) (T := TX0) (N := 6) (n := 6) hts (fun w h => wsL_in w (inlX0 w h)) (hts _ (wsL_in _ m_23))
  obtain ⟨c1, i1, hKn1⟩ := u_known (C := RX1) (T := TX1) (N := 12) (n := 12) hts (fun w h => wsL_in w (inlX1 w h)) (hts _ (wsL_in _ m_205))
  obtain ⟨c2, i2, hKn2⟩ := u_known (C := RX2) (T := TX2) (N := 4) (n := 4) hts (fun w h => wsL_in w (inlX2 w h)) (hts _ (wsL_in _ m_51))
  obtain ⟨c3, i3, hKn3⟩ := u_known (C := RX3) (T := TX3) (N := 5) (n := 5) hts (fun w h => wsL_in w (inlX3 w h)) (hts _ (wsL_in _ m_86))
  obtain ⟨c4, i4, hKn4⟩ := u_known (C := RX4) (T := TX4) (N := 4) (n := 4) hts (fun w h => wsL_in w (inlX4 w h)) (hts _ (wsL_in _ m_28))
  obtain ⟨c5, i5, hKn5⟩ := u_known (C := RX5) (T := TX5) (N := 10) (n := 10) hts (fun w h => wsL_in w (inlX5 w h)) (hts _ (wsL_in _ m_48))
  obtain ⟨c6, i6, hKn6⟩ := u_known (C := RX6) (T := TX6) (N := 6) (n := 6) hts (fun w h => wsL_in w (inlX6 w h)) (hts _ (wsL_in _ m_19))
  obtain ⟨c7, i7, hKn7⟩ := u_known (C := RX7) (T := TX7) (N := 15) (n := 15) hts (fun w h => wsL_in w (inlX7 w h)) (hts _ (wsL_in _ m_1))
  obtain ⟨c8, i8, hKn8⟩ := u_known (C := RX8) (T := TX8) (N := 47) (n := 47) hts (fun w h => wsL_in w (inlX8 w h)) (hts _ (wsL_in _ m_4))
  obtain ⟨dC, dI, hKc⟩ : ∃ (dC : Nat → ClassId) (dI : Nat → Nat → Nat), ∀ (k : Nat) (q : vw_C), vwCl[k]? = some q → u_Kn s q.1 q.2.1 q.2.2 (dC k) (dI k) := by
    refine ⟨fun k => if k = 0 then c0 else if k = 1 then c1 else if k = 2 then c2 else if k = 3 then c3 else if k = 4 then c4 else if k = 5 then c5 else if k = 6 then c6 else if k = 7 then c7 else c8, fun k => if k = 0 then i0 else if k = 1 then i1 else if k = 2 then i2 else if k = 3 then i3 else if k = 4 then i4 else if k = 5 then i5 else if k = 6 then i6 else if k = 7 then i7 else i8, ?_⟩
    intro k q hq
    match k, hq with
    | 0, hq => cases hq; exact hKn0
    | 1, hq => cases hq; exact hKn1
    | 2, hq => cases hq; exact hKn2
    | 3, hq => cases hq; exact hKn3
    | 4, hq => cases hq; exact hKn4
    | 5, hq => cases hq; exact hKn5
    | 6, hq => cases hq; exact hKn6
    | 7, hq => cases hq; exact hKn7
    | 8, hq => cases hq; exact hKn8
    | k + 9, hq => simp [vwCl] at hq
  obtain ⟨ai, hai⟩ := st_arr (ty := .int) (hts _ (tb_1 _ (List.mem_of_getElem? (i := 85) rfl))) (fun _ z => z)
  obtain ⟨ab, hab⟩ := st_arr (ty := .byte) (hts _ (tb_1 _ (List.mem_of_getElem? (i := 51) rfl))) (fun _ z => z)
  obtain ⟨az, haz⟩ := st_arr (ty := .boolean) (hts _ (tb_4 _ (List.mem_of_getElem? (i := 82) rfl))) (fun _ z => z)
  obtain ⟨aT, haT⟩ := st_arq (C := RX5) (hts _ (tb_1 _ (List.mem_of_getElem? (i := 120) rfl)))
  obtain ⟨aF, haF⟩ := st_arq (C := RX1) (hts _ (tb_1 _ (List.mem_of_getElem? (i := 24) rfl)))
  have hN : ∀ i : Nat, i < 6 → r_len.getD i 0 < 2 ^ 31 := fun i hi => (j_lit i hi).1
  obtain ⟨adK, adV, hS, hev⟩ := vk_Sof (args := #[Value.ref b0]) (s := s) (N := 6) (tm := st_tm) (len := r_len) (byt := r_byt) (A := fun q : Nat => s.heap.size ≤ q) hN
    (fun i hi => match i, hi with
    | 0, _ => (hfl _ (List.mem_of_getElem? (i := 9) rfl))
    | 1, _ => (hfl _ (List.mem_of_getElem? (i := 40) rfl))
    | 2, _ => (hfl _ (List.mem_of_getElem? (i := 51) rfl))
    | 3, _ => (hfl _ (List.mem_of_getElem? (i := 63) rfl))
    | 4, _ => (hfl _ (List.mem_of_getElem? (i := 18) rfl))
    | 5, _ => (hfl _ (List.mem_of_getElem? (i := 29) rfl))
    | n + 6, hi => absurd hi (by omega))
    (fun i hi => match i, hi with
    | 0, _ => (hfl _ (List.mem_of_getElem? (i := 10) rfl))
    | 1, _ => (hfl _ (List.mem_of_getElem? (i := 41) rfl))
    | 2, _ => (hfl _ (List.mem_of_getElem? (i := 52) rfl))
    | 3, _ => (hfl _ (List.mem_of_getElem? (i := 64) rfl))
    | 4, _ => (hfl _ (List.mem_of_getElem? (i := 19) rfl))
    | 5, _ => (hfl _ (List.mem_of_getElem? (i := 30) rfl))
    | n + 6, hi => absurd hi (by omega))
    (fun i hi => match i, hi with
    | 0, _ => (hfl _ (List.mem_of_getElem? (i := 11) rfl))
    | 1, _ => (hfl _ (List.mem_of_getElem? (i := 42) rfl))
    | 2, _ => (hfl _ (List.mem_of_getElem? (i := 53) rfl))
    | 3, _ => (hfl _ (List.mem_of_getElem? (i := 65) rfl))
    | 4, _ => (hfl _ (List.mem_of_getElem? (i := 20) rfl))
    | 5, _ => (hfl _ (List.mem_of_getElem? (i := 31) rfl))
    | n + 6, hi => absurd hi (by omega))
    (fun i hi => match i, hi with
    | 0, _ => (hfl _ (List.mem_of_getElem? (i := 12) rfl))
    | 1, _ => (hfl _ (List.mem_of_getElem? (i := 43) rfl))
    | 2, _ => (hfl _ (List.mem_of_getElem? (i := 54) rfl))
    | 3, _ => (hfl _ (List.mem_of_getElem? (i := 66) rfl))
    | 4, _ => (hfl _ (List.mem_of_getElem? (i := 21) rfl))
    | 5, _ => (hfl _ (List.mem_of_getElem? (i := 32) rfl))
    | n + 6, hi => absurd hi (by omega))
    (fun i hi => match i, hi with
    | 0, _ => (fun j hj => match j, hj with
      | 0, _ => (hfl _ (List.mem_of_getElem? (i := 13) rfl))
      | 1, _ => (hfl _ (List.mem_of_getElem? (i := 14) rfl))
      | 2, _ => (hfl _ (List.mem_of_getElem? (i := 15) rfl))
      | 3, _ => (hfl _ (List.mem_of_getElem? (i := 16) rfl))
      | 4, _ => (hfl _ (List.mem_of_getElem? (i := 17) rfl))
      | n + 5, hj => absurd hj (by simp [r_len]))
    | 1, _ => (fun j hj => match j, hj with
      | 0, _ => (hfl _ (List.mem_of_getElem? (i := 44) rfl))
      | 1, _ => (hfl _ (List.mem_of_getElem? (i := 45) rfl))
      | 2, _ => (hfl _ (List.mem_of_getElem? (i := 46) rfl))
      | 3, _ => (hfl _ (List.mem_of_getElem? (i := 47) rfl))
      | n + 4, hj => absurd hj (by simp [r_len]))
    | 2, _ => (fun j hj => match j, hj with
      | 0, _ => (hfl _ (List.mem_of_getElem? (i := 55) rfl))
      | 1, _ => (hfl _ (List.mem_of_getElem? (i := 56) rfl))
      | 2, _ => (hfl _ (List.mem_of_getElem? (i := 57) rfl))
      | 3, _ => (hfl _ (List.mem_of_getElem? (i := 58) rfl))
      | n + 4, hj => absurd hj (by simp [r_len]))
    | 3, _ => (fun j hj => match j, hj with
      | 0, _ => (hfl _ (List.mem_of_getElem? (i := 67) rfl))
      | 1, _ => (hfl _ (List.mem_of_getElem? (i := 68) rfl))
      | 2, _ => (hfl _ (List.mem_of_getElem? (i := 69) rfl))
      | 3, _ => (hfl _ (List.mem_of_getElem? (i := 70) rfl))
      | n + 4, hj => absurd hj (by simp [r_len]))
    | 4, _ => (fun j hj => match j, hj with
      | 0, _ => (hfl _ (List.mem_of_getElem? (i := 22) rfl))
      | 1, _ => (hfl _ (List.mem_of_getElem? (i := 23) rfl))
      | 2, _ => (hfl _ (List.mem_of_getElem? (i := 24) rfl))
      | 3, _ => (hfl _ (List.mem_of_getElem? (i := 25) rfl))
      | 4, _ => (hfl _ (List.mem_of_getElem? (i := 26) rfl))
      | 5, _ => (hfl _ (List.mem_of_getElem? (i := 27) rfl))
      | n + 6, hj => absurd hj (by simp [r_len]))
    | 5, _ => (fun j hj => match j, hj with
      | 0, _ => (hfl _ (List.mem_of_getElem? (i := 33) rfl))
      | 1, _ => (hfl _ (List.mem_of_getElem? (i := 34) rfl))
      | 2, _ => (hfl _ (List.mem_of_getElem? (i := 35) rfl))
      | 3, _ => (hfl _ (List.mem_of_getElem? (i := 36) rfl))
      | 4, _ => (hfl _ (List.mem_of_getElem? (i := 37) rfl))
      | n + 5, hj => absurd hj (by simp [r_len]))
    | n + 6, hi => absurd hi (by omega))
    (fun i j hi hj hij => match i, hi, j, hj, hij with
    | 0, _, 0, _, hij => absurd rfl hij
    | 0, _, 1, _, hij => Or.inl (hfl _ (List.mem_of_getElem? (i := 48) rfl))
    | 0, _, 2, _, hij => Or.inl (hfl _ (List.mem_of_getElem? (i := 59) rfl))
    | 0, _, 3, _, hij => Or.inl (hfl _ (List.mem_of_getElem? (i := 71) rfl))
    | 0, _, 4, _, hij => Or.inl (hfl _ (List.mem_of_getElem? (i := 28) rfl))
    | 0, _, 5, _, hij => Or.inl (hfl _ (List.mem_of_getElem? (i := 38) rfl))
    | 1, _, 0, _, hij => Or.inr (hfl _ (List.mem_of_getElem? (i := 48) rfl))
    | 1, _, 1, _, hij => absurd rfl hij
    | 1, _, 2, _, hij => Or.inl (hfl _ (List.mem_of_getElem? (i := 62) rfl))
    | 1, _, 3, _, hij => Or.inl (hfl _ (List.mem_of_getElem? (i := 74) rfl))
    | 1, _, 4, _, hij => Or.inr (hfl _ (List.mem_of_getElem? (i := 49) rfl))
    | 1, _, 5, _, hij => Or.inr (hfl _ (List.mem_of_getElem? (i := 50) rfl))
    | 2, _, 0, _, hij => Or.inr (hfl _ (List.mem_of_getElem? (i := 59) rfl))
    | 2, _, 1, _, hij => Or.inr (hfl _ (List.mem_of_getElem? (i := 62) rfl))
    | 2, _, 2, _, hij => absurd rfl hij
    | 2, _, 3, _, hij => Or.inl (hfl _ (List.mem_of_getElem? (i := 75) rfl))
    | 2, _, 4, _, hij => Or.inr (hfl _ (List.mem_of_getElem? (i := 60) rfl))
    | 2, _, 5, _, hij => Or.inr (hfl _ (List.mem_of_getElem? (i := 61) rfl))
    | 3, _, 0, _, hij => Or.inr (hfl _ (List.mem_of_getElem? (i := 71) rfl))
    | 3, _, 1, _, hij => Or.inr (hfl _ (List.mem_of_getElem? (i := 74) rfl))
    | 3, _, 2, _, hij => Or.inr (hfl _ (List.mem_of_getElem? (i := 75) rfl))
    | 3, _, 3, _, hij => absurd rfl hij
    | 3, _, 4, _, hij => Or.inr (hfl _ (List.mem_of_getElem? (i := 72) rfl))
    | 3, _, 5, _, hij => Or.inr (hfl _ (List.mem_of_getElem? (i := 73) rfl))
    | 4, _, 0, _, hij => Or.inr (hfl _ (List.mem_of_getElem? (i := 28) rfl))
    | 4, _, 1, _, hij => Or.inl (hfl _ (List.mem_of_getElem? (i := 49) rfl))
    | 4, _, 2, _, hij => Or.inl (hfl _ (List.mem_of_getElem? (i := 60) rfl))
    | 4, _, 3, _, hij => Or.inl (hfl _ (List.mem_of_getElem? (i := 72) rfl))
    | 4, _, 4, _, hij => absurd rfl hij
    | 4, _, 5, _, hij => Or.inl (hfl _ (List.mem_of_getElem? (i := 39) rfl))
    | 5, _, 0, _, hij => Or.inr (hfl _ (List.mem_of_getElem? (i := 38) rfl))
    | 5, _, 1, _, hij => Or.inl (hfl _ (List.mem_of_getElem? (i := 50) rfl))
    | 5, _, 2, _, hij => Or.inl (hfl _ (List.mem_of_getElem? (i := 61) rfl))
    | 5, _, 3, _, hij => Or.inl (hfl _ (List.mem_of_getElem? (i := 73) rfl))
    | 5, _, 4, _, hij => Or.inr (hfl _ (List.mem_of_getElem? (i := 39) rfl))
    | 5, _, 5, _, hij => absurd rfl hij
    | n + 6, hi, _, _, _ => absurd hi (by omega)
    | 0, _, n + 6, hj, _ => absurd hj (by omega)
    | 1, _, n + 6, hj, _ => absurd hj (by omega)
    | 2, _, n + 6, hj, _ => absurd hj (by omega)
    | 3, _, n + 6, hj, _ => absurd hj (by omega)
    | 4, _, n + 6, hj, _ => absurd hj (by omega)
    | 5, _, n + 6, hj, _ => absurd hj (by omega)) hA
  refine ⟨(dC, dI, fun ty => if ty = .int then ai else if ty = .byte then ab else if ty = .boolean then az else if ty = .object RX5 then aT else aF, adK, adV), ⟨⟨hKc, fun k q h => by simp at h⟩, ?_, ?_, ?_, ?_, ?_⟩, ?_, ?_, hS⟩
  · intro ty ht
    simp only [r_tys, List.mem_cons, List.not_mem_nil, or_false] at ht
    rcases ht with rfl | rfl | rfl | rfl | rfl
    · exact hai
    · exact hab
    · exact haz
    · exact haT
    · exact haF
  · intro w hw
    simp only [r_nw, List.mem_cons, List.not_mem_nil, or_false] at hw
    rcases hw with rfl | rfl | rfl | rfl | rfl
    · exact va_Nw.of rfl (hts _ (tb_1 _ (List.mem_of_getElem? (i := 27) rfl)))
    · exact va_Nw.of rfl (hts _ (tb_1 _ (List.mem_of_getElem? (i := 54) rfl)))
    · exact va_Nw.of rfl (hts _ (tb_1 _ (List.mem_of_getElem? (i := 88) rfl)))
    · exact va_Nw.of rfl (hts _ (tb_1 _ (List.mem_of_getElem? (i := 128) rfl)))
    · exact va_Nw.of rfl (hts _ (tb_1 _ (List.mem_of_getElem? (i := 213) rfl)))
  · exact fun i hi => match i, hi with
    | 0, _ => vk_R.of (hts _ (tb_2 _ (List.mem_of_getElem? (i := 189) rfl))) (hev 0 (by decide))
    | 1, _ => vk_R.of (hts _ (tb_3 _ (List.mem_of_getElem? (i := 12) rfl))) (hev 1 (by decide))
    | 2, _ => vk_R.of (hts _ (tb_3 _ (List.mem_of_getElem? (i := 17) rfl))) (hev 2 (by decide))
    | 3, _ => vk_R.of (hts _ (tb_3 _ (List.mem_of_getElem? (i := 18) rfl))) (hev 3 (by decide))
    | 4, _ => vk_R.of (hts _ (tb_3 _ (List.mem_of_getElem? (i := 6) rfl))) (hev 4 (by decide))
    | 5, _ => vk_R.of (hts _ (tb_3 _ (List.mem_of_getElem? (i := 11) rfl))) (hev 5 (by decide))
    | n + 6, hi => absurd hi (by omega)
  · exact va_AO.of (hts _ (tb_1 _ (List.mem_of_getElem? (i := 120) rfl)))
  · exact va_AO.of (hts _ (tb_1 _ (List.mem_of_getElem? (i := 24) rfl)))
  · exact va_Zof (hts _ (tb_2 _ (List.mem_of_getElem? (i := 203) rfl))) (hts _ (tb_1 _ (List.mem_of_getElem? (i := 11) rfl))) (va_eqi (hfl _ (List.mem_of_getElem? (i := 4) rfl))) hA
  · exact va_Zqof (hts _ (tb_2 _ (List.mem_of_getElem? (i := 219) rfl))) (hts _ (tb_1 _ (List.mem_of_getElem? (i := 13) rfl))) (hfl _ (List.mem_of_getElem? (i := 5) rfl)) hA

set_option maxHeartbeats 4000000 in
set_option maxRecDepth 100000 in
/-- THE LAW from its entry, once its function answers -/
theorem whole_start_of (fun_ok : ∀ (xs : Nat → Int32) (L : Nat), L ≤ 3073 → ∀ z : Nat, ∃ hh, f_L_law xs L (z, fun _ => none, fun _ _ => 0, fun _ _ => none) = some ((), hh)) {p : Program} {e : Env} {s : State} {m : MethodId} {below : List Frame} {meth : Method} {c : Code} (l : Launch) (hflags : l.flags = flags0) {b L : Nat} {xs : Nat → Int32} (hL : L ≤ 3073) (C0 : lw_At p s m meth c b L xs) : W p l e room_1 s m #[Value.ref b] below meth c s.heap [] 0 0 (lw_Z below #[Value.ref b] s) (entryFrame m ([Value.ref b] : List Value).toArray 4) := by
  obtain ⟨hx, hb, hr, hml, hown, hts, hX, hbl, hlocks, hgv⟩ := id C0
  obtain ⟨D, hK, hE⟩ := st_all hts hgv
  obtain ⟨hh, hf⟩ := fun_ok xs L hL s.heap.size
  have X : r_C p c cL_law 4 s m #[Value.ref b] RL D s.heap.size := ⟨⟨hx, hb, hml, hown, fun w hw => hts w (wsL_in w hw)⟩, hK, hE, Nat.le_refl _⟩
  have B : r_B D s.heap.size s (s.heap.size, fun _ => none, fun _ _ => 0, fun _ _ => none) s.heap [] := ⟨⟨rfl, fun a t h => by simp at h⟩, va_S.rf⟩
  have hl := lv_entry ([.ref b]) (n := 4) (Nat.le_of_ble_eq_true rfl)
  rw [lg_entry_eq]
  generalize (lg_sl ([.ref b]) ++ List.replicate (4 - (lg_sl ([.ref b])).length) Slot.unset).toArray = ls at hl ⊢
  have hl : lv_has ls 4 [(0, .ref b)] := hl
  exact c_L_law X hr hlocks hX hbl (by omega) B hl hf
