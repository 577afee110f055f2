/-! ===== the literals' own methods: String.length, String.charAt over the texts of part 02 (a literal is its place i < 6) ===== -/
section JD
variable {p : Program} {l : Launch} {e : Env} {R : Room} {s : State} {m : MethodId} {args : Array Value} {below : List Frame} {meth : Method} {c : Code} {H : Heap} {locs : List Loc} {cells slots : Nat} {Q : State → Prop}
variable {cc : ByteArray} {nL : Nat} {own : String} {D : RG} {b : Nat} {h : AH} {pc : Nat} {ls : Array Slot} {rest : List Value} {α : Type} {Z : α}
theorem j_lit : ∀ i, i < 6 → r_len.getD i 0 < 2 ^ 31 ∧ (Int32.ofNat (r_len.getD i 0) >>> ((0 : Int32) &&& 31)) = Int32.ofNat (r_len.getD i 0) := by decide +kernel
theorem j_ch : ∀ i, i < 6 → ∀ k, k < r_len.getD i 0 → ((((r_byt.getD i []).getD k 0) &&& 255).toUInt32 % 65536).toInt32 = (r_byt.getD i []).getD k 0 ∧ narrow .char (.int ((r_byt.getD i []).getD k 0)) = .int ((r_byt.getD i []).getD k 0) := by decide +kernel
theorem j_get (X : r_C p c cc nL s m args own D b) (B : r_B D b s h H locs) {o n d : String} {v : Value} {t index : Nat} (hE : va_OF o n d v t (fun q => b ≤ q) s s.heap) (hlink : Cond.fieldLink own index o n d ∈ wsL_law) (hdg : decode cc pc = .ok (.getfield index, 3))
    (kk : W p l e R s m args below meth c H locs cells slots Q (F0 m (pc + 3) ls (v :: rest))) : W p l e R s m args below meth c H locs cells slots Q (F0 m pc ls (.ref t :: rest)) := by
  obtain ⟨cf, k, fi, f, cell, h1, h2, h3, h4, h5, h6⟩ := hE.kept B.2.2.1
  exact W.getf X.1.1 X.1.2.1 X.1.2.2.2.1 (X.1.2.2.2.2 _ hlink) h1 h2 h3 h4 (v := v) h5 rfl rfl hdg kk
theorem j_gets (X : r_C p c cc nL s m args own D b) (B : r_B D b s h H locs) {C n d : String} {v : Value} {index : Nat} (hZ : va_Z C n d v (fun q => b ≤ q) s s.heap) (hlink : Cond.fieldLink own index C n d ∈ wsL_law) (hdg : decode cc pc = .ok (.getstatic index, 3))
    (kk : W p l e R s m args below meth c H locs cells slots Q (F0 m (pc + 3) ls (v :: rest))) : W p l e R s m args below meth c H locs cells slots Q (F0 m pc ls rest) :=
  va_gets X.1.1 X.1.2.1 hZ B.2 X.1.2.2.2.1 (X.1.2.2.2.2 _ hlink) (fun _ z => z) hdg kk
set_option maxRecDepth 100000 in
set_option maxHeartbeats 4000000 in
theorem j_coder {i : Nat} (hi : i < 6) : Met l yJ0_coder_7d493 (Cond.code yJ0_coder_7d493 cJ0_coder_7d493 1 (some .byte) :: wsL_law) ({ frames := 0, cells := 0, slots := 0, locals := 0 } : Room) (va_Pc [.ref (D.2.2.2.1 i)] (r_I D b h)) (r_Q D b (some (.int 0)) h) 0 0 (fun q => b ≤ q) := by
  refine r_ofW (own := RJ0) rfl (by decide +kernel) (by simp [lg_sl, cat_i, cat_r, cat_l]) ?_
  intro p e s m args below meth c ls X B hr hk hn hl
  have hl : lv_has ls 1 [(0, .ref (D.2.2.2.1 i))] := by simpa [lv_args, cat_i, cat_r, cat_l] using hl
  obtain ⟨⟨hx, hb, hml, hown, hts⟩, -⟩ := id X
  obtain ⟨hO, hCo, hVa, hT⟩ := X.2.2.1.2.2.1 i hi
  generalize s.heap = H at B ⊢
  generalize ([] : List Loc) = locs at B ⊢
  refine j_gets X B X.2.2.1.1 m_344 dJ0_coder_7d493_0 ?_
  refine lv_if_eq (tgt := 13) hx hb dJ0_coder_7d493_3 (by decide) (fun q_ => absurd q_ (by decide)) (fun q_ => ?_)
  refine lv_aload_n hx hb dJ0_coder_7d493_6 rfl (lv_at hl 0 rfl) ?_
  refine j_get X B hCo m_345 dJ0_coder_7d493_7 ?_
  refine lv_goto (tgt := 14) hx hb dJ0_coder_7d493_10 (by decide) ?_
  exact W.zret hx hb hr rfl (r_endQ B _) (r_endL B) dJ0_coder_7d493_14
set_option maxRecDepth 100000 in
set_option maxHeartbeats 4000000 in
theorem j_length {i : Nat} (hi : i < 6) : Met l yJ0_length_8abf5 (Cond.code yJ0_length_8abf5 cJ0_length_8abf5 1 (some .int) :: wsL_law) ({ frames := 1, cells := 0, slots := 0, locals := 20 } : Room) (va_Pc [.ref (D.2.2.2.1 i)] (r_I D b h)) (r_Q D b (some (.int (Int32.ofNat (r_len.getD i 0)))) h) 0 0 (fun q => b ≤ q) := by
  refine r_ofW (own := RJ0) rfl (by decide +kernel) (by simp [lg_sl, cat_i, cat_r, cat_l]) ?_
  intro p e s m args below meth c ls X B hr hk hn hl
  have hl : lv_has ls 1 [(0, .ref (D.2.2.2.1 i))] := by simpa [lv_args, cat_i, cat_r, cat_l] using hl
  obtain ⟨⟨hx, hb, hml, hown, hts⟩, -⟩ := id X
  obtain ⟨hO, hCo, hVa, hT⟩ := X.2.2.1.2.2.1 i hi
  generalize hH : s.heap = H at B ⊢
  generalize ([] : List Loc) = locs at B ⊢
  refine lv_aload_n hx hb dJ0_length_8abf5_0 rfl (lv_at hl 0 rfl) ?_
  refine j_get X B hVa m_339 dJ0_length_8abf5_1 ?_
  refine va_tlen hx hb hT B.2 rfl dJ0_length_8abf5_4 ?_
  refine lv_aload_n hx hb dJ0_length_8abf5_5 rfl (lv_at hl 0 rfl) ?_
  refine r_call B (va_runV (As := []) (rest := [.int (Int32.ofNat (r_len.getD i 0))]) X.1 (j_coder (l := l) (D := D) (b := b) (h := h) hi) (r_cwV (n := 0) X rfl m_340 m_341 m_342 m_337 m_343 rfl rfl (by decide +kernel) ⟨Nat.le_of_ble_eq_true rfl, Nat.le_of_ble_eq_true rfl⟩) ⟨r_blind _, ?_, fun U hU hW => ⟨rfl, r_go X B hU hW⟩⟩ rfl rfl hl.1 rfl (lv_room (by simp [cat_i, cat_r, cat_l])) dJ0_length_8abf5_6 ⟨Nat.zero_le _, Nat.zero_le _⟩) ?_
  · obtain ⟨cell, g1, g2, g3, -⟩ := hO.kept B.2.2.1
    exact ⟨cell, g1, g2, g3⟩
  intro H locs B
  refine W.cs (cells' := 0) (slots' := 0) rfl rfl (W.eq (g2 := F0 m 9 ls [.int 0, .int (Int32.ofNat (r_len.getD i 0))]) rfl ?_)
  refine lv_ishr hx hb dJ0_length_8abf5_9 ?_
  rw [(j_lit i hi).2]
  exact W.iret hx hb hr (r_endQ B _) (r_endL B) dJ0_length_8abf5_10
set_option maxRecDepth 100000 in
set_option maxHeartbeats 4000000 in
theorem j_latin {i : Nat} (hi : i < 6) : Met l yJ0_isLatin1_aae02 (Cond.code yJ0_isLatin1_aae02 cJ0_isLatin1_aae02 1 (some .boolean) :: wsL_law) ({ frames := 0, cells := 0, slots := 0, locals := 0 } : Room) (va_Pc [.ref (D.2.2.2.1 i)] (r_I D b h)) (r_Q D b (some (.int 1)) h) 0 0 (fun q => b ≤ q) := by
  refine r_ofW (own := RJ0) rfl (by decide +kernel) (by simp [lg_sl, cat_i, cat_r, cat_l]) ?_
  intro p e s m args below meth c ls X B hr hk hn hl
  have hl : lv_has ls 1 [(0, .ref (D.2.2.2.1 i))] := by simpa [lv_args, cat_i, cat_r, cat_l] using hl
  obtain ⟨⟨hx, hb, hml, hown, hts⟩, -⟩ := id X
  obtain ⟨hO, hCo, hVa, hT⟩ := X.2.2.1.2.2.1 i hi
  generalize s.heap = H at B ⊢
  generalize ([] : List Loc) = locs at B ⊢
  refine j_gets X B X.2.2.1.1 m_344 dJ0_isLatin1_aae02_0 ?_
  refine lv_if_eq (tgt := 17) hx hb dJ0_isLatin1_aae02_3 (by decide) (fun q_ => absurd q_ (by decide)) (fun q_ => ?_)
  refine lv_aload_n hx hb dJ0_isLatin1_aae02_6 rfl (lv_at hl 0 rfl) ?_
  refine j_get X B hCo m_345 dJ0_isLatin1_aae02_7 ?_
  refine lv_if_ne (tgt := 17) hx hb dJ0_isLatin1_aae02_10 (by decide) (fun q_ => absurd rfl q_) (fun q_ => ?_)
  refine lv_iconst (v := 1) hx hb dJ0_isLatin1_aae02_13 (by decide) ?_
  refine lv_goto (tgt := 18) hx hb dJ0_isLatin1_aae02_14 (by decide) ?_
  exact W.zret hx hb hr rfl (r_endQ B _) (r_endL B) dJ0_isLatin1_aae02_18
set_option maxRecDepth 100000 in
set_option maxHeartbeats 4000000 in
theorem j_check3 {k n : Int32} {f : Option Nat} (h0 : ¬ k < 0) (h1 : k < n) : Met l yJ3_checkIndex_8e157 (Cond.code yJ3_checkIndex_8e157 cJ3_checkIndex_8e157 3 (some .int) :: wsL_law) ({ frames := 0, cells := 0, slots := 0, locals := 0 } : Room) (va_Pc [.int k, .int n, va_rf f] (r_I D b h)) (r_Q D b (some (.int k)) h) 0 0 (fun q => b ≤ q) := by
  refine r_ofW (own := RJ3) rfl (by decide +kernel) (by simp [lg_sl, va_cat, cat_i, cat_r, cat_l]) ?_
  intro p e s m args below meth c ls X B hr hk hn hl
  have hl : lv_has ls 3 [(0, .int k), (1, .int n), (2, va_rf f)] := by simpa [lv_args, va_cat, cat_i, cat_r, cat_l] using hl
  obtain ⟨⟨hx, hb, hml, hown, hts⟩, -⟩ := id X
  generalize s.heap = H at B ⊢
  generalize ([] : List Loc) = locs at B ⊢
  refine lv_iload_n hx hb dJ3_checkIndex_8e157_0 rfl (lv_at hl 0 rfl) ?_
  refine lv_if_lt (tgt := 9) hx hb dJ3_checkIndex_8e157_1 (by decide) (fun q_ => absurd q_ h0) (fun q_ => ?_)
  refine lv_iload_n hx hb dJ3_checkIndex_8e157_4 rfl (lv_at hl 0 rfl) ?_
  refine lv_iload_n hx hb dJ3_checkIndex_8e157_5 rfl (lv_at hl 1 rfl) ?_
  refine lv_icmp_lt (tgt := 16) hx hb dJ3_checkIndex_8e157_6 (by decide) (fun q_ => ?_) (fun q_ => absurd h1 q_)
  refine lv_iload_n hx hb dJ3_checkIndex_8e157_16 rfl (lv_at hl 0 rfl) ?_
  exact W.iret hx hb hr (r_endQ B _) (r_endL B) dJ3_checkIndex_8e157_17
set_option maxRecDepth 100000 in
set_option maxHeartbeats 4000000 in
theorem j_check0 {k n : Int32} (h0 : ¬ k < 0) (h1 : k < n) : Met l yJ0_checkIndex_df160 (Cond.code yJ0_checkIndex_df160 cJ0_checkIndex_df160 2 none :: wsL_law) ({ frames := 1, cells := 0, slots := 0, locals := 22 } : Room) (va_Pc [.int k, .int n] (r_I D b h)) (r_Q D b none h) 0 0 (fun q => b ≤ q) := by
  refine r_ofW (own := RJ0) rfl (by decide +kernel) (by simp [lg_sl, va_cat, cat_i, cat_r, cat_l]) ?_
  intro p e s m args below meth c ls X B hr hk hn hl
  have hl : lv_has ls 2 [(0, .int k), (1, .int n)] := by simpa [lv_args, va_cat, cat_i, cat_r, cat_l] using hl
  obtain ⟨⟨hx, hb, hml, hown, hts⟩, -⟩ := id X
  have hf : ∃ f : Option Nat, va_Z "jdk/internal/util/Preconditions" "SIOOBE_FORMATTER" "Ljava/util/function/BiFunction;" (va_rf f) (fun q => b ≤ q) s s.heap := by
    rcases X.2.2.1.2.1 with z | ⟨t, z⟩
    · exact ⟨none, z⟩
    · exact ⟨some t, z⟩
  obtain ⟨f, hf⟩ := hf
  generalize hH : s.heap = H at B ⊢
  generalize ([] : List Loc) = locs at B ⊢
  refine lv_iload_n hx hb dJ0_checkIndex_df160_0 rfl (lv_at hl 0 rfl) ?_
  refine lv_iload_n hx hb dJ0_checkIndex_df160_1 rfl (lv_at hl 1 rfl) ?_
  refine j_gets X B hf m_361 dJ0_checkIndex_df160_2 ?_
  refine r_call B (va_runS (As := [.int k, .int n, va_rf f]) (rest := []) X.1 (j_check3 (l := l) (D := D) (b := b) (h := h) h0 h1) (r_cwS (n := 3) X m_362 m_363 m_364 m_365 rfl rfl (by decide +kernel) ⟨Nat.le_of_ble_eq_true rfl, Nat.le_of_ble_eq_true rfl⟩) (r_preS X B [.int k, .int n, va_rf f]) rfl rfl hl.1 rfl (lv_room (by simp [cat_i, cat_r, cat_l])) dJ0_checkIndex_df160_5 ⟨Nat.zero_le _, Nat.zero_le _⟩) ?_
  intro H locs B
  refine W.cs (cells' := 0) (slots' := 0) rfl rfl (W.eq (g2 := F0 m 8 ls [.int k]) rfl ?_)
  refine lv_pop hx hb dJ0_checkIndex_df160_8 rfl ?_
  exact W.vret hx hb hr (r_endQ B _) (r_endL B) dJ0_checkIndex_df160_9
set_option maxRecDepth 100000 in
set_option maxHeartbeats 4000000 in
theorem j_charAt1 {i k : Nat} (hi : i < 6) (hk2 : k < r_len.getD i 0) : Met l yJ1_charAt_3b067 (Cond.code yJ1_charAt_3b067 cJ1_charAt_3b067 2 (some .char) :: wsL_law) ({ frames := 2, cells := 0, slots := 0, locals := 43 } : Room) (va_Pc [.ref (D.2.2.2.2 i), .int (nI k)] (r_I D b h)) (r_Q D b (some (.int ((r_byt.getD i []).getD k 0))) h) 0 0 (fun q => b ≤ q) := by
  refine r_ofW (own := RJ1) rfl (by decide +kernel) (by simp [lg_sl, va_cat, cat_i, cat_r, cat_l]) ?_
  intro p e s m args below meth c ls X B hr hk hn hl
  have hl : lv_has ls 2 [(0, .ref (D.2.2.2.2 i)), (1, .int (nI k))] := by simpa [lv_args, va_cat, cat_i, cat_r, cat_l] using hl
  obtain ⟨⟨hx, hb, hml, hown, hts⟩, -⟩ := id X
  obtain ⟨hO, hCo, hVa, hT⟩ := X.2.2.1.2.2.1 i hi
  have hN := (j_lit i hi).1
  generalize hH : s.heap = H at B ⊢
  generalize ([] : List Loc) = locs at B ⊢
  refine lv_iload_n hx hb dJ1_charAt_3b067_0 rfl (lv_at hl 1 rfl) ?_
  refine lv_aload_n hx hb dJ1_charAt_3b067_1 rfl (lv_at hl 0 rfl) ?_
  refine va_tlen hx hb hT B.2 (v := nI (r_len.getD i 0)) rfl dJ1_charAt_3b067_2 ?_
  refine r_call B (va_runS (As := [.int (nI k), .int (nI (r_len.getD i 0))]) (rest := []) X.1 (j_check0 (l := l) (D := D) (b := b) (h := h) (nI_pos (by omega)) (nI_lt hk2 (by omega))) (r_cwS (n := 2) X m_358 m_359 m_337 m_360 rfl rfl (by decide +kernel) ⟨Nat.le_of_ble_eq_true rfl, Nat.le_of_ble_eq_true rfl⟩) (r_preS X B [.int (nI k), .int (nI (r_len.getD i 0))]) rfl rfl hl.1 rfl (lv_room (by simp [cat_i, cat_r, cat_l])) dJ1_charAt_3b067_3 ⟨Nat.zero_le _, Nat.zero_le _⟩) ?_
  intro H1 locs B
  refine W.cs (cells' := 0) (slots' := 0) rfl rfl (W.eq (g2 := F0 m 6 ls []) rfl ?_)
  refine lv_aload_n hx hb dJ1_charAt_3b067_6 rfl (lv_at hl 0 rfl) ?_
  refine lv_iload_n hx hb dJ1_charAt_3b067_7 rfl (lv_at hl 1 rfl) ?_
  refine va_tb hx hb hT B.2 (vp_in_nI hk2 hN) (v := .int ((r_byt.getD i []).getD k 0)) (by rw [nI_clamp (by omega)]) dJ1_charAt_3b067_8 ?_
  refine lv_sipush (v := 255) hx hb dJ1_charAt_3b067_9 (by decide) ?_
  refine lv_iand hx hb dJ1_charAt_3b067_12 ?_
  refine lv_i2c hx hb dJ1_charAt_3b067_13 (j_ch i hi k hk2).1 ?_
  exact W.zret hx hb hr (j_ch i hi k hk2).2 (r_endQ B _) (r_endL B) dJ1_charAt_3b067_14
set_option maxRecDepth 100000 in
set_option maxHeartbeats 4000000 in
theorem j_charAt {i k : Nat} (hi : i < 6) (hk2 : k < r_len.getD i 0) : Met l yJ0_charAt_5068e (Cond.code yJ0_charAt_5068e cJ0_charAt_5068e 2 (some .char) :: wsL_law) ({ frames := 3, cells := 0, slots := 0, locals := 64 } : Room) (va_Pc [.ref (D.2.2.2.1 i), .int (nI k)] (r_I D b h)) (r_Q D b (some (.int ((r_byt.getD i []).getD k 0))) h) 0 0 (fun q => b ≤ q) := by
  refine r_ofW (own := RJ0) rfl (by decide +kernel) (by simp [lg_sl, va_cat, cat_i, cat_r, cat_l]) ?_
  intro p e s m args below meth c ls X B hr hk hn hl
  have hl : lv_has ls 2 [(0, .ref (D.2.2.2.1 i)), (1, .int (nI k))] := by simpa [lv_args, va_cat, cat_i, cat_r, cat_l] using hl
  obtain ⟨⟨hx, hb, hml, hown, hts⟩, -⟩ := id X
  obtain ⟨hO, hCo, hVa, hT⟩ := X.2.2.1.2.2.1 i hi
  generalize hH : s.heap = H at B ⊢
  generalize ([] : List Loc) = locs at B ⊢
  refine lv_aload_n hx hb dJ0_charAt_5068e_0 rfl (lv_at hl 0 rfl) ?_
  refine r_call B (va_runV (As := []) (rest := []) X.1 (j_latin (l := l) (D := D) (b := b) (h := h) hi) (r_cwV (n := 0) X rfl m_350 m_351 m_352 m_337 m_353 rfl rfl (by decide +kernel) ⟨Nat.le_of_ble_eq_true rfl, Nat.le_of_ble_eq_true rfl⟩) ⟨r_blind _, ?_, fun U hU hW => ⟨rfl, r_go X B hU hW⟩⟩ rfl rfl hl.1 rfl (lv_room (by simp [cat_i, cat_r, cat_l])) dJ0_charAt_5068e_1 ⟨Nat.zero_le _, Nat.zero_le _⟩) ?_
  · obtain ⟨cell, g1, g2, g3, -⟩ := hO.kept B.2.2.1
    exact ⟨cell, g1, g2, g3⟩
  intro H1 locs B
  refine W.cs (cells' := 0) (slots' := 0) rfl rfl (W.eq (g2 := F0 m 4 ls [.int 1]) rfl ?_)
  refine lv_if_eq (tgt := 16) hx hb dJ0_charAt_5068e_4 (by decide) (fun q_ => absurd q_ (by decide)) (fun q_ => ?_)
  refine lv_aload_n hx hb dJ0_charAt_5068e_7 rfl (lv_at hl 0 rfl) ?_
  refine j_get X B hVa m_339 dJ0_charAt_5068e_8 ?_
  refine lv_iload_n hx hb dJ0_charAt_5068e_11 rfl (lv_at hl 1 rfl) ?_
  refine r_call B (va_runS (As := [.ref (D.2.2.2.2 i), .int (nI k)]) (rest := []) X.1 (j_charAt1 (l := l) (D := D) (b := b) (h := h) hi hk2) (r_cwS (n := 2) X m_354 m_355 m_356 m_357 rfl rfl (by decide +kernel) ⟨Nat.le_of_ble_eq_true rfl, Nat.le_of_ble_eq_true rfl⟩) (r_preS X B [.ref (D.2.2.2.2 i), .int (nI k)]) rfl rfl hl.1 rfl (lv_room (by simp [cat_i, cat_r, cat_l])) dJ0_charAt_5068e_12 ⟨Nat.zero_le _, Nat.zero_le _⟩) ?_
  intro H2 locs B
  refine W.cs (cells' := 0) (slots' := 0) rfl rfl (W.eq (g2 := F0 m 15 ls [.int ((r_byt.getD i []).getD k 0)]) rfl ?_)
  exact W.zret hx hb hr (j_ch i hi k hk2).2 (r_endQ B _) (r_endL B) dJ0_charAt_5068e_15
/-! the two as rows -/
def stL (i : Nat) (K : Int32 → Option α) : Option α := if i < 6 then K (Int32.ofNat (r_len.getD i 0)) else none
def stC (i : Nat) (k : Int32) (K : Int32 → Option α) : Option α := if i < 6 ∧ ¬ k < 0 ∧ k.toNatClampNeg < r_len.getD i 0 then K ((r_byt.getD i []).getD k.toNatClampNeg 0) else none
theorem r_stL (X : r_C p c cc nL s m args RX6 D b) (B : r_B D b s h H locs) {i : Nat} {K : Int32 → Option α} (hf : stL i K = some Z) (hR : 2 ≤ R.frames ∧ 40 ≤ R.locals) (hl : ls.size = nL) (hroom : (rest.map fun v => v.category).sum ≤ 8) (hdg : decode cc pc = .ok (.invokevirtual 83, 3)) (hcs : cells ≤ R.cells ∧ slots ≤ R.slots)
    (kk : ∀ (v : Int32) (H1 : Heap) (locs1 : List Loc), r_B D b s h H1 locs1 → K v = some Z → W p l e R s m args below meth c H1 locs1 cells slots Q (F0 m (pc + 3) ls (.int v :: rest))) : W p l e R s m args below meth c H locs cells slots Q (F0 m pc ls (.ref (D.2.2.2.1 i) :: rest)) := by
  unfold stL at hf
  by_cases hi : i < 6
  · rw [if_pos hi] at hf
    obtain ⟨hO, hCo, hVa, hT⟩ := X.2.2.1.2.2.1 i hi
    refine r_call B (va_runV (As := []) (rest := rest) X.1 (j_length (l := l) (D := D) (b := b) (h := h) hi) (r_cwV (n := 0) X rfl m_334 m_335 m_336 m_337 m_338 rfl rfl (by decide +kernel) ⟨hR.1, hR.2⟩) ⟨r_blind _, ?_, fun U hU hW => ⟨rfl, r_go X B hU hW⟩⟩ rfl rfl hl rfl (lv_room hroom) hdg ⟨hcs.1, hcs.2⟩) ?_
    · obtain ⟨cell, g1, g2, g3, -⟩ := hO.kept B.2.2.1
      exact ⟨cell, g1, g2, g3⟩
    · intro H1 locs1 B1
      exact kk _ H1 locs1 B1 hf
  · rw [if_neg hi] at hf
    cases hf
theorem r_stC (X : r_C p c cc nL s m args RX6 D b) (B : r_B D b s h H locs) {i : Nat} {k : Int32} {K : Int32 → Option α} (hf : stC i k K = some Z) (hR : 4 ≤ R.frames ∧ 85 ≤ R.locals) (hl : ls.size = nL) (hroom : (rest.map fun v => v.category).sum ≤ 8) (hdg : decode cc pc = .ok (.invokevirtual 91, 3)) (hcs : cells ≤ R.cells ∧ slots ≤ R.slots)
    (kk : ∀ (v : Int32) (H1 : Heap) (locs1 : List Loc), r_B D b s h H1 locs1 → K v = some Z → W p l e R s m args below meth c H1 locs1 cells slots Q (F0 m (pc + 3) ls (.int v :: rest))) : W p l e R s m args below meth c H locs cells slots Q (F0 m pc ls (.int k :: .ref (D.2.2.2.1 i) :: rest)) := by
  unfold stC at hf
  by_cases hi : i < 6 ∧ ¬ k < 0 ∧ k.toNatClampNeg < r_len.getD i 0
  · rw [if_pos hi] at hf
    obtain ⟨hi, h0, hk2⟩ := hi
    obtain ⟨j, hj, rfl⟩ := nI_of h0
    rw [nI_clamp hj] at hf hk2
    obtain ⟨hO, hCo, hVa, hT⟩ := X.2.2.1.2.2.1 i hi
    refine r_call B (va_runV (As := [.int (nI j)]) (rest := rest) X.1 (j_charAt (l := l) (D := D) (b := b) (h := h) hi hk2) (r_cwV (n := 1) X rfl m_346 m_347 m_348 m_337 m_349 rfl rfl (by decide +kernel) ⟨hR.1, hR.2⟩) ⟨r_blind _, ?_, fun U hU hW => ⟨rfl, r_go X B hU hW⟩⟩ rfl rfl hl rfl (lv_room hroom) hdg ⟨hcs.1, hcs.2⟩) ?_
    · obtain ⟨cell, g1, g2, g3, -⟩ := hO.kept B.2.2.1
      exact ⟨cell, g1, g2, g3⟩
    · intro H1 locs1 B1
      exact kk _ H1 locs1 B1 hf
  · rw [if_neg hi] at hf
    cases hf
end JD
