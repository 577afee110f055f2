def f_X7_custom (h : AH) (l0 : Nat) (l1 : Int32) : Option (Int32 × AH) := gR h (some l0) 7 2 (fun v1 => gI h v1 6 1 (fun v2 => cal (f_X7_isWithin h l1 0 v2) (fun v3 h4 => if v3 = 0 then some ((-2), h4) else gR h4 (some l0) 7 2 (fun v6 => gR h4 (some l0) 7 4 (fun v7 => rcv h4 v6 6 (fun a11 => cal (f_X6_faultReading h4 a11 v7 l1) (fun v8 h9 => pI h9 (some l0) 7 11 v8 (fun h14 => gR h14 (some l0) 7 2 (fun v15 => pI h14 v15 6 1 0 (fun h16 => gI h16 (some l0) 7 11 (fun v17 => if v17 = (-1) then gR h16 (some l0) 7 3 (fun v18 => gR h16 (some l0) 7 4 (fun v19 => rcv h16 v18 0 (fun a23 => cal (f_X0_becomeAs h16 a23 v19) (fun v20 h21 => rcv h21 (some l0) 7 (fun a29 => cal (f_X7_orderAnew h21 a29) (fun v26 h27 => gR h27 (some l0) 7 3 (fun v32 => gI h27 v32 0 5 (fun v33 => some (v33, h27))))))))) else some ((-1), h16))))))))))))
set_option maxRecDepth 100000 in
set_option maxHeartbeats 4000000 in
theorem c_X7_custom {l : Launch} {D : RG} {b : Nat} {h : AH} {l0 : Nat} {l1 : Int32} {vv : Int32} {hh : AH} (hf : f_X7_custom h l0 l1 = some (vv, hh)) : Met l yX7_custom (Cond.code yX7_custom cX7_custom 2 (some .int) :: wsL_law) ({ frames := 8, cells := 0, slots := 0, locals := 172 } : Room) (va_Pc [.ref l0, .int l1] (r_I D b h)) (r_Q D b (some (.int vv)) hh) 0 0 (fun q => b ≤ q) := by
  refine r_ofW (own := RX7) rfl (by decide +kernel) (by simp [lg_sl, va_cat, cat_i, cat_r, cat_l]) ?_
  intro p e s m args below meth c ls X B hr hk hn hl
  have hl : lv_has ls 2 [(0, .ref l0), (1, .int l1)] := by simpa [lv_args, va_cat, cat_i, cat_r, cat_l] using hl
  have hl : lv_has ls 2 [(0, va_rf (some l0)), (1, .int l1)] := hl
  obtain ⟨⟨hx, hb, hml, hown, hts⟩, -⟩ := id X
  generalize s.heap = H at B ⊢
  generalize ([] : List Loc) = locs at B ⊢
  unfold f_X7_custom at hf
  refine lv_iload_n hx hb dX7_custom_0 rfl (lv_at hl 1 rfl) ?_
  refine lv_iconst (v := 0) hx hb dX7_custom_1 (by decide) ?_
  refine r_aload_n hx hb dX7_custom_2 rfl (lv_at hl 0 rfl) ?_
  refine r_gR X B hf fX7_2 (fun _ _ => rfl) m_21 dX7_custom_3 (fun v1 hf => ?_)
  refine r_gI X B hf fX6_1 (fun _ _ => rfl) m_274 dX7_custom_6 (fun v2 hf => ?_)
  refine cal_inv hf ?_
  intro v3 h4 e5 hf
  refine r_call B (va_runS (As := [.int l1, .int 0, .int v2]) (rest := []) X.1 (c_X7_isWithin (l := l) (D := D) (b := b) e5) (r_cwS X m_166 m_167 m_2 m_168 rfl rfl hd_X7_isWithin ⟨Nat.le_of_ble_eq_true rfl, Nat.le_of_ble_eq_true rfl⟩) (r_preS X B [.int l1, .int 0, .int v2]) rfl rfl hl.1 rfl (lv_room (by simp [va_cat, cat_i, cat_r, cat_l])) dX7_custom_9 ⟨Nat.zero_le _, Nat.zero_le _⟩) ?_
  intro H locs B
  refine W.cs (cells' := 0) (slots' := 0) rfl rfl (W.eq (g2 := F0 m 12 ls [.int v3]) rfl ?_)
  refine lv_if_ne (tgt := 18) hx hb dX7_custom_12 (by decide) (fun q_ => ?_) (fun q_ => ?_)
  · have hf := (r_ite hf).2 q_
    refine r_aload_n hx hb dX7_custom_18 rfl (lv_at hl 0 rfl) ?_
    refine r_aload_n hx hb dX7_custom_19 rfl (lv_at hl 0 rfl) ?_
    refine r_gR X B hf fX7_2 (fun _ _ => rfl) m_21 dX7_custom_20 (fun v6 hf => ?_)
    refine r_aload_n hx hb dX7_custom_23 rfl (lv_at hl 0 rfl) ?_
    refine r_gR X B hf fX7_4 (fun _ _ => rfl) m_26 dX7_custom_24 (fun v7 hf => ?_)
    refine lv_iload_n hx hb dX7_custom_27 rfl (lv_at hl 1 rfl) ?_
    refine rcv_inv hf ?_
    intro a11 e12 s13 hf
    refine cal_inv hf ?_
    intro v8 h9 e10 hf
    refine r_call B (va_runV (As := [va_rf v7, .int l1]) (rest := [va_rf (some l0)]) X.1 (c_X6_faultReading (l := l) (D := D) (b := b) e10) (r_cwV X rfl m_297 m_298 m_299 m_20 m_300 rfl rfl hd_X6_faultReading ⟨Nat.le_of_ble_eq_true rfl, Nat.le_of_ble_eq_true rfl⟩) (r_preV X B s13 rfl [va_rf v7, .int l1]) rfl rfl hl.1 (by rw [e12]; rfl) (lv_room (by simp [va_cat, cat_i, cat_r, cat_l])) dX7_custom_28 ⟨Nat.zero_le _, Nat.zero_le _⟩) ?_
    intro H locs B
    refine W.cs (cells' := 0) (slots' := 0) rfl rfl (W.eq (g2 := F0 m 31 ls [.int v8, va_rf (some l0)]) rfl ?_)
    refine r_pI X B hf fX7_11 (Or.inl rfl) m_35 dX7_custom_31 (fun h14 H locs B hf => ?_)
    refine r_aload_n hx hb dX7_custom_34 rfl (lv_at hl 0 rfl) ?_
    refine r_gR X B hf fX7_2 (fun _ _ => rfl) m_21 dX7_custom_35 (fun v15 hf => ?_)
    refine lv_iconst (v := 0) hx hb dX7_custom_38 (by decide) ?_
    refine r_pI X B hf fX6_1 (Or.inl rfl) m_274 dX7_custom_39 (fun h16 H locs B hf => ?_)
    refine r_aload_n hx hb dX7_custom_42 rfl (lv_at hl 0 rfl) ?_
    refine r_gI X B hf fX7_11 (fun _ _ => rfl) m_35 dX7_custom_43 (fun v17 hf => ?_)
    refine lv_iconst (v := (-1)) hx hb dX7_custom_46 (by decide) ?_
    refine lv_icmp_eq (tgt := 52) hx hb dX7_custom_47 (by decide) (fun q_ => ?_) (fun q_ => ?_)
    · have hf := (r_ite hf).1 q_
      refine r_aload_n hx hb dX7_custom_52 rfl (lv_at hl 0 rfl) ?_
      refine r_gR X B hf fX7_3 (fun _ _ => rfl) m_25 dX7_custom_53 (fun v18 hf => ?_)
      refine r_aload_n hx hb dX7_custom_56 rfl (lv_at hl 0 rfl) ?_
      refine r_gR X B hf fX7_4 (fun _ _ => rfl) m_26 dX7_custom_57 (fun v19 hf => ?_)
      refine rcv_inv hf ?_
      intro a23 e24 s25 hf
      refine cal_inv hf ?_
      intro v20 h21 e22 hf
      refine r_call B (va_runV (As := [va_rf v19]) (rest := []) X.1 (c_X0_becomeAs (l := l) (D := D) (b := b) e22) (r_cwV X rfl m_395 m_396 m_397 m_24 m_398 rfl rfl hd_X0_becomeAs ⟨Nat.le_of_ble_eq_true rfl, Nat.le_of_ble_eq_true rfl⟩) (r_preV X B s25 rfl [va_rf v19]) rfl rfl hl.1 (by rw [e24]; rfl) (lv_room (by simp [va_cat, cat_i, cat_r, cat_l])) dX7_custom_60 ⟨Nat.zero_le _, Nat.zero_le _⟩) ?_
      intro H locs B
      refine W.cs (cells' := 0) (slots' := 0) rfl rfl (W.eq (g2 := F0 m 63 ls []) rfl ?_)
      refine r_aload_n hx hb dX7_custom_63 rfl (lv_at hl 0 rfl) ?_
      refine rcv_inv hf ?_
      intro a29 e30 s31 hf
      refine cal_inv hf ?_
      intro v26 h27 e28 hf
      refine r_call B (va_runV (As := []) (rest := []) X.1 (c_X7_orderAnew (l := l) (D := D) (b := b) e28) (r_cwV X rfl m_401 m_402 m_403 m_2 m_404 rfl rfl hd_X7_orderAnew ⟨Nat.le_of_ble_eq_true rfl, Nat.le_of_ble_eq_true rfl⟩) (r_preV X B s31 rfl []) rfl rfl hl.1 (by rw [e30]; rfl) (lv_room (by simp [va_cat, cat_i, cat_r, cat_l])) dX7_custom_64 ⟨Nat.zero_le _, Nat.zero_le _⟩) ?_
      intro H locs B
      refine W.cs (cells' := 0) (slots' := 0) rfl rfl (W.eq (g2 := F0 m 67 ls []) rfl ?_)
      refine r_aload_n hx hb dX7_custom_67 rfl (lv_at hl 0 rfl) ?_
      refine r_gR X B hf fX7_3 (fun _ _ => rfl) m_25 dX7_custom_68 (fun v32 hf => ?_)
      refine r_gI X B hf fX0_5 (fun _ _ => rfl) m_296 dX7_custom_71 (fun v33 hf => ?_)
      exact r_iret X B hr hk hf dX7_custom_74
    · have hf := (r_ite hf).2 q_
      refine lv_iconst (v := (-1)) hx hb dX7_custom_50 (by decide) ?_
      exact r_iret X B hr hk hf dX7_custom_51
  · have hf := (r_ite hf).1 q_
    refine lv_bipush (v := (-2)) hx hb dX7_custom_15 (by decide) ?_
    exact r_iret X B hr hk hf dX7_custom_17
def f_X7_fault (h : AH) (l0 : Nat) : Option (Int32 × AH) := gI h (some l0) 7 11 (fun v1 => some (v1, h))
set_option maxRecDepth 100000 in
set_option maxHeartbeats 4000000 in
theorem c_X7_fault {l : Launch} {D : RG} {b : Nat} {h : AH} {l0 : Nat} {vv : Int32} {hh : AH} (hf : f_X7_fault h l0 = some (vv, hh)) : Met l yX7_fault (Cond.code yX7_fault cX7_fault 1 (some .int) :: wsL_law) ({ frames := 0, cells := 0, slots := 0, locals := 0 } : Room) (va_Pc [.ref l0] (r_I D b h)) (r_Q D b (some (.int vv)) hh) 0 0 (fun q => b ≤ q) := by
  refine r_ofW (own := RX7) rfl (by decide +kernel) (by simp [lg_sl, va_cat, cat_i, cat_r, cat_l]) ?_
  intro p e s m args below meth c ls X B hr hk hn hl
  have hl : lv_has ls 1 [(0, .ref l0)] := by simpa [lv_args, va_cat, cat_i, cat_r, cat_l] using hl
  have hl : lv_has ls 1 [(0, va_rf (some l0))] := hl
  obtain ⟨⟨hx, hb, hml, hown, hts⟩, -⟩ := id X
  generalize s.heap = H at B ⊢
  generalize ([] : List Loc) = locs at B ⊢
  unfold f_X7_fault at hf
  refine r_aload_n hx hb dX7_fault_0 rfl (lv_at hl 0 rfl) ?_
  refine r_gI X B hf fX7_11 (fun _ _ => rfl) m_35 dX7_fault_1 (fun v1 hf => ?_)
  exact r_iret X B hr hk hf dX7_fault_4
def f_X7_addSilt_8 : Nat → AH → Option Nat → Option (Unit × AH)
  | 0, _, _ => none
  | n + 1, h, l1 => nul l1 (some ((), h)) (gI h l1 5 5 (fun v1 => gI h l1 5 7 (fun v2 => gI h l1 5 5 (fun v3 => dv v3 50 (fun v4 => bd (mn v1 (v2 + v4)) (fun v5 => pI h l1 5 7 v5 (fun h6 => gR h6 l1 5 1 (fun v7 => f_X7_addSilt_8 n h6 v7))))))))
def f_X7_addSilt (h : AH) (l0 : Nat) : Option (Unit × AH) := gR h (some l0) 7 5 (fun v8 => gR h v8 2 0 (fun v9 => f_X7_addSilt_8 FU h v9))
set_option maxRecDepth 100000 in
set_option maxHeartbeats 4000000 in
theorem t_X7_addSilt_8 {p : Program} {l : Launch} {e : Env} {s : State} {m : MethodId} {args : Array Value} {below : List Frame} {meth : Method} {c : Code} {D : RG} {b : Nat} {vv : Unit} {hh : AH} (X : r_C p c cX7_addSilt 2 s m args RX7 D b) (hr : meth.sig.returnType = none) (hk : meth.locks = false) (hn : meth.name = "addSilt") : ∀ (n : Nat) (h : AH) (H : Heap) (locs : List Loc) (ls : Array Slot) (l1 : Option Nat), r_B D b s h H locs → lv_has ls 2 [(1, va_rf l1)] → f_X7_addSilt_8 n h l1 = some (vv, hh) → W p l e ({ frames := 1, cells := 0, slots := 0, locals := 21 } : Room) s m args below meth c H locs 0 0 (MQ below (r_Q D b none hh) args s 0 0 (fun q => b ≤ q)) (F0 m 8 ls []) := by
  obtain ⟨⟨hx, hb, hml, hown, hts⟩, -⟩ := id X
  intro n
  induction n with
  | zero =>
    intro h H locs ls l1 B hl hf
    cases hf
  | succ n ih =>
    intro h H locs ls l1 B hl hf
    unfold f_X7_addSilt_8 at hf
    refine r_aload_n hx hb dX7_addSilt_8 rfl (lv_at hl 0 rfl) ?_
    refine r_ifnull (tgt := 43) hx hb hf dX7_addSilt_9 (by decide) (fun hf e_ => ?_) (fun hf e_ => ?_)
    · exact r_vret X B hr hk hf dX7_addSilt_43
    · refine r_aload_n hx hb dX7_addSilt_12 rfl (lv_at hl 0 rfl) ?_
      refine r_aload_n hx hb dX7_addSilt_13 rfl (lv_at hl 0 rfl) ?_
      refine r_gI X B hf fX5_5 (fun _ _ => rfl) m_160 dX7_addSilt_14 (fun v1 hf => ?_)
      refine r_aload_n hx hb dX7_addSilt_17 rfl (lv_at hl 0 rfl) ?_
      refine r_gI X B hf fX5_7 (fun _ _ => rfl) m_265 dX7_addSilt_18 (fun v2 hf => ?_)
      refine r_aload_n hx hb dX7_addSilt_21 rfl (lv_at hl 0 rfl) ?_
      refine r_gI X B hf fX5_5 (fun _ _ => rfl) m_160 dX7_addSilt_22 (fun v3 hf => ?_)
      refine lv_bipush (v := 50) hx hb dX7_addSilt_25 (by decide) ?_
      refine r_div hx hb hf dX7_addSilt_27 (fun v4 hf => ?_)
      refine lv_iadd hx hb dX7_addSilt_28 ?_
      refine va_mmin hx hb (by rw [hml]; exact hl.1.symm) hown (hts _ m_39) (hts _ m_40) (hts _ m_41) (hts _ m_42) (Nat.le_of_ble_eq_true rfl) (by simp [va_cat, cat_i, cat_r, cat_l]) (Nat.zero_le _) (Nat.zero_le _) dX7_addSilt_29 ?_
      refine r_bd hf (fun v5 hf => ?_)
      refine r_pI X B hf fX5_7 (Or.inl rfl) m_265 dX7_addSilt_32 (fun h6 H locs B hf => ?_)
      refine r_aload_n hx hb dX7_addSilt_35 rfl (lv_at hl 0 rfl) ?_
      refine r_gR X B hf fX5_1 (fun _ _ => rfl) m_407 dX7_addSilt_36 (fun v7 hf => ?_)
      refine r_astore_n (i := 1) (lv' := [(1, va_rf v7)]) hx hb dX7_addSilt_39 rfl hl (by decide) (by first | rfl | simp [va_cat, cat_i, cat_r, cat_l]) (fun ls hl => ?_)
      refine lv_goto (tgt := 8) hx hb dX7_addSilt_40 (by decide) ?_
      exact ih _ _ _ _ _ B (lv_sub hl [0] rfl) hf
set_option maxRecDepth 100000 in
set_option maxHeartbeats 4000000 in
theorem c_X7_addSilt {l : Launch} {D : RG} {b : Nat} {h : AH} {l0 : Nat} {vv : Unit} {hh : AH} (hf : f_X7_addSilt h l0 = some (vv, hh)) : Met l yX7_addSilt (Cond.code yX7_addSilt cX7_addSilt 2 none :: wsL_law) ({ frames := 1, cells := 0, slots := 0, locals := 21 } : Room) (va_Pc [.ref l0] (r_I D b h)) (r_Q D b none hh) 0 0 (fun q => b ≤ q) := by
  refine r_ofW (own := RX7) rfl (by decide +kernel) (by simp [lg_sl, va_cat, cat_i, cat_r, cat_l]) ?_
  intro p e s m args below meth c ls X B hr hk hn hl
  have hl : lv_has ls 2 [(0, .ref l0)] := by simpa [lv_args, va_cat, cat_i, cat_r, cat_l] using hl
  have hl : lv_has ls 2 [(0, va_rf (some l0))] := hl
  obtain ⟨⟨hx, hb, hml, hown, hts⟩, -⟩ := id X
  generalize s.heap = H at B ⊢
  generalize ([] : List Loc) = locs at B ⊢
  unfold f_X7_addSilt at hf
  refine r_aload_n hx hb dX7_addSilt_0 rfl (lv_at hl 0 rfl) ?_
  refine r_gR X B hf fX7_5 (fun _ _ => rfl) m_53 dX7_addSilt_1 (fun v8 hf => ?_)
  refine r_gR X B hf fX2_0 (fun _ _ => rfl) m_405 dX7_addSilt_4 (fun v9 hf => ?_)
  refine r_astore_n (i := 1) (lv' := [(1, va_rf v9), (0, va_rf (some l0))]) hx hb dX7_addSilt_7 rfl hl (by decide) (by first | rfl | simp [va_cat, cat_i, cat_r, cat_l]) (fun ls hl => ?_)
  exact t_X7_addSilt_8 X hr hk hn  _ _ _ _ _ _ B (lv_sub hl [0] rfl) hf
def f_X7_keepTanks_101 (h : AH)  : Option (Unit × AH) := some ((), h)
def f_X7_keepTanks_60 (k_12 : AH → Nat → Int32 → Int32 → Option Nat → Option (Unit × AH)) (h : AH) (l0 : Nat) (l1 : Int32) (l2 : Int32) (l3 : Option Nat) : Option (Unit × AH) := gR h l3 5 2 (fun v1 => gR h l3 5 3 (fun v2 => rcv h v1 3 (fun a6 => cal (f_X3_becomeAs h a6 v2) (fun v3 h4 => gR h4 l3 5 1 (fun v9 => k_12 h4 l0 l1 l2 v9)))))
def f_X7_keepTanks_56 (k_12 : AH → Nat → Int32 → Int32 → Option Nat → Option (Unit × AH)) (h : AH) (l0 : Nat) (l1 : Int32) (l3 : Option Nat) (s0 : Int32) : Option (Unit × AH) := bd (l1 + 1) (fun v10 => f_X7_keepTanks_60 k_12 h l0 v10 s0 l3)
def f_X7_keepTanks_12 : Nat → AH → Nat → Int32 → Int32 → Option Nat → Option (Unit × AH)
  | 0, _, _, _, _, _ => none
  | n + 1, h, l0, l1, l2, l3 => nul l3 (if l1 ≤ 0 then f_X7_keepTanks_101 h else gI h (some l0) 7 8 (fun v11 => pI h (some l0) 7 12 v11 (fun h12 => pI h12 (some l0) 7 13 l2 (fun h13 => pI h13 (some l0) 7 14 l1 (fun h14 => f_X7_keepTanks_101 h14))))) (gR h l3 5 3 (fun v15 => gI h v15 3 2 (fun v16 => if v16 = 0 then f_X7_keepTanks_60 (f_X7_keepTanks_12 n) h l0 l1 l2 l3 else gR h l3 5 2 (fun v17 => gI h v17 3 2 (fun v18 => if v18 = 0 then gI h (some l0) 7 8 (fun v19 => pI h l3 5 8 v19 (fun h20 => if l1 = 0 then gI h20 l3 5 0 (fun v21 => f_X7_keepTanks_56 (f_X7_keepTanks_12 n) h20 l0 l1 l3 v21) else f_X7_keepTanks_56 (f_X7_keepTanks_12 n) h20 l0 l1 l3 l2)) else f_X7_keepTanks_60 (f_X7_keepTanks_12 n) h l0 l1 l2 l3)))))
def f_X7_keepTanks (h : AH) (l0 : Nat) : Option (Unit × AH) := gR h (some l0) 7 5 (fun v22 => gR h v22 2 0 (fun v23 => f_X7_keepTanks_12 FU h l0 0 (-1) v23))
set_option maxRecDepth 100000 in
set_option maxHeartbeats 4000000 in
theorem t_X7_keepTanks_101 {p : Program} {l : Launch} {e : Env} {s : State} {m : MethodId} {args : Array Value} {below : List Frame} {meth : Method} {c : Code} {D : RG} {b : Nat} {vv : Unit} {hh : AH} (X : r_C p c cX7_keepTanks 4 s m args RX7 D b) (hr : meth.sig.returnType = none) (hk : meth.locks = false) (hn : meth.name = "keepTanks") {h : AH} {H : Heap} {locs : List Loc} {ls : Array Slot}  (B : r_B D b s h H locs) (hl : lv_has ls 4 []) (hf : f_X7_keepTanks_101 h  = some (vv, hh)) : W p l e ({ frames := 1, cells := 0, slots := 0, locals := 21 } : Room) s m args below meth c H locs 0 0 (MQ below (r_Q D b none hh) args s 0 0 (fun q => b ≤ q)) (F0 m 101 ls []) := by
  obtain ⟨⟨hx, hb, hml, hown, hts⟩, -⟩ := id X
  unfold f_X7_keepTanks_101 at hf
  exact r_vret X B hr hk hf dX7_keepTanks_101
set_option maxRecDepth 100000 in
set_option maxHeartbeats 4000000 in
theorem t_X7_keepTanks_60 {p : Program} {l : Launch} {e : Env} {s : State} {m : MethodId} {args : Array Value} {below : List Frame} {meth : Method} {c : Code} {D : RG} {b : Nat} {vv : Unit} {hh : AH} (X : r_C p c cX7_keepTanks 4 s m args RX7 D b) (hr : meth.sig.returnType = none) (hk : meth.locks = false) (hn : meth.name = "keepTanks") {k_12 : AH → Nat → Int32 → Int32 → Option Nat → Option (Unit × AH)} (r_12 : ∀ (h : AH) (H : Heap) (locs : List Loc) (ls : Array Slot) (l0 : Nat) (l1 : Int32) (l2 : Int32) (l3 : Option Nat), r_B D b s h H locs → lv_has ls 4 [(0, va_rf (some l0)), (1, .int l1), (2, .int l2), (3, va_rf l3)] → k_12 h l0 l1 l2 l3 = some (vv, hh) → W p l e ({ frames := 1, cells := 0, slots := 0, locals := 21 } : Room) s m args below meth c H locs 0 0 (MQ below (r_Q D b none hh) args s 0 0 (fun q => b ≤ q)) (F0 m 12 ls [])) {h : AH} {H : Heap} {locs : List Loc} {ls : Array Slot} {l0 : Nat} {l1 : Int32} {l2 : Int32} {l3 : Option Nat} (B : r_B D b s h H locs) (hl : lv_has ls 4 [(0, va_rf (some l0)), (1, .int l1), (2, .int l2), (3, va_rf l3)]) (hf : f_X7_keepTanks_60 k_12 h l0 l1 l2 l3 = some (vv, hh)) : W p l e ({ frames := 1, cells := 0, slots := 0, locals := 21 } : Room) s m args below meth c H locs 0 0 (MQ below (r_Q D b none hh) args s 0 0 (fun q => b ≤ q)) (F0 m 60 ls []) := by
  obtain ⟨⟨hx, hb, hml, hown, hts⟩, -⟩ := id X
  unfold f_X7_keepTanks_60 at hf
  refine r_aload_n hx hb dX7_keepTanks_60 rfl (lv_at hl 3 rfl) ?_
  refine r_gR X B hf fX5_2 (fun _ _ => rfl) m_185 dX7_keepTanks_61 (fun v1 hf => ?_)
  refine r_aload_n hx hb dX7_keepTanks_64 rfl (lv_at hl 3 rfl) ?_
  refine r_gR X B hf fX5_3 (fun _ _ => rfl) m_540 dX7_keepTanks_65 (fun v2 hf => ?_)
  refine rcv_inv hf ?_
  intro a6 e7 s8 hf
  refine cal_inv hf ?_
  intro v3 h4 e5 hf
  refine r_call B (va_runV (As := [va_rf v2]) (rest := []) X.1 (c_X3_becomeAs (l := l) (D := D) (b := b) e5) (r_cwV X rfl m_543 m_473 m_474 m_87 m_475 rfl rfl hd_X3_becomeAs ⟨Nat.le_of_ble_eq_true rfl, Nat.le_of_ble_eq_true rfl⟩) (r_preV X B s8 rfl [va_rf v2]) rfl rfl hl.1 (by rw [e7]; rfl) (lv_room (by simp [va_cat, cat_i, cat_r, cat_l])) dX7_keepTanks_68 ⟨Nat.zero_le _, Nat.zero_le _⟩) ?_
  intro H locs B
  refine W.cs (cells' := 0) (slots' := 0) rfl rfl (W.eq (g2 := F0 m 71 ls []) rfl ?_)
  refine r_aload_n hx hb dX7_keepTanks_71 rfl (lv_at hl 3 rfl) ?_
  refine r_gR X B hf fX5_1 (fun _ _ => rfl) m_407 dX7_keepTanks_72 (fun v9 hf => ?_)
  refine r_astore_n (i := 3) (lv' := [(3, va_rf v9), (0, va_rf (some l0)), (1, .int l1), (2, .int l2)]) hx hb dX7_keepTanks_75 rfl hl (by decide) (by first | rfl | simp [va_cat, cat_i, cat_r, cat_l]) (fun ls hl => ?_)
  refine lv_goto (tgt := 12) hx hb dX7_keepTanks_76 (by decide) ?_
  exact r_12 _ _ _ _ _ _ _ _ B (lv_sub hl [1, 2, 3, 0] rfl) hf
set_option maxRecDepth 100000 in
set_option maxHeartbeats 4000000 in
theorem t_X7_keepTanks_56 {p : Program} {l : Launch} {e : Env} {s : State} {m : MethodId} {args : Array Value} {below : List Frame} {meth : Method} {c : Code} {D : RG} {b : Nat} {vv : Unit} {hh : AH} (X : r_C p c cX7_keepTanks 4 s m args RX7 D b) (hr : meth.sig.returnType = none) (hk : meth.locks = false) (hn : meth.name = "keepTanks") {k_12 : AH → Nat → Int32 → Int32 → Option Nat → Option (Unit × AH)} (r_12 : ∀ (h : AH) (H : Heap) (locs : List Loc) (ls : Array Slot) (l0 : Nat) (l1 : Int32) (l2 : Int32) (l3 : Option Nat), r_B D b s h H locs → lv_has ls 4 [(0, va_rf (some l0)), (1, .int l1), (2, .int l2), (3, va_rf l3)] → k_12 h l0 l1 l2 l3 = some (vv, hh) → W p l e ({ frames := 1, cells := 0, slots := 0, locals := 21 } : Room) s m args below meth c H locs 0 0 (MQ below (r_Q D b none hh) args s 0 0 (fun q => b ≤ q)) (F0 m 12 ls [])) {h : AH} {H : Heap} {locs : List Loc} {ls : Array Slot} {l0 : Nat} {l1 : Int32} {l3 : Option Nat} {s0 : Int32} (B : r_B D b s h H locs) (hl : lv_has ls 4 [(0, va_rf (some l0)), (1, .int l1), (3, va_rf l3)]) (hf : f_X7_keepTanks_56 k_12 h l0 l1 l3 s0 = some (vv, hh)) : W p l e ({ frames := 1, cells := 0, slots := 0, locals := 21 } : Room) s m args below meth c H locs 0 0 (MQ below (r_Q D b none hh) args s 0 0 (fun q => b ≤ q)) (F0 m 56 ls [.int s0]) := by
  obtain ⟨⟨hx, hb, hml, hown, hts⟩, -⟩ := id X
  unfold f_X7_keepTanks_56 at hf
  refine lv_istore_n (i := 2) (lv' := [(2, .int s0), (0, va_rf (some l0)), (1, .int l1), (3, va_rf l3)]) hx hb dX7_keepTanks_56 rfl hl (by decide) (by first | rfl | simp [va_cat, cat_i, cat_r, cat_l]) (fun ls hl => ?_)
  refine r_iinc (lv' := fun v10 => [(1, .int v10), (2, .int s0), (0, va_rf (some l0)), (3, va_rf l3)]) hx hb hf dX7_keepTanks_57 hl (k := 2) rfl (by decide) (by decide) (fun v => by first | rfl | simp [va_cat, cat_i, cat_r, cat_l]) (fun v10 ls hl hf => ?_)
  exact t_X7_keepTanks_60 X hr hk hn r_12 B (lv_sub hl [2, 0, 1, 3] rfl) hf
set_option maxRecDepth 100000 in
set_option maxHeartbeats 4000000 in
theorem t_X7_keepTanks_12 {p : Program} {l : Launch} {e : Env} {s : State} {m : MethodId} {args : Array Value} {below : List Frame} {meth : Method} {c : Code} {D : RG} {b : Nat} {vv : Unit} {hh : AH} (X : r_C p c cX7_keepTanks 4 s m args RX7 D b) (hr : meth.sig.returnType = none) (hk : meth.locks = false) (hn : meth.name = "keepTanks") : ∀ (n : Nat) (h : AH) (H : Heap) (locs : List Loc) (ls : Array Slot) (l0 : Nat) (l1 : Int32) (l2 : Int32) (l3 : Option Nat), r_B D b s h H locs → lv_has ls 4 [(0, va_rf (some l0)), (1, .int l1), (2, .int l2), (3, va_rf l3)] → f_X7_keepTanks_12 n h l0 l1 l2 l3 = some (vv, hh) → W p l e ({ frames := 1, cells := 0, slots := 0, locals := 21 } : Room) s m args below meth c H locs 0 0 (MQ below (r_Q D b none hh) args s 0 0 (fun q => b ≤ q)) (F0 m 12 ls []) := by
  obtain ⟨⟨hx, hb, hml, hown, hts⟩, -⟩ := id X
  intro n
  induction n with
  | zero =>
    intro h H locs ls l0 l1 l2 l3 B hl hf
    cases hf
  | succ n ih =>
    intro h H locs ls l0 l1 l2 l3 B hl hf
    unfold f_X7_keepTanks_12 at hf
    refine r_aload_n hx hb dX7_keepTanks_12 rfl (lv_at hl 3 rfl) ?_
    refine r_ifnull (tgt := 79) hx hb hf dX7_keepTanks_13 (by decide) (fun hf e_ => ?_) (fun hf e_ => ?_)
    · refine lv_iload_n hx hb dX7_keepTanks_79 rfl (lv_at hl 1 rfl) ?_
      refine lv_if_le (tgt := 101) hx hb dX7_keepTanks_80 (by decide) (fun q_ => ?_) (fun q_ => ?_)
      · have hf := (r_ite hf).1 q_
        exact t_X7_keepTanks_101 X hr hk hn  B (lv_sub hl [] rfl) hf
      · have hf := (r_ite hf).2 q_
        refine r_aload_n hx hb dX7_keepTanks_83 rfl (lv_at hl 0 rfl) ?_
        refine r_aload_n hx hb dX7_keepTanks_84 rfl (lv_at hl 0 rfl) ?_
        refine r_gI X B hf fX7_8 (fun _ _ => rfl) m_32 dX7_keepTanks_85 (fun v11 hf => ?_)
        refine r_pI X B hf fX7_12 (Or.inl rfl) m_36 dX7_keepTanks_88 (fun h12 H locs B hf => ?_)
        refine r_aload_n hx hb dX7_keepTanks_91 rfl (lv_at hl 0 rfl) ?_
        refine lv_iload_n hx hb dX7_keepTanks_92 rfl (lv_at hl 2 rfl) ?_
        refine r_pI X B hf fX7_13 (Or.inl rfl) m_37 dX7_keepTanks_93 (fun h13 H locs B hf => ?_)
        refine r_aload_n hx hb dX7_keepTanks_96 rfl (lv_at hl 0 rfl) ?_
        refine lv_iload_n hx hb dX7_keepTanks_97 rfl (lv_at hl 1 rfl) ?_
        refine r_pI X B hf fX7_14 (Or.inl rfl) m_38 dX7_keepTanks_98 (fun h14 H locs B hf => ?_)
        exact t_X7_keepTanks_101 X hr hk hn  B (lv_sub hl [] rfl) hf
    · refine r_aload_n hx hb dX7_keepTanks_16 rfl (lv_at hl 3 rfl) ?_
      refine r_gR X B hf fX5_3 (fun _ _ => rfl) m_540 dX7_keepTanks_17 (fun v15 hf => ?_)
      refine r_gI X B hf fX3_2 (fun _ _ => rfl) m_186 dX7_keepTanks_20 (fun v16 hf => ?_)
      refine lv_if_eq (tgt := 60) hx hb dX7_keepTanks_23 (by decide) (fun q_ => ?_) (fun q_ => ?_)
      · have hf := (r_ite hf).1 q_
        exact t_X7_keepTanks_60 X hr hk hn ih B (lv_sub hl [0, 1, 2, 3] rfl) hf
      · have hf := (r_ite hf).2 q_
        refine r_aload_n hx hb dX7_keepTanks_26 rfl (lv_at hl 3 rfl) ?_
        refine r_gR X B hf fX5_2 (fun _ _ => rfl) m_185 dX7_keepTanks_27 (fun v17 hf => ?_)
        refine r_gI X B hf fX3_2 (fun _ _ => rfl) m_186 dX7_keepTanks_30 (fun v18 hf => ?_)
        refine lv_if_ne (tgt := 60) hx hb dX7_keepTanks_33 (by decide) (fun q_ => ?_) (fun q_ => ?_)
        · have hf := (r_ite hf).2 q_
          exact t_X7_keepTanks_60 X hr hk hn ih B (lv_sub hl [0, 1, 2, 3] rfl) hf
        · have hf := (r_ite hf).1 q_
          refine r_aload_n hx hb dX7_keepTanks_36 rfl (lv_at hl 3 rfl) ?_
          refine r_aload_n hx hb dX7_keepTanks_37 rfl (lv_at hl 0 rfl) ?_
          refine r_gI X B hf fX7_8 (fun _ _ => rfl) m_32 dX7_keepTanks_38 (fun v19 hf => ?_)
          refine r_pI X B hf fX5_8 (Or.inl rfl) m_541 dX7_keepTanks_41 (fun h20 H locs B hf => ?_)
          refine lv_iload_n hx hb dX7_keepTanks_44 rfl (lv_at hl 1 rfl) ?_
          refine lv_if_ne (tgt := 55) hx hb dX7_keepTanks_45 (by decide) (fun q_ => ?_) (fun q_ => ?_)
          · have hf := (r_ite hf).2 q_
            refine lv_iload_n hx hb dX7_keepTanks_55 rfl (lv_at hl 2 rfl) ?_
            exact t_X7_keepTanks_56 X hr hk hn ih B (lv_sub hl [0, 1, 3] rfl) hf
          · have hf := (r_ite hf).1 q_
            refine r_aload_n hx hb dX7_keepTanks_48 rfl (lv_at hl 3 rfl) ?_
            refine r_gI X B hf fX5_0 (fun _ _ => rfl) m_542 dX7_keepTanks_49 (fun v21 hf => ?_)
            refine lv_goto (tgt := 56) hx hb dX7_keepTanks_52 (by decide) ?_
            exact t_X7_keepTanks_56 X hr hk hn ih B (lv_sub hl [0, 1, 3] rfl) hf
set_option maxRecDepth 100000 in
set_option maxHeartbeats 4000000 in
theorem c_X7_keepTanks {l : Launch} {D : RG} {b : Nat} {h : AH} {l0 : Nat} {vv : Unit} {hh : AH} (hf : f_X7_keepTanks h l0 = some (vv, hh)) : Met l yX7_keepTanks (Cond.code yX7_keepTanks cX7_keepTanks 4 none :: wsL_law) ({ frames := 1, cells := 0, slots := 0, locals := 21 } : Room) (va_Pc [.ref l0] (r_I D b h)) (r_Q D b none hh) 0 0 (fun q => b ≤ q) := by
  refine r_ofW (own := RX7) rfl (by decide +kernel) (by simp [lg_sl, va_cat, cat_i, cat_r, cat_l]) ?_
  intro p e s m args below meth c ls X B hr hk hn hl
  have hl : lv_has ls 4 [(0, .ref l0)] := by simpa [lv_args, va_cat, cat_i, cat_r, cat_l] using hl
  have hl : lv_has ls 4 [(0, va_rf (some l0))] := hl
  obtain ⟨⟨hx, hb, hml, hown, hts⟩, -⟩ := id X
  generalize s.heap = H at B ⊢
  generalize ([] : List Loc) = locs at B ⊢
  unfold f_X7_keepTanks at hf
  refine lv_iconst (v := 0) hx hb dX7_keepTanks_0 (by decide) ?_
  refine lv_istore_n (i := 1) (lv' := [(1, .int 0), (0, va_rf (some l0))]) hx hb dX7_keepTanks_1 rfl hl (by decide) (by first | rfl | simp [va_cat, cat_i, cat_r, cat_l]) (fun ls hl => ?_)
  refine lv_iconst (v := (-1)) hx hb dX7_keepTanks_2 (by decide) ?_
  refine lv_istore_n (i := 2) (lv' := [(2, .int (-1)), (1, .int 0), (0, va_rf (some l0))]) hx hb dX7_keepTanks_3 rfl hl (by decide) (by first | rfl | simp [va_cat, cat_i, cat_r, cat_l]) (fun ls hl => ?_)
  refine r_aload_n hx hb dX7_keepTanks_4 rfl (lv_at hl 2 rfl) ?_
  refine r_gR X B hf fX7_5 (fun _ _ => rfl) m_53 dX7_keepTanks_5 (fun v22 hf => ?_)
  refine r_gR X B hf fX2_0 (fun _ _ => rfl) m_405 dX7_keepTanks_8 (fun v23 hf => ?_)
  refine r_astore_n (i := 3) (lv' := [(3, va_rf v23), (2, .int (-1)), (1, .int 0), (0, va_rf (some l0))]) hx hb dX7_keepTanks_11 rfl hl (by decide) (by first | rfl | simp [va_cat, cat_i, cat_r, cat_l]) (fun ls hl => ?_)
  exact t_X7_keepTanks_12 X hr hk hn  _ _ _ _ _ _ _ _ _ B (lv_sub hl [3, 2, 1, 0] rfl) hf
def f_X7_keepFields_24 (k_2 : AH → Nat → Int32 → Option (Unit × AH)) (h : AH) (l0 : Nat) (l1 : Int32) : Option (Unit × AH) := bd (l1 + 1) (fun v1 => k_2 h l0 v1)
def f_X7_keepFields_2 : Nat → AH → Nat → Int32 → Option (Unit × AH)
  | 0, _, _, _ => none
  | n + 1, h, l0, l1 => gI h (some l0) 7 7 (fun v2 => if v2 ≤ l1 then some ((), h) else rcv h (some l0) 7 (fun a6 => cal (f_X7_fieldAt h a6 l1) (fun v3 h4 => nul v3 (f_X7_keepFields_24 (f_X7_keepFields_2 n) h4 l0 l1) (rcv h4 v3 1 (fun a12 => cal (f_X1_keepShare h4 a12) (fun v9 h10 => f_X7_keepFields_24 (f_X7_keepFields_2 n) h10 l0 l1))))))
def f_X7_keepFields (h : AH) (l0 : Nat) : Option (Unit × AH) := f_X7_keepFields_2 FU h l0 0
set_option maxRecDepth 100000 in
set_option maxHeartbeats 4000000 in
theorem t_X7_keepFields_24 {p : Program} {l : Launch} {e : Env} {s : State} {m : MethodId} {args : Array Value} {below : List Frame} {meth : Method} {c : Code} {D : RG} {b : Nat} {vv : Unit} {hh : AH} (X : r_C p c cX7_keepFields 3 s m args RX7 D b) (hr : meth.sig.returnType = none) (hk : meth.locks = false) (hn : meth.name = "keepFields") {k_2 : AH → Nat → Int32 → Option (Unit × AH)} (r_2 : ∀ (h : AH) (H : Heap) (locs : List Loc) (ls : Array Slot) (l0 : Nat) (l1 : Int32), r_B D b s h H locs → lv_has ls 3 [(0, va_rf (some l0)), (1, .int l1)] → k_2 h l0 l1 = some (vv, hh) → W p l e ({ frames := 2, cells := 0, slots := 0, locals := 40 } : Room) s m args below meth c H locs 0 0 (MQ below (r_Q D b none hh) args s 0 0 (fun q => b ≤ q)) (F0 m 2 ls [])) {h : AH} {H : Heap} {locs : List Loc} {ls : Array Slot} {l0 : Nat} {l1 : Int32} (B : r_B D b s h H locs) (hl : lv_has ls 3 [(0, va_rf (some l0)), (1, .int l1)]) (hf : f_X7_keepFields_24 k_2 h l0 l1 = some (vv, hh)) : W p l e ({ frames := 2, cells := 0, slots := 0, locals := 40 } : Room) s m args below meth c H locs 0 0 (MQ below (r_Q D b none hh) args s 0 0 (fun q => b ≤ q)) (F0 m 24 ls []) := by
  obtain ⟨⟨hx, hb, hml, hown, hts⟩, -⟩ := id X
  unfold f_X7_keepFields_24 at hf
  refine r_iinc (lv' := fun v1 => [(1, .int v1), (0, va_rf (some l0))]) hx hb hf dX7_keepFields_24 hl (k := 1) rfl (by decide) (by decide) (fun v => by first | rfl | simp [va_cat, cat_i, cat_r, cat_l]) (fun v1 ls hl hf => ?_)
  refine lv_goto (tgt := 2) hx hb dX7_keepFields_27 (by decide) ?_
  exact r_2 _ _ _ _ _ _ B (lv_sub hl [1, 0] rfl) hf
set_option maxRecDepth 100000 in
set_option maxHeartbeats 4000000 in
theorem t_X7_keepFields_2 {p : Program} {l : Launch} {e : Env} {s : State} {m : MethodId} {args : Array Value} {below : List Frame} {meth : Method} {c : Code} {D : RG} {b : Nat} {vv : Unit} {hh : AH} (X : r_C p c cX7_keepFields 3 s m args RX7 D b) (hr : meth.sig.returnType = none) (hk : meth.locks = false) (hn : meth.name = "keepFields") : ∀ (n : Nat) (h : AH) (H : Heap) (locs : List Loc) (ls : Array Slot) (l0 : Nat) (l1 : Int32), r_B D b s h H locs → lv_has ls 3 [(0, va_rf (some l0)), (1, .int l1)] → f_X7_keepFields_2 n h l0 l1 = some (vv, hh) → W p l e ({ frames := 2, cells := 0, slots := 0, locals := 40 } : Room) s m args below meth c H locs 0 0 (MQ below (r_Q D b none hh) args s 0 0 (fun q => b ≤ q)) (F0 m 2 ls []) := by
  obtain ⟨⟨hx, hb, hml, hown, hts⟩, -⟩ := id X
  intro n
  induction n with
  | zero =>
    intro h H locs ls l0 l1 B hl hf
    cases hf
  | succ n ih =>
    intro h H locs ls l0 l1 B hl hf
    unfold f_X7_keepFields_2 at hf
    refine lv_iload_n hx hb dX7_keepFields_2 rfl (lv_at hl 1 rfl) ?_
    refine r_aload_n hx hb dX7_keepFields_3 rfl (lv_at hl 0 rfl) ?_
    refine r_gI X B hf fX7_7 (fun _ _ => rfl) m_31 dX7_keepFields_4 (fun v2 hf => ?_)
    refine lv_icmp_ge (tgt := 30) hx hb dX7_keepFields_7 (by decide) (fun q_ => ?_) (fun q_ => ?_)
    · have hf := (r_ite hf).1 q_
      exact r_vret X B hr hk hf dX7_keepFields_30
    · have hf := (r_ite hf).2 q_
      refine r_aload_n hx hb dX7_keepFields_10 rfl (lv_at hl 0 rfl) ?_
      refine lv_iload_n hx hb dX7_keepFields_11 rfl (lv_at hl 1 rfl) ?_
      refine rcv_inv hf ?_
      intro a6 e7 s8 hf
      refine cal_inv hf ?_
      intro v3 h4 e5 hf
      refine r_call B (va_runV (As := [.int l1]) (rest := []) X.1 (c_X7_fieldAt (l := l) (D := D) (b := b) e5) (r_cwV X rfl m_409 m_410 m_411 m_2 m_412 rfl rfl hd_X7_fieldAt ⟨Nat.le_of_ble_eq_true rfl, Nat.le_of_ble_eq_true rfl⟩) (r_preV X B s8 rfl [.int l1]) rfl rfl hl.1 (by rw [e7]; rfl) (lv_room (by simp [va_cat, cat_i, cat_r, cat_l])) dX7_keepFields_12 ⟨Nat.zero_le _, Nat.zero_le _⟩) ?_
      intro H locs B
      refine W.cs (cells' := 0) (slots' := 0) rfl rfl (W.eq (g2 := F0 m 15 ls [va_rf v3]) rfl ?_)
      refine r_astore_n (i := 2) (lv' := [(2, va_rf v3), (0, va_rf (some l0)), (1, .int l1)]) hx hb dX7_keepFields_15 rfl hl (by decide) (by first | rfl | simp [va_cat, cat_i, cat_r, cat_l]) (fun ls hl => ?_)
      refine r_aload_n hx hb dX7_keepFields_16 rfl (lv_at hl 0 rfl) ?_
      refine r_ifnull (tgt := 24) hx hb hf dX7_keepFields_17 (by decide) (fun hf e_ => ?_) (fun hf e_ => ?_)
      · exact t_X7_keepFields_24 X hr hk hn ih B (lv_sub hl [1, 2] rfl) hf
      · refine r_aload_n hx hb dX7_keepFields_20 rfl (lv_at hl 0 rfl) ?_
        refine rcv_inv hf ?_
        intro a12 e13 s14 hf
        refine cal_inv hf ?_
        intro v9 h10 e11 hf
        refine r_call B (va_runV (As := []) (rest := []) X.1 (c_X1_keepShare (l := l) (D := D) (b := b) e11) (r_cwV X rfl m_548 m_549 m_550 m_206 m_551 rfl rfl hd_X1_keepShare ⟨Nat.le_of_ble_eq_true rfl, Nat.le_of_ble_eq_true rfl⟩) (r_preV X B s14 rfl []) rfl rfl hl.1 (by rw [e13]; rfl) (lv_room (by simp [va_cat, cat_i, cat_r, cat_l])) dX7_keepFields_21 ⟨Nat.zero_le _, Nat.zero_le _⟩) ?_
        intro H locs B
        refine W.cs (cells' := 0) (slots' := 0) rfl rfl (W.eq (g2 := F0 m 24 ls []) rfl ?_)
        exact t_X7_keepFields_24 X hr hk hn ih B (lv_sub hl [1, 2] rfl) hf
set_option maxRecDepth 100000 in
set_option maxHeartbeats 4000000 in
theorem c_X7_keepFields {l : Launch} {D : RG} {b : Nat} {h : AH} {l0 : Nat} {vv : Unit} {hh : AH} (hf : f_X7_keepFields h l0 = some (vv, hh)) : Met l yX7_keepFields (Cond.code yX7_keepFields cX7_keepFields 3 none :: wsL_law) ({ frames := 2, cells := 0, slots := 0, locals := 40 } : Room) (va_Pc [.ref l0] (r_I D b h)) (r_Q D b none hh) 0 0 (fun q => b ≤ q) := by
  refine r_ofW (own := RX7) rfl (by decide +kernel) (by simp [lg_sl, va_cat, cat_i, cat_r, cat_l]) ?_
  intro p e s m args below meth c ls X B hr hk hn hl
  have hl : lv_has ls 3 [(0, .ref l0)] := by simpa [lv_args, va_cat, cat_i, cat_r, cat_l] using hl
  have hl : lv_has ls 3 [(0, va_rf (some l0))] := hl
  obtain ⟨⟨hx, hb, hml, hown, hts⟩, -⟩ := id X
  generalize s.heap = H at B ⊢
  generalize ([] : List Loc) = locs at B ⊢
  unfold f_X7_keepFields at hf
  refine lv_iconst (v := 0) hx hb dX7_keepFields_0 (by decide) ?_
  refine lv_istore_n (i := 1) (lv' := [(1, .int 0), (0, va_rf (some l0))]) hx hb dX7_keepFields_1 rfl hl (by decide) (by first | rfl | simp [va_cat, cat_i, cat_r, cat_l]) (fun ls hl => ?_)
  exact t_X7_keepFields_2 X hr hk hn  _ _ _ _ _ _ _ B (lv_sub hl [1, 0] rfl) hf
def f_X7_day_63 (h : AH) (l0 : Nat) : Option (Int32 × AH) := gR h (some l0) 7 5 (fun v1 => rcv h v1 2 (fun a5 => cal (f_X2_startFromNow h a5) (fun v2 h3 => gR h3 (some l0) 7 5 (fun v8 => gI h3 (some l0) 7 9 (fun v9 => rcv h3 v8 2 (fun a13 => cal (f_X2_passDay h3 a13 v9) (fun v10 h11 => rcv h11 (some l0) 7 (fun a19 => cal (f_X7_keepTanks h11 a19) (fun v16 h17 => rcv h17 (some l0) 7 (fun a25 => cal (f_X7_keepFields h17 a25) (fun v22 h23 => gR h23 (some l0) 7 6 (fun v28 => gR h23 (some l0) 7 5 (fun v29 => gR h23 v29 2 2 (fun v30 => rcv h23 v28 4 (fun a34 => cal (f_X4_addAll h23 a34 v30) (fun v31 h32 => gI h32 (some l0) 7 8 (fun v37 => pI h32 (some l0) 7 8 (v37 + 1) (fun h38 => gI h38 (some l0) 7 8 (fun v39 => some (v39, h38))))))))))))))))))))
def f_X7_day_47 (h : AH) (l0 : Nat) : Option (Int32 × AH) := gI h (some l0) 7 8 (fun v40 => rm (v40 + 1) 100 (fun v41 => if v41 = 0 then rcv h (some l0) 7 (fun a45 => cal (f_X7_addSilt h a45) (fun v42 h43 => f_X7_day_63 h43 l0)) else f_X7_day_63 h l0))
def f_X7_day_35 (h : AH)  : Option (Int32 × AH) := some ((-1), h)
def f_X7_day_20 (h : AH) (l0 : Nat) (l1 : Int32) (s0 : Int32) : Option (Int32 × AH) := if s0 = 0 then f_X7_day_35 h else gI h (some l0) 7 8 (fun v48 => if v48 < 1000 then if l1 = (-1) then f_X7_day_47 h l0 else pI h (some l0) 7 9 l1 (fun h49 => f_X7_day_47 h49 l0) else f_X7_day_35 h)
def f_X7_day_15 (h : AH) (l0 : Nat) (l1 : Int32) : Option (Int32 × AH) := f_X7_day_20 h l0 l1 1
def f_X7_day (h : AH) (l0 : Nat) (l1 : Int32) : Option (Int32 × AH) := if l1 = (-1) then f_X7_day_15 h l0 l1 else cal (f_X7_isWithin h l1 0 50) (fun v50 h51 => if v50 = 0 then f_X7_day_20 h51 l0 l1 0 else f_X7_day_15 h51 l0 l1)
set_option maxRecDepth 100000 in
set_option maxHeartbeats 4000000 in
theorem t_X7_day_63 {p : Program} {l : Launch} {e : Env} {s : State} {m : MethodId} {args : Array Value} {below : List Frame} {meth : Method} {c : Code} {D : RG} {b : Nat} {vv : Int32} {hh : AH} (X : r_C p c cX7_day 3 s m args RX7 D b) (hr : meth.sig.returnType = (some .int)) (hk : meth.locks = false) (hn : meth.name = "day") {h : AH} {H : Heap} {locs : List Loc} {ls : Array Slot} {l0 : Nat} (B : r_B D b s h H locs) (hl : lv_has ls 3 [(0, va_rf (some l0))]) (hf : f_X7_day_63 h l0 = some (vv, hh)) : W p l e ({ frames := 5, cells := 0, slots := 0, locals := 129 } : Room) s m args below meth c H locs 0 0 (MQ below (r_Q D b (some (.int vv)) hh) args s 0 0 (fun q => b ≤ q)) (F0 m 63 ls []) := by
  obtain ⟨⟨hx, hb, hml, hown, hts⟩, -⟩ := id X
  unfold f_X7_day_63 at hf
  refine r_aload_n hx hb dX7_day_63 rfl (lv_at hl 0 rfl) ?_
  refine r_gR X B hf fX7_5 (fun _ _ => rfl) m_53 dX7_day_64 (fun v1 hf => ?_)
  refine rcv_inv hf ?_
  intro a5 e6 s7 hf
  refine cal_inv hf ?_
  intro v2 h3 e4 hf
  refine r_call B (va_runV (As := []) (rest := []) X.1 (c_X2_startFromNow (l := l) (D := D) (b := b) e4) (r_cwV X rfl m_465 m_466 m_467 m_52 m_468 rfl rfl hd_X2_startFromNow ⟨Nat.le_of_ble_eq_true rfl, Nat.le_of_ble_eq_true rfl⟩) (r_preV X B s7 rfl []) rfl rfl hl.1 (by rw [e6]; rfl) (lv_room (by simp [va_cat, cat_i, cat_r, cat_l])) dX7_day_67 ⟨Nat.zero_le _, Nat.zero_le _⟩) ?_
  intro H locs B
  refine W.cs (cells' := 0) (slots' := 0) rfl rfl (W.eq (g2 := F0 m 70 ls []) rfl ?_)
  refine r_aload_n hx hb dX7_day_70 rfl (lv_at hl 0 rfl) ?_
  refine r_gR X B hf fX7_5 (fun _ _ => rfl) m_53 dX7_day_71 (fun v8 hf => ?_)
  refine r_aload_n hx hb dX7_day_74 rfl (lv_at hl 0 rfl) ?_
  refine r_gI X B hf fX7_9 (fun _ _ => rfl) m_33 dX7_day_75 (fun v9 hf => ?_)
  refine rcv_inv hf ?_
  intro a13 e14 s15 hf
  refine cal_inv hf ?_
  intro v10 h11 e12 hf
  refine r_call B (va_runV (As := [.int v9]) (rest := []) X.1 (c_X2_passDay (l := l) (D := D) (b := b) e12) (r_cwV X rfl m_476 m_477 m_478 m_52 m_479 rfl rfl hd_X2_passDay ⟨Nat.le_of_ble_eq_true rfl, Nat.le_of_ble_eq_true rfl⟩) (r_preV X B s15 rfl [.int v9]) rfl rfl hl.1 (by rw [e14]; rfl) (lv_room (by simp [va_cat, cat_i, cat_r, cat_l])) dX7_day_78 ⟨Nat.zero_le _, Nat.zero_le _⟩) ?_
  intro H locs B
  refine W.cs (cells' := 0) (slots' := 0) rfl rfl (W.eq (g2 := F0 m 81 ls []) rfl ?_)
  refine r_aload_n hx hb dX7_day_81 rfl (lv_at hl 0 rfl) ?_
  refine rcv_inv hf ?_
  intro a19 e20 s21 hf
  refine cal_inv hf ?_
  intro v16 h17 e18 hf
  refine r_call B (va_runV (As := []) (rest := []) X.1 (c_X7_keepTanks (l := l) (D := D) (b := b) e18) (r_cwV X rfl m_536 m_537 m_538 m_2 m_539 rfl rfl hd_X7_keepTanks ⟨Nat.le_of_ble_eq_true rfl, Nat.le_of_ble_eq_true rfl⟩) (r_preV X B s21 rfl []) rfl rfl hl.1 (by rw [e20]; rfl) (lv_room (by simp [va_cat, cat_i, cat_r, cat_l])) dX7_day_82 ⟨Nat.zero_le _, Nat.zero_le _⟩) ?_
  intro H locs B
  refine W.cs (cells' := 0) (slots' := 0) rfl rfl (W.eq (g2 := F0 m 85 ls []) rfl ?_)
  refine r_aload_n hx hb dX7_day_85 rfl (lv_at hl 0 rfl) ?_
  refine rcv_inv hf ?_
  intro a25 e26 s27 hf
  refine cal_inv hf ?_
  intro v22 h23 e24 hf
  refine r_call B (va_runV (As := []) (rest := []) X.1 (c_X7_keepFields (l := l) (D := D) (b := b) e24) (r_cwV X rfl m_544 m_545 m_546 m_2 m_547 rfl rfl hd_X7_keepFields ⟨Nat.le_of_ble_eq_true rfl, Nat.le_of_ble_eq_true rfl⟩) (r_preV X B s27 rfl []) rfl rfl hl.1 (by rw [e26]; rfl) (lv_room (by simp [va_cat, cat_i, cat_r, cat_l])) dX7_day_86 ⟨Nat.zero_le _, Nat.zero_le _⟩) ?_
  intro H locs B
  refine W.cs (cells' := 0) (slots' := 0) rfl rfl (W.eq (g2 := F0 m 89 ls []) rfl ?_)
  refine r_aload_n hx hb dX7_day_89 rfl (lv_at hl 0 rfl) ?_
  refine r_gR X B hf fX7_6 (fun _ _ => rfl) m_30 dX7_day_90 (fun v28 hf => ?_)
  refine r_aload_n hx hb dX7_day_93 rfl (lv_at hl 0 rfl) ?_
  refine r_gR X B hf fX7_5 (fun _ _ => rfl) m_53 dX7_day_94 (fun v29 hf => ?_)
  refine r_gR X B hf fX2_2 (fun _ _ => rfl) m_460 dX7_day_97 (fun v30 hf => ?_)
  refine rcv_inv hf ?_
  intro a34 e35 s36 hf
  refine cal_inv hf ?_
  intro v31 h32 e33 hf
  refine r_call B (va_runV (As := [va_rf v30]) (rest := []) X.1 (c_X4_addAll (l := l) (D := D) (b := b) e33) (r_cwV X rfl m_553 m_554 m_555 m_29 m_556 rfl rfl hd_X4_addAll ⟨Nat.le_of_ble_eq_true rfl, Nat.le_of_ble_eq_true rfl⟩) (r_preV X B s36 rfl [va_rf v30]) rfl rfl hl.1 (by rw [e35]; rfl) (lv_room (by simp [va_cat, cat_i, cat_r, cat_l])) dX7_day_100 ⟨Nat.zero_le _, Nat.zero_le _⟩) ?_
  intro H locs B
  refine W.cs (cells' := 0) (slots' := 0) rfl rfl (W.eq (g2 := F0 m 103 ls []) rfl ?_)
  refine r_aload_n hx hb dX7_day_103 rfl (lv_at hl 0 rfl) ?_
  refine lv_dup hx hb dX7_day_104 (va_cat _) ?_
  refine r_gI X B hf fX7_8 (fun _ _ => rfl) m_32 dX7_day_105 (fun v37 hf => ?_)
  refine lv_iconst (v := 1) hx hb dX7_day_108 (by decide) ?_
  refine lv_iadd hx hb dX7_day_109 ?_
  refine r_pI X B hf fX7_8 (Or.inl rfl) m_32 dX7_day_110 (fun h38 H locs B hf => ?_)
  refine r_aload_n hx hb dX7_day_113 rfl (lv_at hl 0 rfl) ?_
  refine r_gI X B hf fX7_8 (fun _ _ => rfl) m_32 dX7_day_114 (fun v39 hf => ?_)
  exact r_iret X B hr hk hf dX7_day_117
set_option maxRecDepth 100000 in
set_option maxHeartbeats 4000000 in
theorem t_X7_day_47 {p : Program} {l : Launch} {e : Env} {s : State} {m : MethodId} {args : Array Value} {below : List Frame} {meth : Method} {c : Code} {D : RG} {b : Nat} {vv : Int32} {hh : AH} (X : r_C p c cX7_day 3 s m args RX7 D b) (hr : meth.sig.returnType = (some .int)) (hk : meth.locks = false) (hn : meth.name = "day") {h : AH} {H : Heap} {locs : List Loc} {ls : Array Slot} {l0 : Nat} (B : r_B D b s h H locs) (hl : lv_has ls 3 [(0, va_rf (some l0))]) (hf : f_X7_day_47 h l0 = some (vv, hh)) : W p l e ({ frames := 5, cells := 0, slots := 0, locals := 129 } : Room) s m args below meth c H locs 0 0 (MQ below (r_Q D b (some (.int vv)) hh) args s 0 0 (fun q => b ≤ q)) (F0 m 47 ls []) := by
  obtain ⟨⟨hx, hb, hml, hown, hts⟩, -⟩ := id X
  unfold f_X7_day_47 at hf
  refine r_aload_n hx hb dX7_day_47 rfl (lv_at hl 0 rfl) ?_
  refine r_gI X B hf fX7_8 (fun _ _ => rfl) m_32 dX7_day_48 (fun v40 hf => ?_)
  refine lv_iconst (v := 1) hx hb dX7_day_51 (by decide) ?_
  refine lv_iadd hx hb dX7_day_52 ?_
  refine lv_bipush (v := 100) hx hb dX7_day_53 (by decide) ?_
  refine r_rem hx hb hf dX7_day_55 (fun v41 hf => ?_)
  refine lv_if_ne (tgt := 63) hx hb dX7_day_56 (by decide) (fun q_ => ?_) (fun q_ => ?_)
  · have hf := (r_ite hf).2 q_
    exact t_X7_day_63 X hr hk hn  B (lv_sub hl [0] rfl) hf
  · have hf := (r_ite hf).1 q_
    refine r_aload_n hx hb dX7_day_59 rfl (lv_at hl 0 rfl) ?_
    refine rcv_inv hf ?_
    intro a45 e46 s47 hf
    refine cal_inv hf ?_
    intro v42 h43 e44 hf
    refine r_call B (va_runV (As := []) (rest := []) X.1 (c_X7_addSilt (l := l) (D := D) (b := b) e44) (r_cwV X rfl m_461 m_462 m_463 m_2 m_464 rfl rfl hd_X7_addSilt ⟨Nat.le_of_ble_eq_true rfl, Nat.le_of_ble_eq_true rfl⟩) (r_preV X B s47 rfl []) rfl rfl hl.1 (by rw [e46]; rfl) (lv_room (by simp [va_cat, cat_i, cat_r, cat_l])) dX7_day_60 ⟨Nat.zero_le _, Nat.zero_le _⟩) ?_
    intro H locs B
    refine W.cs (cells' := 0) (slots' := 0) rfl rfl (W.eq (g2 := F0 m 63 ls []) rfl ?_)
    exact t_X7_day_63 X hr hk hn  B (lv_sub hl [0] rfl) hf
set_option maxRecDepth 100000 in
set_option maxHeartbeats 4000000 in
theorem t_X7_day_35 {p : Program} {l : Launch} {e : Env} {s : State} {m : MethodId} {args : Array Value} {below : List Frame} {meth : Method} {c : Code} {D : RG} {b : Nat} {vv : Int32} {hh : AH} (X : r_C p c cX7_day 3 s m args RX7 D b) (hr : meth.sig.returnType = (some .int)) (hk : meth.locks = false) (hn : meth.name = "day") {h : AH} {H : Heap} {locs : List Loc} {ls : Array Slot}  (B : r_B D b s h H locs) (hl : lv_has ls 3 []) (hf : f_X7_day_35 h  = some (vv, hh)) : W p l e ({ frames := 5, cells := 0, slots := 0, locals := 129 } : Room) s m args below meth c H locs 0 0 (MQ below (r_Q D b (some (.int vv)) hh) args s 0 0 (fun q => b ≤ q)) (F0 m 35 ls []) := by
  obtain ⟨⟨hx, hb, hml, hown, hts⟩, -⟩ := id X
  unfold f_X7_day_35 at hf
  refine lv_iconst (v := (-1)) hx hb dX7_day_35 (by decide) ?_
  exact r_iret X B hr hk hf dX7_day_36
set_option maxRecDepth 100000 in
set_option maxHeartbeats 4000000 in
theorem t_X7_day_20 {p : Program} {l : Launch} {e : Env} {s : State} {m : MethodId} {args : Array Value} {below : List Frame} {meth : Method} {c : Code} {D : RG} {b : Nat} {vv : Int32} {hh : AH} (X : r_C p c cX7_day 3 s m args RX7 D b) (hr : meth.sig.returnType = (some .int)) (hk : meth.locks = false) (hn : meth.name = "day") {h : AH} {H : Heap} {locs : List Loc} {ls : Array Slot} {l0 : Nat} {l1 : Int32} {s0 : Int32} (B : r_B D b s h H locs) (hl : lv_has ls 3 [(0, va_rf (some l0)), (1, .int l1)]) (hf : f_X7_day_20 h l0 l1 s0 = some (vv, hh)) : W p l e ({ frames := 5, cells := 0, slots := 0, locals := 129 } : Room) s m args below meth c H locs 0 0 (MQ below (r_Q D b (some (.int vv)) hh) args s 0 0 (fun q => b ≤ q)) (F0 m 20 ls [.int s0]) := by
  obtain ⟨⟨hx, hb, hml, hown, hts⟩, -⟩ := id X
  unfold f_X7_day_20 at hf
  refine lv_istore_n (i := 2) (lv' := [(2, .int s0), (0, va_rf (some l0)), (1, .int l1)]) hx hb dX7_day_20 rfl hl (by decide) (by first | rfl | simp [va_cat, cat_i, cat_r, cat_l]) (fun ls hl => ?_)
  refine lv_iload_n hx hb dX7_day_21 rfl (lv_at hl 0 rfl) ?_
  refine lv_if_eq (tgt := 35) hx hb dX7_day_22 (by decide) (fun q_ => ?_) (fun q_ => ?_)
  · have hf := (r_ite hf).1 q_
    exact t_X7_day_35 X hr hk hn  B (lv_sub hl [] rfl) hf
  · have hf := (r_ite hf).2 q_
    refine r_aload_n hx hb dX7_day_25 rfl (lv_at hl 1 rfl) ?_
    refine r_gI X B hf fX7_8 (fun _ _ => rfl) m_32 dX7_day_26 (fun v48 hf => ?_)
    refine lv_sipush (v := 1000) hx hb dX7_day_29 (by decide) ?_
    refine lv_icmp_lt (tgt := 37) hx hb dX7_day_32 (by decide) (fun q_ => ?_) (fun q_ => ?_)
    · have hf := (r_ite hf).1 q_
      refine lv_iload_n hx hb dX7_day_37 rfl (lv_at hl 2 rfl) ?_
      refine lv_iconst (v := (-1)) hx hb dX7_day_38 (by decide) ?_
      refine lv_icmp_eq (tgt := 47) hx hb dX7_day_39 (by decide) (fun q_ => ?_) (fun q_ => ?_)
      · have hf := (r_ite hf).1 q_
        exact t_X7_day_47 X hr hk hn  B (lv_sub hl [1] rfl) hf
      · have hf := (r_ite hf).2 q_
        refine r_aload_n hx hb dX7_day_42 rfl (lv_at hl 1 rfl) ?_
        refine lv_iload_n hx hb dX7_day_43 rfl (lv_at hl 2 rfl) ?_
        refine r_pI X B hf fX7_9 (Or.inl rfl) m_33 dX7_day_44 (fun h49 H locs B hf => ?_)
        exact t_X7_day_47 X hr hk hn  B (lv_sub hl [1] rfl) hf
    · have hf := (r_ite hf).2 q_
      exact t_X7_day_35 X hr hk hn  B (lv_sub hl [] rfl) hf
set_option maxRecDepth 100000 in
set_option maxHeartbeats 4000000 in
theorem t_X7_day_15 {p : Program} {l : Launch} {e : Env} {s : State} {m : MethodId} {args : Array Value} {below : List Frame} {meth : Method} {c : Code} {D : RG} {b : Nat} {vv : Int32} {hh : AH} (X : r_C p c cX7_day 3 s m args RX7 D b) (hr : meth.sig.returnType = (some .int)) (hk : meth.locks = false) (hn : meth.name = "day") {h : AH} {H : Heap} {locs : List Loc} {ls : Array Slot} {l0 : Nat} {l1 : Int32} (B : r_B D b s h H locs) (hl : lv_has ls 3 [(0, va_rf (some l0)), (1, .int l1)]) (hf : f_X7_day_15 h l0 l1 = some (vv, hh)) : W p l e ({ frames := 5, cells := 0, slots := 0, locals := 129 } : Room) s m args below meth c H locs 0 0 (MQ below (r_Q D b (some (.int vv)) hh) args s 0 0 (fun q => b ≤ q)) (F0 m 15 ls []) := by
  obtain ⟨⟨hx, hb, hml, hown, hts⟩, -⟩ := id X
  unfold f_X7_day_15 at hf
  refine lv_iconst (v := 1) hx hb dX7_day_15 (by decide) ?_
  refine lv_goto (tgt := 20) hx hb dX7_day_16 (by decide) ?_
  exact t_X7_day_20 X hr hk hn  B (lv_sub hl [0, 1] rfl) hf
set_option maxRecDepth 100000 in
set_option maxHeartbeats 4000000 in
theorem c_X7_day {l : Launch} {D : RG} {b : Nat} {h : AH} {l0 : Nat} {l1 : Int32} {vv : Int32} {hh : AH} (hf : f_X7_day h l0 l1 = some (vv, hh)) : Met l yX7_day (Cond.code yX7_day cX7_day 3 (some .int) :: wsL_law) ({ frames := 5, cells := 0, slots := 0, locals := 129 } : Room) (va_Pc [.ref l0, .int l1] (r_I D b h)) (r_Q D b (some (.int vv)) hh) 0 0 (fun q => b ≤ q) := by
  refine r_ofW (own := RX7) rfl (by decide +kernel) (by simp [lg_sl, va_cat, cat_i, cat_r, cat_l]) ?_
  intro p e s m args below meth c ls X B hr hk hn hl
  have hl : lv_has ls 3 [(0, .ref l0), (1, .int l1)] := by simpa [lv_args, va_cat, cat_i, cat_r, cat_l] using hl
  have hl : lv_has ls 3 [(0, va_rf (some l0)), (1, .int l1)] := hl
  obtain ⟨⟨hx, hb, hml, hown, hts⟩, -⟩ := id X
  generalize s.heap = H at B ⊢
  generalize ([] : List Loc) = locs at B ⊢
  unfold f_X7_day at hf
  refine lv_iload_n hx hb dX7_day_0 rfl (lv_at hl 1 rfl) ?_
  refine lv_iconst (v := (-1)) hx hb dX7_day_1 (by decide) ?_
  refine lv_icmp_eq (tgt := 15) hx hb dX7_day_2 (by decide) (fun q_ => ?_) (fun q_ => ?_)
  · have hf := (r_ite hf).1 q_
    exact t_X7_day_15 X hr hk hn  B (lv_sub hl [0, 1] rfl) hf
  · have hf := (r_ite hf).2 q_
    refine lv_iload_n hx hb dX7_day_5 rfl (lv_at hl 1 rfl) ?_
    refine lv_iconst (v := 0) hx hb dX7_day_6 (by decide) ?_
    refine lv_bipush (v := 50) hx hb dX7_day_7 (by decide) ?_
    refine cal_inv hf ?_
    intro v50 h51 e52 hf
    refine r_call B (va_runS (As := [.int l1, .int 0, .int 50]) (rest := []) X.1 (c_X7_isWithin (l := l) (D := D) (b := b) e52) (r_cwS X m_166 m_167 m_2 m_168 rfl rfl hd_X7_isWithin ⟨Nat.le_of_ble_eq_true rfl, Nat.le_of_ble_eq_true rfl⟩) (r_preS X B [.int l1, .int 0, .int 50]) rfl rfl hl.1 rfl (lv_room (by simp [va_cat, cat_i, cat_r, cat_l])) dX7_day_9 ⟨Nat.zero_le _, Nat.zero_le _⟩) ?_
    intro H locs B
    refine W.cs (cells' := 0) (slots' := 0) rfl rfl (W.eq (g2 := F0 m 12 ls [.int v50]) rfl ?_)
    refine lv_if_eq (tgt := 19) hx hb dX7_day_12 (by decide) (fun q_ => ?_) (fun q_ => ?_)
    · have hf := (r_ite hf).1 q_
      refine lv_iconst (v := 0) hx hb dX7_day_19 (by decide) ?_
      exact t_X7_day_20 X hr hk hn  B (lv_sub hl [0, 1] rfl) hf
    · have hf := (r_ite hf).2 q_
      exact t_X7_day_15 X hr hk hn  B (lv_sub hl [0, 1] rfl) hf
def f_X7_asNumber_9 (h : AH) (s0 : Int32) : Option (Int32 × AH) := some (s0, h)
def f_X7_asNumber (h : AH) (l0 : Int32) : Option (Int32 × AH) := if l0 = 0 then f_X7_asNumber_9 h 0 else f_X7_asNumber_9 h 1
set_option maxRecDepth 100000 in
set_option maxHeartbeats 4000000 in
theorem t_X7_asNumber_9 {p : Program} {l : Launch} {e : Env} {s : State} {m : MethodId} {args : Array Value} {below : List Frame} {meth : Method} {c : Code} {D : RG} {b : Nat} {vv : Int32} {hh : AH} (X : r_C p c cX7_asNumber 1 s m args RX7 D b) (hr : meth.sig.returnType = (some .int)) (hk : meth.locks = false) (hn : meth.name = "asNumber") {h : AH} {H : Heap} {locs : List Loc} {ls : Array Slot} {s0 : Int32} (B : r_B D b s h H locs) (hl : lv_has ls 1 []) (hf : f_X7_asNumber_9 h s0 = some (vv, hh)) : W p l e ({ frames := 0, cells := 0, slots := 0, locals := 0 } : Room) s m args below meth c H locs 0 0 (MQ below (r_Q D b (some (.int vv)) hh) args s 0 0 (fun q => b ≤ q)) (F0 m 9 ls [.int s0]) := by
  obtain ⟨⟨hx, hb, hml, hown, hts⟩, -⟩ := id X
  unfold f_X7_asNumber_9 at hf
  exact r_iret X B hr hk hf dX7_asNumber_9
set_option maxRecDepth 100000 in
set_option maxHeartbeats 4000000 in
theorem c_X7_asNumber {l : Launch} {D : RG} {b : Nat} {h : AH} {l0 : Int32} {vv : Int32} {hh : AH} (hf : f_X7_asNumber h l0 = some (vv, hh)) : Met l yX7_asNumber (Cond.code yX7_asNumber cX7_asNumber 1 (some .int) :: wsL_law) ({ frames := 0, cells := 0, slots := 0, locals := 0 } : Room) (va_Pc [.int l0] (r_I D b h)) (r_Q D b (some (.int vv)) hh) 0 0 (fun q => b ≤ q) := by
  refine r_ofW (own := RX7) rfl (by decide +kernel) (by simp [lg_sl, va_cat, cat_i, cat_r, cat_l]) ?_
  intro p e s m args below meth c ls X B hr hk hn hl
  have hl : lv_has ls 1 [(0, .int l0)] := by simpa [lv_args, va_cat, cat_i, cat_r, cat_l] using hl
  have hl : lv_has ls 1 [(0, .int l0)] := hl
  obtain ⟨⟨hx, hb, hml, hown, hts⟩, -⟩ := id X
  generalize s.heap = H at B ⊢
  generalize ([] : List Loc) = locs at B ⊢
  unfold f_X7_asNumber at hf
  refine lv_iload_n hx hb dX7_asNumber_0 rfl (lv_at hl 0 rfl) ?_
  refine lv_if_eq (tgt := 8) hx hb dX7_asNumber_1 (by decide) (fun q_ => ?_) (fun q_ => ?_)
  · have hf := (r_ite hf).1 q_
    refine lv_iconst (v := 0) hx hb dX7_asNumber_8 (by decide) ?_
    exact t_X7_asNumber_9 X hr hk hn  B (lv_sub hl [] rfl) hf
  · have hf := (r_ite hf).2 q_
    refine lv_iconst (v := 1) hx hb dX7_asNumber_4 (by decide) ?_
    refine lv_goto (tgt := 9) hx hb dX7_asNumber_5 (by decide) ?_
    exact t_X7_asNumber_9 X hr hk hn  B (lv_sub hl [] rfl) hf
def f_X7_told (h : AH) (l0 : Nat) (l1 : Int32) (l2 : Int32) : Option (Int32 × AH) := rcv h (some l0) 7 (fun a4 => cal (f_X7_tankAt h a4 l1) (fun v1 h2 => nul v1 (some ((-1), h2)) (if l2 = 0 then gI h2 v1 5 4 (fun v7 => some (v7, h2)) else if l2 = 1 then gI h2 v1 5 5 (fun v8 => some (v8, h2)) else if l2 = 2 then gI h2 v1 5 6 (fun v9 => some (v9, h2)) else if l2 = 3 then gR h2 v1 5 2 (fun v10 => gI h2 v10 3 0 (fun v11 => some (v11, h2))) else if l2 = 4 then gR h2 v1 5 2 (fun v12 => gI h2 v12 3 1 (fun v13 => some (v13, h2))) else if l2 = 5 then gI h2 v1 5 7 (fun v14 => some (v14, h2)) else if l2 = 6 then gR h2 v1 5 2 (fun v15 => gI h2 v15 3 2 (fun v16 => cal (f_X7_asNumber h2 v16) (fun v17 h18 => some (v17, h18)))) else if l2 = 7 then gR h2 v1 5 2 (fun v20 => gI h2 v20 3 2 (fun v21 => rcv h2 v1 5 (fun a25 => cal (f_X5_roomIf h2 a25 v21) (fun v22 h23 => some (v22, h23))))) else if l2 = 8 then gR h2 v1 5 2 (fun v28 => gI h2 v28 3 3 (fun v29 => some (v29, h2))) else if l2 = 9 then gR h2 v1 5 2 (fun v30 => gI h2 v30 3 4 (fun v31 => some (v31, h2))) else if l2 = 10 then gI h2 v1 5 8 (fun v32 => some (v32, h2)) else if l2 = 11 then gR h2 v1 5 2 (fun v33 => gI h2 v33 3 0 (fun v34 => rcv h2 v1 5 (fun a38 => cal (f_X5_isBadYearWith h2 a38 v34) (fun v35 h36 => cal (f_X7_asNumber h36 v35) (fun v41 h42 => some (v41, h42)))))) else some ((-1), h2))))
set_option maxRecDepth 100000 in
set_option maxHeartbeats 4000000 in
theorem c_X7_told {l : Launch} {D : RG} {b : Nat} {h : AH} {l0 : Nat} {l1 : Int32} {l2 : Int32} {vv : Int32} {hh : AH} (hf : f_X7_told h l0 l1 l2 = some (vv, hh)) : Met l yX7_told (Cond.code yX7_told cX7_told 4 (some .int) :: wsL_law) ({ frames := 1, cells := 0, slots := 0, locals := 21 } : Room) (va_Pc [.ref l0, .int l1, .int l2] (r_I D b h)) (r_Q D b (some (.int vv)) hh) 0 0 (fun q => b ≤ q) := by
  refine r_ofW (own := RX7) rfl (by decide +kernel) (by simp [lg_sl, va_cat, cat_i, cat_r, cat_l]) ?_
  intro p e s m args below meth c ls X B hr hk hn hl
  have hl : lv_has ls 4 [(0, .ref l0), (1, .int l1), (2, .int l2)] := by simpa [lv_args, va_cat, cat_i, cat_r, cat_l] using hl
  have hl : lv_has ls 4 [(0, va_rf (some l0)), (1, .int l1), (2, .int l2)] := hl
  obtain ⟨⟨hx, hb, hml, hown, hts⟩, -⟩ := id X
  generalize s.heap = H at B ⊢
  generalize ([] : List Loc) = locs at B ⊢
  unfold f_X7_told at hf
  refine r_aload_n hx hb dX7_told_0 rfl (lv_at hl 0 rfl) ?_
  refine lv_iload_n hx hb dX7_told_1 rfl (lv_at hl 1 rfl) ?_
  refine rcv_inv hf ?_
  intro a4 e5 s6 hf
  refine cal_inv hf ?_
  intro v1 h2 e3 hf
  refine r_call B (va_runV (As := [.int l1]) (rest := []) X.1 (c_X7_tankAt (l := l) (D := D) (b := b) e3) (r_cwV X rfl m_162 m_163 m_164 m_2 m_165 rfl rfl hd_X7_tankAt ⟨Nat.le_of_ble_eq_true rfl, Nat.le_of_ble_eq_true rfl⟩) (r_preV X B s6 rfl [.int l1]) rfl rfl hl.1 (by rw [e5]; rfl) (lv_room (by simp [va_cat, cat_i, cat_r, cat_l])) dX7_told_2 ⟨Nat.zero_le _, Nat.zero_le _⟩) ?_
  intro H locs B
  refine W.cs (cells' := 0) (slots' := 0) rfl rfl (W.eq (g2 := F0 m 5 ls [va_rf v1]) rfl ?_)
  refine r_astore_n (i := 3) (lv' := [(3, va_rf v1), (0, va_rf (some l0)), (1, .int l1), (2, .int l2)]) hx hb dX7_told_5 rfl hl (by decide) (by first | rfl | simp [va_cat, cat_i, cat_r, cat_l]) (fun ls hl => ?_)
  refine r_aload_n hx hb dX7_told_6 rfl (lv_at hl 0 rfl) ?_
  refine r_ifnonnull (tgt := 12) hx hb hf dX7_told_7 (by decide) (fun hf e_ => ?_) (fun hf e_ => ?_)
  · refine lv_iconst (v := (-1)) hx hb dX7_told_10 (by decide) ?_
    exact r_iret X B hr hk hf dX7_told_11
  · refine lv_iload_n hx hb dX7_told_12 rfl (lv_at hl 3 rfl) ?_
    by_cases q_0 : l2 = 0
    · have hf := (r_ite hf).1 q_0
      refine lv_tableIn (off := 63) (tgt := 76) hx hb dX7_told_13 (by rw [q_0]; decide) (by rw [q_0]; decide) (by rw [q_0]; rfl) (by decide) ?_
      refine r_aload_n hx hb dX7_told_76 rfl (lv_at hl 0 rfl) ?_
      refine r_gI X B hf fX5_4 (fun _ _ => rfl) m_159 dX7_told_77 (fun v7 hf => ?_)
      exact r_iret X B hr hk hf dX7_told_80
    · have hf := (r_ite hf).2 q_0
      by_cases q_1 : l2 = 1
      · have hf := (r_ite hf).1 q_1
        refine lv_tableIn (off := 68) (tgt := 81) hx hb dX7_told_13 (by rw [q_1]; decide) (by rw [q_1]; decide) (by rw [q_1]; rfl) (by decide) ?_
        refine r_aload_n hx hb dX7_told_81 rfl (lv_at hl 0 rfl) ?_
        refine r_gI X B hf fX5_5 (fun _ _ => rfl) m_160 dX7_told_82 (fun v8 hf => ?_)
        exact r_iret X B hr hk hf dX7_told_85
      · have hf := (r_ite hf).2 q_1
        by_cases q_2 : l2 = 2
        · have hf := (r_ite hf).1 q_2
          refine lv_tableIn (off := 73) (tgt := 86) hx hb dX7_told_13 (by rw [q_2]; decide) (by rw [q_2]; decide) (by rw [q_2]; rfl) (by decide) ?_
          refine r_aload_n hx hb dX7_told_86 rfl (lv_at hl 0 rfl) ?_
          refine r_gI X B hf fX5_6 (fun _ _ => rfl) m_161 dX7_told_87 (fun v9 hf => ?_)
          exact r_iret X B hr hk hf dX7_told_90
        · have hf := (r_ite hf).2 q_2
          by_cases q_3 : l2 = 3
          · have hf := (r_ite hf).1 q_3
            refine lv_tableIn (off := 78) (tgt := 91) hx hb dX7_told_13 (by rw [q_3]; decide) (by rw [q_3]; decide) (by rw [q_3]; rfl) (by decide) ?_
            refine r_aload_n hx hb dX7_told_91 rfl (lv_at hl 0 rfl) ?_
            refine r_gR X B hf fX5_2 (fun _ _ => rfl) m_185 dX7_told_92 (fun v10 hf => ?_)
            refine r_gI X B hf fX3_0 (fun _ _ => rfl) m_187 dX7_told_95 (fun v11 hf => ?_)
            exact r_iret X B hr hk hf dX7_told_98
          · have hf := (r_ite hf).2 q_3
            by_cases q_4 : l2 = 4
            · have hf := (r_ite hf).1 q_4
              refine lv_tableIn (off := 86) (tgt := 99) hx hb dX7_told_13 (by rw [q_4]; decide) (by rw [q_4]; decide) (by rw [q_4]; rfl) (by decide) ?_
              refine r_aload_n hx hb dX7_told_99 rfl (lv_at hl 0 rfl) ?_
              refine r_gR X B hf fX5_2 (fun _ _ => rfl) m_185 dX7_told_100 (fun v12 hf => ?_)
              refine r_gI X B hf fX3_1 (fun _ _ => rfl) m_248 dX7_told_103 (fun v13 hf => ?_)
              exact r_iret X B hr hk hf dX7_told_106
            · have hf := (r_ite hf).2 q_4
              by_cases q_5 : l2 = 5
              · have hf := (r_ite hf).1 q_5
                refine lv_tableIn (off := 94) (tgt := 107) hx hb dX7_told_13 (by rw [q_5]; decide) (by rw [q_5]; decide) (by rw [q_5]; rfl) (by decide) ?_
                refine r_aload_n hx hb dX7_told_107 rfl (lv_at hl 0 rfl) ?_
                refine r_gI X B hf fX5_7 (fun _ _ => rfl) m_265 dX7_told_108 (fun v14 hf => ?_)
                exact r_iret X B hr hk hf dX7_told_111
              · have hf := (r_ite hf).2 q_5
                by_cases q_6 : l2 = 6
                · have hf := (r_ite hf).1 q_6
                  refine lv_tableIn (off := 99) (tgt := 112) hx hb dX7_told_13 (by rw [q_6]; decide) (by rw [q_6]; decide) (by rw [q_6]; rfl) (by decide) ?_
                  refine r_aload_n hx hb dX7_told_112 rfl (lv_at hl 0 rfl) ?_
                  refine r_gR X B hf fX5_2 (fun _ _ => rfl) m_185 dX7_told_113 (fun v15 hf => ?_)
                  refine r_gI X B hf fX3_2 (fun _ _ => rfl) m_186 dX7_told_116 (fun v16 hf => ?_)
                  refine cal_inv hf ?_
                  intro v17 h18 e19 hf
                  refine r_call B (va_runS (As := [.int v16]) (rest := []) X.1 (c_X7_asNumber (l := l) (D := D) (b := b) e19) (r_cwS X m_599 m_600 m_2 m_601 rfl rfl hd_X7_asNumber ⟨Nat.le_of_ble_eq_true rfl, Nat.le_of_ble_eq_true rfl⟩) (r_preS X B [.int v16]) rfl rfl hl.1 rfl (lv_room (by simp [va_cat, cat_i, cat_r, cat_l])) dX7_told_119 ⟨Nat.zero_le _, Nat.zero_le _⟩) ?_
                  intro H locs B
                  refine W.cs (cells' := 0) (slots' := 0) rfl rfl (W.eq (g2 := F0 m 122 ls [.int v17]) rfl ?_)
                  exact r_iret X B hr hk hf dX7_told_122
                · have hf := (r_ite hf).2 q_6
                  by_cases q_7 : l2 = 7
                  · have hf := (r_ite hf).1 q_7
                    refine lv_tableIn (off := 110) (tgt := 123) hx hb dX7_told_13 (by rw [q_7]; decide) (by rw [q_7]; decide) (by rw [q_7]; rfl) (by decide) ?_
                    refine r_aload_n hx hb dX7_told_123 rfl (lv_at hl 0 rfl) ?_
                    refine r_aload_n hx hb dX7_told_124 rfl (lv_at hl 0 rfl) ?_
                    refine r_gR X B hf fX5_2 (fun _ _ => rfl) m_185 dX7_told_125 (fun v20 hf => ?_)
                    refine r_gI X B hf fX3_2 (fun _ _ => rfl) m_186 dX7_told_128 (fun v21 hf => ?_)
                    refine rcv_inv hf ?_
                    intro a25 e26 s27 hf
                    refine cal_inv hf ?_
                    intro v22 h23 e24 hf
                    refine r_call B (va_runV (As := [.int v21]) (rest := []) X.1 (c_X5_roomIf (l := l) (D := D) (b := b) e24) (r_cwV X rfl m_188 m_189 m_190 m_49 m_191 rfl rfl hd_X5_roomIf ⟨Nat.le_of_ble_eq_true rfl, Nat.le_of_ble_eq_true rfl⟩) (r_preV X B s27 rfl [.int v21]) rfl rfl hl.1 (by rw [e26]; rfl) (lv_room (by simp [va_cat, cat_i, cat_r, cat_l])) dX7_told_131 ⟨Nat.zero_le _, Nat.zero_le _⟩) ?_
                    intro H locs B
                    refine W.cs (cells' := 0) (slots' := 0) rfl rfl (W.eq (g2 := F0 m 134 ls [.int v22]) rfl ?_)
                    exact r_iret X B hr hk hf dX7_told_134
                  · have hf := (r_ite hf).2 q_7
                    by_cases q_8 : l2 = 8
                    · have hf := (r_ite hf).1 q_8
                      refine lv_tableIn (off := 122) (tgt := 135) hx hb dX7_told_13 (by rw [q_8]; decide) (by rw [q_8]; decide) (by rw [q_8]; rfl) (by decide) ?_
                      refine r_aload_n hx hb dX7_told_135 rfl (lv_at hl 0 rfl) ?_
                      refine r_gR X B hf fX5_2 (fun _ _ => rfl) m_185 dX7_told_136 (fun v28 hf => ?_)
                      refine r_gI X B hf fX3_3 (fun _ _ => rfl) m_597 dX7_told_139 (fun v29 hf => ?_)
                      exact r_iret X B hr hk hf dX7_told_142
                    · have hf := (r_ite hf).2 q_8
                      by_cases q_9 : l2 = 9
                      · have hf := (r_ite hf).1 q_9
                        refine lv_tableIn (off := 130) (tgt := 143) hx hb dX7_told_13 (by rw [q_9]; decide) (by rw [q_9]; decide) (by rw [q_9]; rfl) (by decide) ?_
                        refine r_aload_n hx hb dX7_told_143 rfl (lv_at hl 0 rfl) ?_
                        refine r_gR X B hf fX5_2 (fun _ _ => rfl) m_185 dX7_told_144 (fun v30 hf => ?_)
                        refine r_gI X B hf fX3_4 (fun _ _ => rfl) m_598 dX7_told_147 (fun v31 hf => ?_)
                        exact r_iret X B hr hk hf dX7_told_150
                      · have hf := (r_ite hf).2 q_9
                        by_cases q_10 : l2 = 10
                        · have hf := (r_ite hf).1 q_10
                          refine lv_tableIn (off := 138) (tgt := 151) hx hb dX7_told_13 (by rw [q_10]; decide) (by rw [q_10]; decide) (by rw [q_10]; rfl) (by decide) ?_
                          refine r_aload_n hx hb dX7_told_151 rfl (lv_at hl 0 rfl) ?_
                          refine r_gI X B hf fX5_8 (fun _ _ => rfl) m_541 dX7_told_152 (fun v32 hf => ?_)
                          exact r_iret X B hr hk hf dX7_told_155
                        · have hf := (r_ite hf).2 q_10
                          by_cases q_11 : l2 = 11
                          · have hf := (r_ite hf).1 q_11
                            refine lv_tableIn (off := 143) (tgt := 156) hx hb dX7_told_13 (by rw [q_11]; decide) (by rw [q_11]; decide) (by rw [q_11]; rfl) (by decide) ?_
                            refine r_aload_n hx hb dX7_told_156 rfl (lv_at hl 0 rfl) ?_
                            refine r_aload_n hx hb dX7_told_157 rfl (lv_at hl 0 rfl) ?_
                            refine r_gR X B hf fX5_2 (fun _ _ => rfl) m_185 dX7_told_158 (fun v33 hf => ?_)
                            refine r_gI X B hf fX3_0 (fun _ _ => rfl) m_187 dX7_told_161 (fun v34 hf => ?_)
                            refine rcv_inv hf ?_
                            intro a38 e39 s40 hf
                            refine cal_inv hf ?_
                            intro v35 h36 e37 hf
                            refine r_call B (va_runV (As := [.int v34]) (rest := []) X.1 (c_X5_isBadYearWith (l := l) (D := D) (b := b) e37) (r_cwV X rfl m_602 m_514 m_515 m_49 m_516 rfl rfl hd_X5_isBadYearWith ⟨Nat.le_of_ble_eq_true rfl, Nat.le_of_ble_eq_true rfl⟩) (r_preV X B s40 rfl [.int v34]) rfl rfl hl.1 (by rw [e39]; rfl) (lv_room (by simp [va_cat, cat_i, cat_r, cat_l])) dX7_told_164 ⟨Nat.zero_le _, Nat.zero_le _⟩) ?_
                            intro H locs B
                            refine W.cs (cells' := 0) (slots' := 0) rfl rfl (W.eq (g2 := F0 m 167 ls [.int v35]) rfl ?_)
                            refine cal_inv hf ?_
                            intro v41 h42 e43 hf
                            refine r_call B (va_runS (As := [.int v35]) (rest := []) X.1 (c_X7_asNumber (l := l) (D := D) (b := b) e43) (r_cwS X m_599 m_600 m_2 m_601 rfl rfl hd_X7_asNumber ⟨Nat.le_of_ble_eq_true rfl, Nat.le_of_ble_eq_true rfl⟩) (r_preS X B [.int v35]) rfl rfl hl.1 rfl (lv_room (by simp [va_cat, cat_i, cat_r, cat_l])) dX7_told_167 ⟨Nat.zero_le _, Nat.zero_le _⟩) ?_
                            intro H locs B
                            refine W.cs (cells' := 0) (slots' := 0) rfl rfl (W.eq (g2 := F0 m 170 ls [.int v41]) rfl ?_)
                            exact r_iret X B hr hk hf dX7_told_170
                          · have hf := (r_ite hf).2 q_11
                            have w_0 := lv_neT (a := 0) q_0 (by decide)
                            have w_1 := lv_neT (a := 1) q_1 (by decide)
                            have w_2 := lv_neT (a := 2) q_2 (by decide)
                            have w_3 := lv_neT (a := 3) q_3 (by decide)
                            have w_4 := lv_neT (a := 4) q_4 (by decide)
                            have w_5 := lv_neT (a := 5) q_5 (by decide)
                            have w_6 := lv_neT (a := 6) q_6 (by decide)
                            have w_7 := lv_neT (a := 7) q_7 (by decide)
                            have w_8 := lv_neT (a := 8) q_8 (by decide)
                            have w_9 := lv_neT (a := 9) q_9 (by decide)
                            have w_10 := lv_neT (a := 10) q_10 (by decide)
                            have w_11 := lv_neT (a := 11) q_11 (by decide)
                            refine lv_tableOut (tgt := 171) hx hb dX7_told_13 (by omega) (by decide) ?_
                            refine lv_iconst (v := (-1)) hx hb dX7_told_171 (by decide) ?_
                            exact r_iret X B hr hk hf dX7_told_172
def f_X7_fieldOf (h : AH) (l0 : Nat) (l1 : Int32) (l2 : Int32) : Option (Int32 × AH) := rcv h (some l0) 7 (fun a4 => cal (f_X7_fieldAt h a4 l1) (fun v1 h2 => nul v1 (some ((-1), h2)) (if l2 = 0 then gI h2 v1 1 1 (fun v7 => some (v7, h2)) else if l2 = 1 then gI h2 v1 1 2 (fun v8 => some (v8, h2)) else if l2 = 2 then gI h2 v1 1 3 (fun v9 => some (v9, h2)) else if l2 = 3 then gI h2 v1 1 4 (fun v10 => some (v10, h2)) else if l2 = 4 then gI h2 v1 1 5 (fun v11 => cal (f_X7_asNumber h2 v11) (fun v12 h13 => some (v12, h13))) else if l2 = 5 then gI h2 v1 1 9 (fun v15 => some (v15, h2)) else if l2 = 6 then gI h2 v1 1 10 (fun v16 => some (v16, h2)) else if l2 = 7 then gI h2 v1 1 11 (fun v17 => some (v17, h2)) else some ((-1), h2))))
set_option maxRecDepth 100000 in
set_option maxHeartbeats 4000000 in
theorem c_X7_fieldOf {l : Launch} {D : RG} {b : Nat} {h : AH} {l0 : Nat} {l1 : Int32} {l2 : Int32} {vv : Int32} {hh : AH} (hf : f_X7_fieldOf h l0 l1 l2 = some (vv, hh)) : Met l yX7_fieldOf (Cond.code yX7_fieldOf cX7_fieldOf 4 (some .int) :: wsL_law) ({ frames := 1, cells := 0, slots := 0, locals := 21 } : Room) (va_Pc [.ref l0, .int l1, .int l2] (r_I D b h)) (r_Q D b (some (.int vv)) hh) 0 0 (fun q => b ≤ q) := by
  refine r_ofW (own := RX7) rfl (by decide +kernel) (by simp [lg_sl, va_cat, cat_i, cat_r, cat_l]) ?_
  intro p e s m args below meth c ls X B hr hk hn hl
  have hl : lv_has ls 4 [(0, .ref l0), (1, .int l1), (2, .int l2)] := by simpa [lv_args, va_cat, cat_i, cat_r, cat_l] using hl
  have hl : lv_has ls 4 [(0, va_rf (some l0)), (1, .int l1), (2, .int l2)] := hl
  obtain ⟨⟨hx, hb, hml, hown, hts⟩, -⟩ := id X
  generalize s.heap = H at B ⊢
  generalize ([] : List Loc) = locs at B ⊢
  unfold f_X7_fieldOf at hf
  refine r_aload_n hx hb dX7_fieldOf_0 rfl (lv_at hl 0 rfl) ?_
  refine lv_iload_n hx hb dX7_fieldOf_1 rfl (lv_at hl 1 rfl) ?_
  refine rcv_inv hf ?_
  intro a4 e5 s6 hf
  refine cal_inv hf ?_
  intro v1 h2 e3 hf
  refine r_call B (va_runV (As := [.int l1]) (rest := []) X.1 (c_X7_fieldAt (l := l) (D := D) (b := b) e3) (r_cwV X rfl m_409 m_410 m_411 m_2 m_412 rfl rfl hd_X7_fieldAt ⟨Nat.le_of_ble_eq_true rfl, Nat.le_of_ble_eq_true rfl⟩) (r_preV X B s6 rfl [.int l1]) rfl rfl hl.1 (by rw [e5]; rfl) (lv_room (by simp [va_cat, cat_i, cat_r, cat_l])) dX7_fieldOf_2 ⟨Nat.zero_le _, Nat.zero_le _⟩) ?_
  intro H locs B
  refine W.cs (cells' := 0) (slots' := 0) rfl rfl (W.eq (g2 := F0 m 5 ls [va_rf v1]) rfl ?_)
  refine r_astore_n (i := 3) (lv' := [(3, va_rf v1), (0, va_rf (some l0)), (1, .int l1), (2, .int l2)]) hx hb dX7_fieldOf_5 rfl hl (by decide) (by first | rfl | simp [va_cat, cat_i, cat_r, cat_l]) (fun ls hl => ?_)
  refine r_aload_n hx hb dX7_fieldOf_6 rfl (lv_at hl 0 rfl) ?_
  refine r_ifnonnull (tgt := 12) hx hb hf dX7_fieldOf_7 (by decide) (fun hf e_ => ?_) (fun hf e_ => ?_)
  · refine lv_iconst (v := (-1)) hx hb dX7_fieldOf_10 (by decide) ?_
    exact r_iret X B hr hk hf dX7_fieldOf_11
  · refine lv_iload_n hx hb dX7_fieldOf_12 rfl (lv_at hl 3 rfl) ?_
    by_cases q_0 : l2 = 0
    · have hf := (r_ite hf).1 q_0
      refine lv_tableIn (off := 47) (tgt := 60) hx hb dX7_fieldOf_13 (by rw [q_0]; decide) (by rw [q_0]; decide) (by rw [q_0]; rfl) (by decide) ?_
      refine r_aload_n hx hb dX7_fieldOf_60 rfl (lv_at hl 0 rfl) ?_
      refine r_gI X B hf fX1_1 (fun _ _ => rfl) m_408 dX7_fieldOf_61 (fun v7 hf => ?_)
      exact r_iret X B hr hk hf dX7_fieldOf_64
    · have hf := (r_ite hf).2 q_0
      by_cases q_1 : l2 = 1
      · have hf := (r_ite hf).1 q_1
        refine lv_tableIn (off := 52) (tgt := 65) hx hb dX7_fieldOf_13 (by rw [q_1]; decide) (by rw [q_1]; decide) (by rw [q_1]; rfl) (by decide) ?_
        refine r_aload_n hx hb dX7_fieldOf_65 rfl (lv_at hl 0 rfl) ?_
        refine r_gI X B hf fX1_2 (fun _ _ => rfl) m_611 dX7_fieldOf_66 (fun v8 hf => ?_)
        exact r_iret X B hr hk hf dX7_fieldOf_69
      · have hf := (r_ite hf).2 q_1
        by_cases q_2 : l2 = 2
        · have hf := (r_ite hf).1 q_2
          refine lv_tableIn (off := 57) (tgt := 70) hx hb dX7_fieldOf_13 (by rw [q_2]; decide) (by rw [q_2]; decide) (by rw [q_2]; rfl) (by decide) ?_
          refine r_aload_n hx hb dX7_fieldOf_70 rfl (lv_at hl 0 rfl) ?_
          refine r_gI X B hf fX1_3 (fun _ _ => rfl) m_612 dX7_fieldOf_71 (fun v9 hf => ?_)
          exact r_iret X B hr hk hf dX7_fieldOf_74
        · have hf := (r_ite hf).2 q_2
          by_cases q_3 : l2 = 3
          · have hf := (r_ite hf).1 q_3
            refine lv_tableIn (off := 62) (tgt := 75) hx hb dX7_fieldOf_13 (by rw [q_3]; decide) (by rw [q_3]; decide) (by rw [q_3]; rfl) (by decide) ?_
            refine r_aload_n hx hb dX7_fieldOf_75 rfl (lv_at hl 0 rfl) ?_
            refine r_gI X B hf fX1_4 (fun _ _ => rfl) m_613 dX7_fieldOf_76 (fun v10 hf => ?_)
            exact r_iret X B hr hk hf dX7_fieldOf_79
          · have hf := (r_ite hf).2 q_3
            by_cases q_4 : l2 = 4
            · have hf := (r_ite hf).1 q_4
              refine lv_tableIn (off := 67) (tgt := 80) hx hb dX7_fieldOf_13 (by rw [q_4]; decide) (by rw [q_4]; decide) (by rw [q_4]; rfl) (by decide) ?_
              refine r_aload_n hx hb dX7_fieldOf_80 rfl (lv_at hl 0 rfl) ?_
              refine r_gI X B hf fX1_5 (fun _ _ => rfl) m_614 dX7_fieldOf_81 (fun v11 hf => ?_)
              refine cal_inv hf ?_
              intro v12 h13 e14 hf
              refine r_call B (va_runS (As := [.int v11]) (rest := []) X.1 (c_X7_asNumber (l := l) (D := D) (b := b) e14) (r_cwS X m_599 m_600 m_2 m_601 rfl rfl hd_X7_asNumber ⟨Nat.le_of_ble_eq_true rfl, Nat.le_of_ble_eq_true rfl⟩) (r_preS X B [.int v11]) rfl rfl hl.1 rfl (lv_room (by simp [va_cat, cat_i, cat_r, cat_l])) dX7_fieldOf_84 ⟨Nat.zero_le _, Nat.zero_le _⟩) ?_
              intro H locs B
              refine W.cs (cells' := 0) (slots' := 0) rfl rfl (W.eq (g2 := F0 m 87 ls [.int v12]) rfl ?_)
              exact r_iret X B hr hk hf dX7_fieldOf_87
            · have hf := (r_ite hf).2 q_4
              by_cases q_5 : l2 = 5
              · have hf := (r_ite hf).1 q_5
                refine lv_tableIn (off := 75) (tgt := 88) hx hb dX7_fieldOf_13 (by rw [q_5]; decide) (by rw [q_5]; decide) (by rw [q_5]; rfl) (by decide) ?_
                refine r_aload_n hx hb dX7_fieldOf_88 rfl (lv_at hl 0 rfl) ?_
                refine r_gI X B hf fX1_9 (fun _ _ => rfl) m_615 dX7_fieldOf_89 (fun v15 hf => ?_)
                exact r_iret X B hr hk hf dX7_fieldOf_92
              · have hf := (r_ite hf).2 q_5
                by_cases q_6 : l2 = 6
                · have hf := (r_ite hf).1 q_6
                  refine lv_tableIn (off := 80) (tgt := 93) hx hb dX7_fieldOf_13 (by rw [q_6]; decide) (by rw [q_6]; decide) (by rw [q_6]; rfl) (by decide) ?_
                  refine r_aload_n hx hb dX7_fieldOf_93 rfl (lv_at hl 0 rfl) ?_
                  refine r_gI X B hf fX1_10 (fun _ _ => rfl) m_616 dX7_fieldOf_94 (fun v16 hf => ?_)
                  exact r_iret X B hr hk hf dX7_fieldOf_97
                · have hf := (r_ite hf).2 q_6
                  by_cases q_7 : l2 = 7
                  · have hf := (r_ite hf).1 q_7
                    refine lv_tableIn (off := 85) (tgt := 98) hx hb dX7_fieldOf_13 (by rw [q_7]; decide) (by rw [q_7]; decide) (by rw [q_7]; rfl) (by decide) ?_
                    refine r_aload_n hx hb dX7_fieldOf_98 rfl (lv_at hl 0 rfl) ?_
                    refine r_gI X B hf fX1_11 (fun _ _ => rfl) m_617 dX7_fieldOf_99 (fun v17 hf => ?_)
                    exact r_iret X B hr hk hf dX7_fieldOf_102
                  · have hf := (r_ite hf).2 q_7
                    have w_0 := lv_neT (a := 0) q_0 (by decide)
                    have w_1 := lv_neT (a := 1) q_1 (by decide)
                    have w_2 := lv_neT (a := 2) q_2 (by decide)
                    have w_3 := lv_neT (a := 3) q_3 (by decide)
                    have w_4 := lv_neT (a := 4) q_4 (by decide)
                    have w_5 := lv_neT (a := 5) q_5 (by decide)
                    have w_6 := lv_neT (a := 6) q_6 (by decide)
                    have w_7 := lv_neT (a := 7) q_7 (by decide)
                    refine lv_tableOut (tgt := 103) hx hb dX7_fieldOf_13 (by omega) (by decide) ?_
                    refine lv_iconst (v := (-1)) hx hb dX7_fieldOf_103 (by decide) ?_
                    exact r_iret X B hr hk hf dX7_fieldOf_104
def f_X7_order_25 : Nat → AH → Int32 → Int32 → Option Nat → Option (Int32 × AH)
  | 0, _, _, _, _ => none
  | n + 1, h, l2, l4, l5 => nul l5 (some ((-1), h)) (if l4 = l2 then gI h l5 1 0 (fun v3 => some (v3, h)) else bd (l4 + 1) (fun v1 => gR h l5 1 6 (fun v2 => f_X7_order_25 n h l2 v1 v2)))
def f_X7_order_14 (h : AH)  : Option (Int32 × AH) := some ((-1), h)
def f_X7_order (h : AH) (l0 : Nat) (l1 : Int32) (l2 : Int32) : Option (Int32 × AH) := rcv h (some l0) 7 (fun a7 => cal (f_X7_tankAt h a7 l1) (fun v4 h5 => nul v4 (f_X7_order_14 h5) (if 0 ≤ l2 then gR h5 v4 5 9 (fun v10 => f_X7_order_25 FU h5 l2 0 v10) else f_X7_order_14 h5)))
set_option maxRecDepth 100000 in
set_option maxHeartbeats 4000000 in
theorem t_X7_order_25 {p : Program} {l : Launch} {e : Env} {s : State} {m : MethodId} {args : Array Value} {below : List Frame} {meth : Method} {c : Code} {D : RG} {b : Nat} {vv : Int32} {hh : AH} (X : r_C p c cX7_order 6 s m args RX7 D b) (hr : meth.sig.returnType = (some .int)) (hk : meth.locks = false) (hn : meth.name = "order") : ∀ (n : Nat) (h : AH) (H : Heap) (locs : List Loc) (ls : Array Slot) (l2 : Int32) (l4 : Int32) (l5 : Option Nat), r_B D b s h H locs → lv_has ls 6 [(2, .int l2), (4, .int l4), (5, va_rf l5)] → f_X7_order_25 n h l2 l4 l5 = some (vv, hh) → W p l e ({ frames := 1, cells := 0, slots := 0, locals := 21 } : Room) s m args below meth c H locs 0 0 (MQ below (r_Q D b (some (.int vv)) hh) args s 0 0 (fun q => b ≤ q)) (F0 m 25 ls []) := by
  obtain ⟨⟨hx, hb, hml, hown, hts⟩, -⟩ := id X
  intro n
  induction n with
  | zero =>
    intro h H locs ls l2 l4 l5 B hl hf
    cases hf
  | succ n ih =>
    intro h H locs ls l2 l4 l5 B hl hf
    unfold f_X7_order_25 at hf
    refine r_aload hx hb dX7_order_25 (lv_at hl 2 rfl) ?_
    refine r_ifnull (tgt := 55) hx hb hf dX7_order_27 (by decide) (fun hf e_ => ?_) (fun hf e_ => ?_)
    · refine lv_iconst (v := (-1)) hx hb dX7_order_55 (by decide) ?_
      exact r_iret X B hr hk hf dX7_order_56
    · refine lv_iload hx hb dX7_order_30 (lv_at hl 1 rfl) ?_
      refine lv_iload_n hx hb dX7_order_32 rfl (lv_at hl 0 rfl) ?_
      refine lv_icmp_ne (tgt := 42) hx hb dX7_order_33 (by decide) (fun q_ => ?_) (fun q_ => ?_)
      · have hf := (r_ite hf).2 q_
        refine r_iinc (lv' := fun v1 => [(4, .int v1), (2, .int l2), (5, va_rf l5)]) hx hb hf dX7_order_42 hl (k := 1) rfl (by decide) (by decide) (fun v => by first | rfl | simp [va_cat, cat_i, cat_r, cat_l]) (fun v1 ls hl hf => ?_)
        refine r_aload hx hb dX7_order_45 (lv_at hl 2 rfl) ?_
        refine r_gR X B hf fX1_6 (fun _ _ => rfl) m_627 dX7_order_47 (fun v2 hf => ?_)
        refine r_astore (i := 5) (lv' := [(5, va_rf v2), (4, .int v1), (2, .int l2)]) hx hb dX7_order_50 hl (by decide) (by first | rfl | simp [va_cat, cat_i, cat_r, cat_l]) (fun ls hl => ?_)
        refine lv_goto (tgt := 25) hx hb dX7_order_52 (by decide) ?_
        exact ih _ _ _ _ _ _ _ B (lv_sub hl [2, 1, 0] rfl) hf
      · have hf := (r_ite hf).1 q_
        refine r_aload hx hb dX7_order_36 (lv_at hl 2 rfl) ?_
        refine r_gI X B hf fX1_0 (fun _ _ => rfl) m_626 dX7_order_38 (fun v3 hf => ?_)
        exact r_iret X B hr hk hf dX7_order_41
set_option maxRecDepth 100000 in
set_option maxHeartbeats 4000000 in
theorem t_X7_order_14 {p : Program} {l : Launch} {e : Env} {s : State} {m : MethodId} {args : Array Value} {below : List Frame} {meth : Method} {c : Code} {D : RG} {b : Nat} {vv : Int32} {hh : AH} (X : r_C p c cX7_order 6 s m args RX7 D b) (hr : meth.sig.returnType = (some .int)) (hk : meth.locks = false) (hn : meth.name = "order") {h : AH} {H : Heap} {locs : List Loc} {ls : Array Slot}  (B : r_B D b s h H locs) (hl : lv_has ls 6 []) (hf : f_X7_order_14 h  = some (vv, hh)) : W p l e ({ frames := 1, cells := 0, slots := 0, locals := 21 } : Room) s m args below meth c H locs 0 0 (MQ below (r_Q D b (some (.int vv)) hh) args s 0 0 (fun q => b ≤ q)) (F0 m 14 ls []) := by
  obtain ⟨⟨hx, hb, hml, hown, hts⟩, -⟩ := id X
  unfold f_X7_order_14 at hf
  refine lv_iconst (v := (-1)) hx hb dX7_order_14 (by decide) ?_
  exact r_iret X B hr hk hf dX7_order_15
set_option maxRecDepth 100000 in
set_option maxHeartbeats 4000000 in
theorem c_X7_order {l : Launch} {D : RG} {b : Nat} {h : AH} {l0 : Nat} {l1 : Int32} {l2 : Int32} {vv : Int32} {hh : AH} (hf : f_X7_order h l0 l1 l2 = some (vv, hh)) : Met l yX7_order (Cond.code yX7_order cX7_order 6 (some .int) :: wsL_law) ({ frames := 1, cells := 0, slots := 0, locals := 21 } : Room) (va_Pc [.ref l0, .int l1, .int l2] (r_I D b h)) (r_Q D b (some (.int vv)) hh) 0 0 (fun q => b ≤ q) := by
  refine r_ofW (own := RX7) rfl (by decide +kernel) (by simp [lg_sl, va_cat, cat_i, cat_r, cat_l]) ?_
  intro p e s m args below meth c ls X B hr hk hn hl
  have hl : lv_has ls 6 [(0, .ref l0), (1, .int l1), (2, .int l2)] := by simpa [lv_args, va_cat, cat_i, cat_r, cat_l] using hl
  have hl : lv_has ls 6 [(0, va_rf (some l0)), (1, .int l1), (2, .int l2)] := hl
  obtain ⟨⟨hx, hb, hml, hown, hts⟩, -⟩ := id X
  generalize s.heap = H at B ⊢
  generalize ([] : List Loc) = locs at B ⊢
  unfold f_X7_order at hf
  refine r_aload_n hx hb dX7_order_0 rfl (lv_at hl 0 rfl) ?_
  refine lv_iload_n hx hb dX7_order_1 rfl (lv_at hl 1 rfl) ?_
  refine rcv_inv hf ?_
  intro a7 e8 s9 hf
  refine cal_inv hf ?_
  intro v4 h5 e6 hf
  refine r_call B (va_runV (As := [.int l1]) (rest := []) X.1 (c_X7_tankAt (l := l) (D := D) (b := b) e6) (r_cwV X rfl m_162 m_163 m_164 m_2 m_165 rfl rfl hd_X7_tankAt ⟨Nat.le_of_ble_eq_true rfl, Nat.le_of_ble_eq_true rfl⟩) (r_preV X B s9 rfl [.int l1]) rfl rfl hl.1 (by rw [e8]; rfl) (lv_room (by simp [va_cat, cat_i, cat_r, cat_l])) dX7_order_2 ⟨Nat.zero_le _, Nat.zero_le _⟩) ?_
  intro H locs B
  refine W.cs (cells' := 0) (slots' := 0) rfl rfl (W.eq (g2 := F0 m 5 ls [va_rf v4]) rfl ?_)
  refine r_astore_n (i := 3) (lv' := [(3, va_rf v4), (0, va_rf (some l0)), (1, .int l1), (2, .int l2)]) hx hb dX7_order_5 rfl hl (by decide) (by first | rfl | simp [va_cat, cat_i, cat_r, cat_l]) (fun ls hl => ?_)
  refine r_aload_n hx hb dX7_order_6 rfl (lv_at hl 0 rfl) ?_
  refine r_ifnull (tgt := 14) hx hb hf dX7_order_7 (by decide) (fun hf e_ => ?_) (fun hf e_ => ?_)
  · exact t_X7_order_14 X hr hk hn  B (lv_sub hl [] rfl) hf
  · refine lv_iload_n hx hb dX7_order_10 rfl (lv_at hl 3 rfl) ?_
    refine lv_if_ge (tgt := 16) hx hb dX7_order_11 (by decide) (fun q_ => ?_) (fun q_ => ?_)
    · have hf := (r_ite hf).1 q_
      refine lv_iconst (v := 0) hx hb dX7_order_16 (by decide) ?_
      refine lv_istore (i := 4) (lv' := [(4, .int 0), (3, va_rf v4), (0, va_rf (some l0)), (1, .int l1), (2, .int l2)]) hx hb dX7_order_17 hl (by decide) (by first | rfl | simp [va_cat, cat_i, cat_r, cat_l]) (fun ls hl => ?_)
      refine r_aload_n hx hb dX7_order_19 rfl (lv_at hl 1 rfl) ?_
      refine r_gR X B hf fX5_9 (fun _ _ => rfl) m_406 dX7_order_20 (fun v10 hf => ?_)
      refine r_astore (i := 5) (lv' := [(5, va_rf v10), (4, .int 0), (3, va_rf v4), (0, va_rf (some l0)), (1, .int l1), (2, .int l2)]) hx hb dX7_order_23 hl (by decide) (by first | rfl | simp [va_cat, cat_i, cat_r, cat_l]) (fun ls hl => ?_)
      exact t_X7_order_25 X hr hk hn  _ _ _ _ _ _ _ _ B (lv_sub hl [5, 1, 0] rfl) hf
    · have hf := (r_ite hf).2 q_
      exact t_X7_order_14 X hr hk hn  B (lv_sub hl [] rfl) hf
def f_X7_owner_59 (k_16 : AH → Nat → Int32 → Int32 → Int32 → Option (Int32 × AH)) (h : AH) (l0 : Nat) (l1 : Int32) (l2 : Int32) (l3 : Int32) : Option (Int32 × AH) := bd (l3 + 1) (fun v1 => k_16 h l0 l1 l2 v1)
def f_X7_owner_16 : Nat → AH → Nat → Int32 → Int32 → Int32 → Option (Int32 × AH)
  | 0, _, _, _, _, _ => none
  | n + 1, h, l0, l1, l2, l3 => gI h (some l0) 7 7 (fun v2 => if v2 ≤ l3 then some (l2, h) else rcv h (some l0) 7 (fun a6 => cal (f_X7_fieldAt h a6 l3) (fun v3 h4 => nul v3 (f_X7_owner_59 (f_X7_owner_16 n) h4 l0 l1 l2 l3) (gI h4 v3 1 4 (fun v9 => if v9 = l1 then gI h4 v3 1 3 (fun v10 => gI h4 v3 1 9 (fun v11 => bd (l2 + (v10 * v11)) (fun v12 => f_X7_owner_59 (f_X7_owner_16 n) h4 l0 l1 v12 l3))) else f_X7_owner_59 (f_X7_owner_16 n) h4 l0 l1 l2 l3)))))
def f_X7_owner (h : AH) (l0 : Nat) (l1 : Int32) : Option (Int32 × AH) := cal (f_X7_isWithin h l1 0 9) (fun v13 h14 => if v13 = 0 then some ((-1), h14) else f_X7_owner_16 FU h14 l0 l1 0 0)
set_option maxRecDepth 100000 in
set_option maxHeartbeats 4000000 in
theorem t_X7_owner_59 {p : Program} {l : Launch} {e : Env} {s : State} {m : MethodId} {args : Array Value} {below : List Frame} {meth : Method} {c : Code} {D : RG} {b : Nat} {vv : Int32} {hh : AH} (X : r_C p c cX7_owner 5 s m args RX7 D b) (hr : meth.sig.returnType = (some .int)) (hk : meth.locks = false) (hn : meth.name = "owner") {k_16 : AH → Nat → Int32 → Int32 → Int32 → Option (Int32 × AH)} (r_16 : ∀ (h : AH) (H : Heap) (locs : List Loc) (ls : Array Slot) (l0 : Nat) (l1 : Int32) (l2 : Int32) (l3 : Int32), r_B D b s h H locs → lv_has ls 5 [(0, va_rf (some l0)), (1, .int l1), (2, .int l2), (3, .int l3)] → k_16 h l0 l1 l2 l3 = some (vv, hh) → W p l e ({ frames := 1, cells := 0, slots := 0, locals := 22 } : Room) s m args below meth c H locs 0 0 (MQ below (r_Q D b (some (.int vv)) hh) args s 0 0 (fun q => b ≤ q)) (F0 m 16 ls [])) {h : AH} {H : Heap} {locs : List Loc} {ls : Array Slot} {l0 : Nat} {l1 : Int32} {l2 : Int32} {l3 : Int32} (B : r_B D b s h H locs) (hl : lv_has ls 5 [(0, va_rf (some l0)), (1, .int l1), (2, .int l2), (3, .int l3)]) (hf : f_X7_owner_59 k_16 h l0 l1 l2 l3 = some (vv, hh)) : W p l e ({ frames := 1, cells := 0, slots := 0, locals := 22 } : Room) s m args below meth c H locs 0 0 (MQ below (r_Q D b (some (.int vv)) hh) args s 0 0 (fun q => b ≤ q)) (F0 m 59 ls []) := by
  obtain ⟨⟨hx, hb, hml, hown, hts⟩, -⟩ := id X
  unfold f_X7_owner_59 at hf
  refine r_iinc (lv' := fun v1 => [(3, .int v1), (0, va_rf (some l0)), (1, .int l1), (2, .int l2)]) hx hb hf dX7_owner_59 hl (k := 3) rfl (by decide) (by decide) (fun v => by first | rfl | simp [va_cat, cat_i, cat_r, cat_l]) (fun v1 ls hl hf => ?_)
  refine lv_goto (tgt := 16) hx hb dX7_owner_62 (by decide) ?_
  exact r_16 _ _ _ _ _ _ _ _ B (lv_sub hl [1, 2, 3, 0] rfl) hf
set_option maxRecDepth 100000 in
set_option maxHeartbeats 4000000 in
theorem t_X7_owner_16 {p : Program} {l : Launch} {e : Env} {s : State} {m : MethodId} {args : Array Value} {below : List Frame} {meth : Method} {c : Code} {D : RG} {b : Nat} {vv : Int32} {hh : AH} (X : r_C p c cX7_owner 5 s m args RX7 D b) (hr : meth.sig.returnType = (some .int)) (hk : meth.locks = false) (hn : meth.name = "owner") : ∀ (n : Nat) (h : AH) (H : Heap) (locs : List Loc) (ls : Array Slot) (l0 : Nat) (l1 : Int32) (l2 : Int32) (l3 : Int32), r_B D b s h H locs → lv_has ls 5 [(0, va_rf (some l0)), (1, .int l1), (2, .int l2), (3, .int l3)] → f_X7_owner_16 n h l0 l1 l2 l3 = some (vv, hh) → W p l e ({ frames := 1, cells := 0, slots := 0, locals := 22 } : Room) s m args below meth c H locs 0 0 (MQ below (r_Q D b (some (.int vv)) hh) args s 0 0 (fun q => b ≤ q)) (F0 m 16 ls []) := by
  obtain ⟨⟨hx, hb, hml, hown, hts⟩, -⟩ := id X
  intro n
  induction n with
  | zero =>
    intro h H locs ls l0 l1 l2 l3 B hl hf
    cases hf
  | succ n ih =>
    intro h H locs ls l0 l1 l2 l3 B hl hf
    unfold f_X7_owner_16 at hf
    refine lv_iload_n hx hb dX7_owner_16 rfl (lv_at hl 3 rfl) ?_
    refine r_aload_n hx hb dX7_owner_17 rfl (lv_at hl 0 rfl) ?_
    refine r_gI X B hf fX7_7 (fun _ _ => rfl) m_31 dX7_owner_18 (fun v2 hf => ?_)
    refine lv_icmp_ge (tgt := 65) hx hb dX7_owner_21 (by decide) (fun q_ => ?_) (fun q_ => ?_)
    · have hf := (r_ite hf).1 q_
      refine lv_iload_n hx hb dX7_owner_65 rfl (lv_at hl 2 rfl) ?_
      exact r_iret X B hr hk hf dX7_owner_66
    · have hf := (r_ite hf).2 q_
      refine r_aload_n hx hb dX7_owner_24 rfl (lv_at hl 0 rfl) ?_
      refine lv_iload_n hx hb dX7_owner_25 rfl (lv_at hl 3 rfl) ?_
      refine rcv_inv hf ?_
      intro a6 e7 s8 hf
      refine cal_inv hf ?_
      intro v3 h4 e5 hf
      refine r_call B (va_runV (As := [.int l3]) (rest := []) X.1 (c_X7_fieldAt (l := l) (D := D) (b := b) e5) (r_cwV X rfl m_409 m_410 m_411 m_2 m_412 rfl rfl hd_X7_fieldAt ⟨Nat.le_of_ble_eq_true rfl, Nat.le_of_ble_eq_true rfl⟩) (r_preV X B s8 rfl [.int l3]) rfl rfl hl.1 (by rw [e7]; rfl) (lv_room (by simp [va_cat, cat_i, cat_r, cat_l])) dX7_owner_26 ⟨Nat.zero_le _, Nat.zero_le _⟩) ?_
      intro H locs B
      refine W.cs (cells' := 0) (slots' := 0) rfl rfl (W.eq (g2 := F0 m 29 ls [va_rf v3]) rfl ?_)
      refine r_astore (i := 4) (lv' := [(4, va_rf v3), (0, va_rf (some l0)), (1, .int l1), (2, .int l2), (3, .int l3)]) hx hb dX7_owner_29 hl (by decide) (by first | rfl | simp [va_cat, cat_i, cat_r, cat_l]) (fun ls hl => ?_)
      refine r_aload hx hb dX7_owner_31 (lv_at hl 0 rfl) ?_
      refine r_ifnull (tgt := 59) hx hb hf dX7_owner_33 (by decide) (fun hf e_ => ?_) (fun hf e_ => ?_)
      · exact t_X7_owner_59 X hr hk hn ih B (lv_sub hl [1, 2, 3, 4] rfl) hf
      · refine r_aload hx hb dX7_owner_36 (lv_at hl 0 rfl) ?_
        refine r_gI X B hf fX1_4 (fun _ _ => rfl) m_613 dX7_owner_38 (fun v9 hf => ?_)
        refine lv_iload_n hx hb dX7_owner_41 rfl (lv_at hl 2 rfl) ?_
        refine lv_icmp_ne (tgt := 59) hx hb dX7_owner_42 (by decide) (fun q_ => ?_) (fun q_ => ?_)
        · have hf := (r_ite hf).2 q_
          exact t_X7_owner_59 X hr hk hn ih B (lv_sub hl [1, 2, 3, 4] rfl) hf
        · have hf := (r_ite hf).1 q_
          refine lv_iload_n hx hb dX7_owner_45 rfl (lv_at hl 3 rfl) ?_
          refine r_aload hx hb dX7_owner_46 (lv_at hl 0 rfl) ?_
          refine r_gI X B hf fX1_3 (fun _ _ => rfl) m_612 dX7_owner_48 (fun v10 hf => ?_)
          refine r_aload hx hb dX7_owner_51 (lv_at hl 0 rfl) ?_
          refine r_gI X B hf fX1_9 (fun _ _ => rfl) m_615 dX7_owner_53 (fun v11 hf => ?_)
          refine lv_imul hx hb dX7_owner_56 ?_
          refine lv_iadd hx hb dX7_owner_57 ?_
          refine r_bd hf (fun v12 hf => ?_)
          refine lv_istore_n (i := 2) (lv' := [(2, .int v12), (4, va_rf v3), (0, va_rf (some l0)), (1, .int l1), (3, .int l3)]) hx hb dX7_owner_58 rfl hl (by decide) (by first | rfl | simp [va_cat, cat_i, cat_r, cat_l]) (fun ls hl => ?_)
          exact t_X7_owner_59 X hr hk hn ih B (lv_sub hl [2, 3, 0, 4] rfl) hf
set_option maxRecDepth 100000 in
set_option maxHeartbeats 4000000 in
theorem c_X7_owner {l : Launch} {D : RG} {b : Nat} {h : AH} {l0 : Nat} {l1 : Int32} {vv : Int32} {hh : AH} (hf : f_X7_owner h l0 l1 = some (vv, hh)) : Met l yX7_owner (Cond.code yX7_owner cX7_owner 5 (some .int) :: wsL_law) ({ frames := 1, cells := 0, slots := 0, locals := 22 } : Room) (va_Pc [.ref l0, .int l1] (r_I D b h)) (r_Q D b (some (.int vv)) hh) 0 0 (fun q => b ≤ q) := by
  refine r_ofW (own := RX7) rfl (by decide +kernel) (by simp [lg_sl, va_cat, cat_i, cat_r, cat_l]) ?_
  intro p e s m args below meth c ls X B hr hk hn hl
  have hl : lv_has ls 5 [(0, .ref l0), (1, .int l1)] := by simpa [lv_args, va_cat, cat_i, cat_r, cat_l] using hl
  have hl : lv_has ls 5 [(0, va_rf (some l0)), (1, .int l1)] := hl
  obtain ⟨⟨hx, hb, hml, hown, hts⟩, -⟩ := id X
  generalize s.heap = H at B ⊢
  generalize ([] : List Loc) = locs at B ⊢
  unfold f_X7_owner at hf
  refine lv_iload_n hx hb dX7_owner_0 rfl (lv_at hl 1 rfl) ?_
  refine lv_iconst (v := 0) hx hb dX7_owner_1 (by decide) ?_
  refine lv_bipush (v := 9) hx hb dX7_owner_2 (by decide) ?_
  refine cal_inv hf ?_
  intro v13 h14 e15 hf
  refine r_call B (va_runS (As := [.int l1, .int 0, .int 9]) (rest := []) X.1 (c_X7_isWithin (l := l) (D := D) (b := b) e15) (r_cwS X m_166 m_167 m_2 m_168 rfl rfl hd_X7_isWithin ⟨Nat.le_of_ble_eq_true rfl, Nat.le_of_ble_eq_true rfl⟩) (r_preS X B [.int l1, .int 0, .int 9]) rfl rfl hl.1 rfl (lv_room (by simp [va_cat, cat_i, cat_r, cat_l])) dX7_owner_4 ⟨Nat.zero_le _, Nat.zero_le _⟩) ?_
  intro H locs B
  refine W.cs (cells' := 0) (slots' := 0) rfl rfl (W.eq (g2 := F0 m 7 ls [.int v13]) rfl ?_)
  refine lv_if_ne (tgt := 12) hx hb dX7_owner_7 (by decide) (fun q_ => ?_) (fun q_ => ?_)
  · have hf := (r_ite hf).2 q_
    refine lv_iconst (v := 0) hx hb dX7_owner_12 (by decide) ?_
    refine lv_istore_n (i := 2) (lv' := [(2, .int 0), (0, va_rf (some l0)), (1, .int l1)]) hx hb dX7_owner_13 rfl hl (by decide) (by first | rfl | simp [va_cat, cat_i, cat_r, cat_l]) (fun ls hl => ?_)
    refine lv_iconst (v := 0) hx hb dX7_owner_14 (by decide) ?_
    refine lv_istore_n (i := 3) (lv' := [(3, .int 0), (2, .int 0), (0, va_rf (some l0)), (1, .int l1)]) hx hb dX7_owner_15 rfl hl (by decide) (by first | rfl | simp [va_cat, cat_i, cat_r, cat_l]) (fun ls hl => ?_)
    exact t_X7_owner_16 X hr hk hn  _ _ _ _ _ _ _ _ _ B (lv_sub hl [2, 3, 1, 0] rfl) hf
  · have hf := (r_ite hf).1 q_
    refine lv_iconst (v := (-1)) hx hb dX7_owner_10 (by decide) ?_
    exact r_iret X B hr hk hf dX7_owner_11
