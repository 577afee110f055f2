def f_X0_init (h : AH) (l0 : Nat) : Option (Unit × AH) := nA h .int 10 10 (fun a1 h2 => pR h2 (some l0) 0 0 (some a1) (fun h3 => pI h3 (some l0) 0 1 0 (fun h4 => pI h4 (some l0) 0 2 9 (fun h5 => pI h5 (some l0) 0 3 0 (fun h6 => pZ h6 (some l0) 0 4 0 (fun h7 => pI h7 (some l0) 0 5 0 (fun h8 => some ((), h8))))))))
set_option maxRecDepth 100000 in
set_option maxHeartbeats 4000000 in
theorem c_X0_init {l : Launch} {D : RG} {b : Nat} {h : AH} {l0 : Nat} {vv : Unit} {hh : AH} (hf : f_X0_init h l0 = some (vv, hh)) : Met l yX0_init (Cond.code yX0_init cX0_init 1 none :: wsL_law) ({ frames := 1, cells := 1, slots := 10, locals := 12 } : Room) (va_Pc [.ref l0] (r_I D b h)) (r_Q D b none hh) 1 10 (fun q => b ≤ q) := by
  refine r_ofW (own := RX0) rfl (by decide +kernel) (by simp [lg_sl, va_cat, cat_i, cat_r, cat_l]) ?_
  intro p e s m args below meth c ls X B hr hk hn hl
  have hl : lv_has ls 1 [(0, .ref l0)] := by simpa [lv_args, va_cat, cat_i, cat_r, cat_l] using hl
  have hl : lv_has ls 1 [(0, va_rf (some l0))] := hl
  obtain ⟨⟨hx, hb, hml, hown, hts⟩, -⟩ := id X
  generalize s.heap = H at B ⊢
  generalize ([] : List Loc) = locs at B ⊢
  unfold f_X0_init at hf
  refine r_aload_n hx hb dX0_init_0 rfl (lv_at hl 0 rfl) ?_
  refine W.objInit hx hb hown (hts _ m_66) (hts _ m_14) (hts _ m_15) rfl (by rw [hml]; exact hl.1) rfl dX0_init_1 (Nat.le_of_ble_eq_true rfl) (Nat.le_of_ble_eq_true rfl) ?_
  refine W.eq (g2 := F0 m 4 ls []) rfl ?_
  refine r_aload_n hx hb dX0_init_4 rfl (lv_at hl 0 rfl) ?_
  refine lv_bipush (v := 10) hx hb dX0_init_5 (by decide) ?_
  refine r_newA X B hf rfl (by decide) m_67 (Nat.le_of_ble_eq_true rfl) (by decide) (by decide) rfl (fun _ _ z => z) dX0_init_7 (fun a1 h2 H B hf => ?_)
  refine W.cs (cells' := 1) (slots' := 10) rfl rfl ?_
  refine r_pR X B hf fX0_0 rfl (Or.inr ⟨rfl, hn, rfl⟩) m_68 dX0_init_9 (fun h3 H locs B hf => ?_)
  refine r_aload_n hx hb dX0_init_12 rfl (lv_at hl 0 rfl) ?_
  refine lv_iconst (v := 0) hx hb dX0_init_13 (by decide) ?_
  refine r_pI X B hf fX0_1 (Or.inl rfl) m_69 dX0_init_14 (fun h4 H locs B hf => ?_)
  refine r_aload_n hx hb dX0_init_17 rfl (lv_at hl 0 rfl) ?_
  refine lv_bipush (v := 9) hx hb dX0_init_18 (by decide) ?_
  refine r_pI X B hf fX0_2 (Or.inl rfl) m_70 dX0_init_20 (fun h5 H locs B hf => ?_)
  refine r_aload_n hx hb dX0_init_23 rfl (lv_at hl 0 rfl) ?_
  refine lv_iconst (v := 0) hx hb dX0_init_24 (by decide) ?_
  refine r_pI X B hf fX0_3 (Or.inl rfl) m_71 dX0_init_25 (fun h6 H locs B hf => ?_)
  refine r_aload_n hx hb dX0_init_28 rfl (lv_at hl 0 rfl) ?_
  refine lv_iconst (v := 0) hx hb dX0_init_29 (by decide) ?_
  refine r_pZ X B hf fX0_4 (Or.inl rfl) m_72 dX0_init_30 (fun h7 H locs B hf => ?_)
  refine r_aload_n hx hb dX0_init_33 rfl (lv_at hl 0 rfl) ?_
  refine lv_iconst (v := 0) hx hb dX0_init_34 (by decide) ?_
  refine r_pI X B hf fX0_5 (Or.inl rfl) m_73 dX0_init_35 (fun h8 H locs B hf => ?_)
  exact r_vret X B hr hk hf dX0_init_38
def f_X0_clear (h : AH) (l0 : Nat) : Option (Unit × AH) := pI h (some l0) 0 1 0 (fun h1 => pI h1 (some l0) 0 2 9 (fun h2 => pI h2 (some l0) 0 3 0 (fun h3 => pZ h3 (some l0) 0 4 0 (fun h4 => pI h4 (some l0) 0 5 0 (fun h5 => some ((), h5))))))
set_option maxRecDepth 100000 in
set_option maxHeartbeats 4000000 in
theorem c_X0_clear {l : Launch} {D : RG} {b : Nat} {h : AH} {l0 : Nat} {vv : Unit} {hh : AH} (hf : f_X0_clear h l0 = some (vv, hh)) : Met l yX0_clear (Cond.code yX0_clear cX0_clear 1 none :: wsL_law) ({ frames := 0, cells := 0, slots := 0, locals := 0 } : Room) (va_Pc [.ref l0] (r_I D b h)) (r_Q D b none hh) 0 0 (fun q => b ≤ q) := by
  refine r_ofW (own := RX0) rfl (by decide +kernel) (by simp [lg_sl, va_cat, cat_i, cat_r, cat_l]) ?_
  intro p e s m args below meth c ls X B hr hk hn hl
  have hl : lv_has ls 1 [(0, .ref l0)] := by simpa [lv_args, va_cat, cat_i, cat_r, cat_l] using hl
  have hl : lv_has ls 1 [(0, va_rf (some l0))] := hl
  obtain ⟨⟨hx, hb, hml, hown, hts⟩, -⟩ := id X
  generalize s.heap = H at B ⊢
  generalize ([] : List Loc) = locs at B ⊢
  unfold f_X0_clear at hf
  refine r_aload_n hx hb dX0_clear_0 rfl (lv_at hl 0 rfl) ?_
  refine lv_iconst (v := 0) hx hb dX0_clear_1 (by decide) ?_
  refine r_pI X B hf fX0_1 (Or.inl rfl) m_69 dX0_clear_2 (fun h1 H locs B hf => ?_)
  refine r_aload_n hx hb dX0_clear_5 rfl (lv_at hl 0 rfl) ?_
  refine lv_bipush (v := 9) hx hb dX0_clear_6 (by decide) ?_
  refine r_pI X B hf fX0_2 (Or.inl rfl) m_70 dX0_clear_8 (fun h2 H locs B hf => ?_)
  refine r_aload_n hx hb dX0_clear_11 rfl (lv_at hl 0 rfl) ?_
  refine lv_iconst (v := 0) hx hb dX0_clear_12 (by decide) ?_
  refine r_pI X B hf fX0_3 (Or.inl rfl) m_71 dX0_clear_13 (fun h3 H locs B hf => ?_)
  refine r_aload_n hx hb dX0_clear_16 rfl (lv_at hl 0 rfl) ?_
  refine lv_iconst (v := 0) hx hb dX0_clear_17 (by decide) ?_
  refine r_pZ X B hf fX0_4 (Or.inl rfl) m_72 dX0_clear_18 (fun h4 H locs B hf => ?_)
  refine r_aload_n hx hb dX0_clear_21 rfl (lv_at hl 0 rfl) ?_
  refine lv_iconst (v := 0) hx hb dX0_clear_22 (by decide) ?_
  refine r_pI X B hf fX0_5 (Or.inl rfl) m_73 dX0_clear_23 (fun h5 H locs B hf => ?_)
  exact r_vret X B hr hk hf dX0_clear_26
def f_X0_addFirst_32 (h : AH)  : Option (Unit × AH) := some ((), h)
def f_X0_addFirst (h : AH) (l0 : Nat) (l1 : Int32) : Option (Unit × AH) := gI h (some l0) 0 1 (fun v1 => gR h (some l0) 0 0 (fun v2 => aL (.int) h v2 (fun v3 => if v3 ≤ v1 then f_X0_addFirst_32 h else gR h (some l0) 0 0 (fun v4 => gI h (some l0) 0 1 (fun v5 => sI .int h v4 v5 l1 (fun h6 => gI h6 (some l0) 0 1 (fun v7 => pI h6 (some l0) 0 1 (v7 + 1) (fun h8 => f_X0_addFirst_32 h8))))))))
set_option maxRecDepth 100000 in
set_option maxHeartbeats 4000000 in
theorem t_X0_addFirst_32 {p : Program} {l : Launch} {e : Env} {s : State} {m : MethodId} {args : Array Value} {below : List Frame} {meth : Method} {c : Code} {D : RG} {b : Nat} {vv : Unit} {hh : AH} (X : r_C p c cX0_addFirst 2 s m args RX0 D b) (hr : meth.sig.returnType = none) (hk : meth.locks = false) (hn : meth.name = "addFirst") {h : AH} {H : Heap} {locs : List Loc} {ls : Array Slot}  (B : r_B D b s h H locs) (hl : lv_has ls 2 []) (hf : f_X0_addFirst_32 h  = some (vv, hh)) : W p l e ({ frames := 0, cells := 0, slots := 0, locals := 0 } : Room) s m args below meth c H locs 0 0 (MQ below (r_Q D b none hh) args s 0 0 (fun q => b ≤ q)) (F0 m 32 ls []) := by
  obtain ⟨⟨hx, hb, hml, hown, hts⟩, -⟩ := id X
  unfold f_X0_addFirst_32 at hf
  exact r_vret X B hr hk hf dX0_addFirst_32
set_option maxRecDepth 100000 in
set_option maxHeartbeats 4000000 in
theorem c_X0_addFirst {l : Launch} {D : RG} {b : Nat} {h : AH} {l0 : Nat} {l1 : Int32} {vv : Unit} {hh : AH} (hf : f_X0_addFirst h l0 l1 = some (vv, hh)) : Met l yX0_addFirst (Cond.code yX0_addFirst cX0_addFirst 2 none :: wsL_law) ({ frames := 0, cells := 0, slots := 0, locals := 0 } : Room) (va_Pc [.ref l0, .int l1] (r_I D b h)) (r_Q D b none hh) 0 0 (fun q => b ≤ q) := by
  refine r_ofW (own := RX0) rfl (by decide +kernel) (by simp [lg_sl, va_cat, cat_i, cat_r, cat_l]) ?_
  intro p e s m args below meth c ls X B hr hk hn hl
  have hl : lv_has ls 2 [(0, .ref l0), (1, .int l1)] := by simpa [lv_args, va_cat, cat_i, cat_r, cat_l] using hl
  have hl : lv_has ls 2 [(0, va_rf (some l0)), (1, .int l1)] := hl
  obtain ⟨⟨hx, hb, hml, hown, hts⟩, -⟩ := id X
  generalize s.heap = H at B ⊢
  generalize ([] : List Loc) = locs at B ⊢
  unfold f_X0_addFirst at hf
  refine r_aload_n hx hb dX0_addFirst_0 rfl (lv_at hl 0 rfl) ?_
  refine r_gI X B hf fX0_1 (fun _ _ => rfl) m_69 dX0_addFirst_1 (fun v1 hf => ?_)
  refine r_aload_n hx hb dX0_addFirst_4 rfl (lv_at hl 0 rfl) ?_
  refine r_gR X B hf fX0_0 (fun _ _ => rfl) m_68 dX0_addFirst_5 (fun v2 hf => ?_)
  refine r_aL X B hf (by decide) dX0_addFirst_8 (fun v3 hf => ?_)
  refine lv_icmp_ge (tgt := 32) hx hb dX0_addFirst_9 (by decide) (fun q_ => ?_) (fun q_ => ?_)
  · have hf := (r_ite hf).1 q_
    exact t_X0_addFirst_32 X hr hk hn  B (lv_sub hl [] rfl) hf
  · have hf := (r_ite hf).2 q_
    refine r_aload_n hx hb dX0_addFirst_12 rfl (lv_at hl 0 rfl) ?_
    refine r_gR X B hf fX0_0 (fun _ _ => rfl) m_68 dX0_addFirst_13 (fun v4 hf => ?_)
    refine r_aload_n hx hb dX0_addFirst_16 rfl (lv_at hl 0 rfl) ?_
    refine r_gI X B hf fX0_1 (fun _ _ => rfl) m_69 dX0_addFirst_17 (fun v5 hf => ?_)
    refine lv_iload_n hx hb dX0_addFirst_20 rfl (lv_at hl 1 rfl) ?_
    refine r_sIi X B hf dX0_addFirst_21 (fun h6 H locs B hf => ?_)
    refine r_aload_n hx hb dX0_addFirst_22 rfl (lv_at hl 0 rfl) ?_
    refine lv_dup hx hb dX0_addFirst_23 (va_cat _) ?_
    refine r_gI X B hf fX0_1 (fun _ _ => rfl) m_69 dX0_addFirst_24 (fun v7 hf => ?_)
    refine lv_iconst (v := 1) hx hb dX0_addFirst_27 (by decide) ?_
    refine lv_iadd hx hb dX0_addFirst_28 ?_
    refine r_pI X B hf fX0_1 (Or.inl rfl) m_69 dX0_addFirst_29 (fun h8 H locs B hf => ?_)
    exact t_X0_addFirst_32 X hr hk hn  B (lv_sub hl [] rfl) hf
def f_X0_becomeAs_39 (h : AH) (l0 : Nat) (l1 : Option Nat) : Option (Unit × AH) := gI h l1 0 2 (fun v1 => pI h (some l0) 0 2 v1 (fun h2 => gI h2 l1 0 3 (fun v3 => pI h2 (some l0) 0 3 v3 (fun h4 => gI h4 l1 0 4 (fun v5 => pZ h4 (some l0) 0 4 v5 (fun h6 => gI h6 l1 0 5 (fun v7 => pI h6 (some l0) 0 5 v7 (fun h8 => some ((), h8)))))))))
def f_X0_becomeAs_6 : Nat → AH → Nat → Option Nat → Int32 → Option (Unit × AH)
  | 0, _, _, _, _ => none
  | n + 1, h, l0, l1, l2 => gI h l1 0 1 (fun v9 => if v9 ≤ l2 then f_X0_becomeAs_39 h l0 l1 else gR h l1 0 0 (fun v10 => aL (.int) h v10 (fun v11 => if v11 ≤ l2 then f_X0_becomeAs_39 h l0 l1 else gR h l1 0 0 (fun v12 => aI .int h v12 l2 (fun v13 => rcv h (some l0) 0 (fun a17 => cal (f_X0_addFirst h a17 v13) (fun v14 h15 => bd (l2 + 1) (fun v20 => f_X0_becomeAs_6 n h15 l0 l1 v20))))))))
def f_X0_becomeAs (h : AH) (l0 : Nat) (l1 : Option Nat) : Option (Unit × AH) := rcv h (some l0) 0 (fun a24 => cal (f_X0_clear h a24) (fun v21 h22 => f_X0_becomeAs_6 FU h22 l0 l1 0))
set_option maxRecDepth 100000 in
set_option maxHeartbeats 4000000 in
theorem t_X0_becomeAs_39 {p : Program} {l : Launch} {e : Env} {s : State} {m : MethodId} {args : Array Value} {below : List Frame} {meth : Method} {c : Code} {D : RG} {b : Nat} {vv : Unit} {hh : AH} (X : r_C p c cX0_becomeAs 3 s m args RX0 D b) (hr : meth.sig.returnType = none) (hk : meth.locks = false) (hn : meth.name = "becomeAs") {h : AH} {H : Heap} {locs : List Loc} {ls : Array Slot} {l0 : Nat} {l1 : Option Nat} (B : r_B D b s h H locs) (hl : lv_has ls 3 [(0, va_rf (some l0)), (1, va_rf l1)]) (hf : f_X0_becomeAs_39 h l0 l1 = some (vv, hh)) : W p l e ({ frames := 1, cells := 0, slots := 0, locals := 21 } : Room) s m args below meth c H locs 0 0 (MQ below (r_Q D b none hh) args s 0 0 (fun q => b ≤ q)) (F0 m 39 ls []) := by
  obtain ⟨⟨hx, hb, hml, hown, hts⟩, -⟩ := id X
  unfold f_X0_becomeAs_39 at hf
  refine r_aload_n hx hb dX0_becomeAs_39 rfl (lv_at hl 0 rfl) ?_
  refine r_aload_n hx hb dX0_becomeAs_40 rfl (lv_at hl 1 rfl) ?_
  refine r_gI X B hf fX0_2 (fun _ _ => rfl) m_70 dX0_becomeAs_41 (fun v1 hf => ?_)
  refine r_pI X B hf fX0_2 (Or.inl rfl) m_70 dX0_becomeAs_44 (fun h2 H locs B hf => ?_)
  refine r_aload_n hx hb dX0_becomeAs_47 rfl (lv_at hl 0 rfl) ?_
  refine r_aload_n hx hb dX0_becomeAs_48 rfl (lv_at hl 1 rfl) ?_
  refine r_gI X B hf fX0_3 (fun _ _ => rfl) m_71 dX0_becomeAs_49 (fun v3 hf => ?_)
  refine r_pI X B hf fX0_3 (Or.inl rfl) m_71 dX0_becomeAs_52 (fun h4 H locs B hf => ?_)
  refine r_aload_n hx hb dX0_becomeAs_55 rfl (lv_at hl 0 rfl) ?_
  refine r_aload_n hx hb dX0_becomeAs_56 rfl (lv_at hl 1 rfl) ?_
  refine r_gI X B hf fX0_4 (fun _ _ => rfl) m_72 dX0_becomeAs_57 (fun v5 hf => ?_)
  refine r_pZ X B hf fX0_4 (Or.inl rfl) m_72 dX0_becomeAs_60 (fun h6 H locs B hf => ?_)
  refine r_aload_n hx hb dX0_becomeAs_63 rfl (lv_at hl 0 rfl) ?_
  refine r_aload_n hx hb dX0_becomeAs_64 rfl (lv_at hl 1 rfl) ?_
  refine r_gI X B hf fX0_5 (fun _ _ => rfl) m_73 dX0_becomeAs_65 (fun v7 hf => ?_)
  refine r_pI X B hf fX0_5 (Or.inl rfl) m_73 dX0_becomeAs_68 (fun h8 H locs B hf => ?_)
  exact r_vret X B hr hk hf dX0_becomeAs_71
set_option maxRecDepth 100000 in
set_option maxHeartbeats 4000000 in
theorem t_X0_becomeAs_6 {p : Program} {l : Launch} {e : Env} {s : State} {m : MethodId} {args : Array Value} {below : List Frame} {meth : Method} {c : Code} {D : RG} {b : Nat} {vv : Unit} {hh : AH} (X : r_C p c cX0_becomeAs 3 s m args RX0 D b) (hr : meth.sig.returnType = none) (hk : meth.locks = false) (hn : meth.name = "becomeAs") : ∀ (n : Nat) (h : AH) (H : Heap) (locs : List Loc) (ls : Array Slot) (l0 : Nat) (l1 : Option Nat) (l2 : Int32), r_B D b s h H locs → lv_has ls 3 [(0, va_rf (some l0)), (1, va_rf l1), (2, .int l2)] → f_X0_becomeAs_6 n h l0 l1 l2 = some (vv, hh) → W p l e ({ frames := 1, cells := 0, slots := 0, locals := 21 } : Room) s m args below meth c H locs 0 0 (MQ below (r_Q D b none hh) args s 0 0 (fun q => b ≤ q)) (F0 m 6 ls []) := by
  obtain ⟨⟨hx, hb, hml, hown, hts⟩, -⟩ := id X
  intro n
  induction n with
  | zero =>
    intro h H locs ls l0 l1 l2 B hl hf
    cases hf
  | succ n ih =>
    intro h H locs ls l0 l1 l2 B hl hf
    unfold f_X0_becomeAs_6 at hf
    refine lv_iload_n hx hb dX0_becomeAs_6 rfl (lv_at hl 2 rfl) ?_
    refine r_aload_n hx hb dX0_becomeAs_7 rfl (lv_at hl 1 rfl) ?_
    refine r_gI X B hf fX0_1 (fun _ _ => rfl) m_69 dX0_becomeAs_8 (fun v9 hf => ?_)
    refine lv_icmp_ge (tgt := 39) hx hb dX0_becomeAs_11 (by decide) (fun q_ => ?_) (fun q_ => ?_)
    · have hf := (r_ite hf).1 q_
      exact t_X0_becomeAs_39 X hr hk hn  B (lv_sub hl [0, 1] rfl) hf
    · have hf := (r_ite hf).2 q_
      refine lv_iload_n hx hb dX0_becomeAs_14 rfl (lv_at hl 2 rfl) ?_
      refine r_aload_n hx hb dX0_becomeAs_15 rfl (lv_at hl 1 rfl) ?_
      refine r_gR X B hf fX0_0 (fun _ _ => rfl) m_68 dX0_becomeAs_16 (fun v10 hf => ?_)
      refine r_aL X B hf (by decide) dX0_becomeAs_19 (fun v11 hf => ?_)
      refine lv_icmp_ge (tgt := 39) hx hb dX0_becomeAs_20 (by decide) (fun q_ => ?_) (fun q_ => ?_)
      · have hf := (r_ite hf).1 q_
        exact t_X0_becomeAs_39 X hr hk hn  B (lv_sub hl [0, 1] rfl) hf
      · have hf := (r_ite hf).2 q_
        refine r_aload_n hx hb dX0_becomeAs_23 rfl (lv_at hl 0 rfl) ?_
        refine r_aload_n hx hb dX0_becomeAs_24 rfl (lv_at hl 1 rfl) ?_
        refine r_gR X B hf fX0_0 (fun _ _ => rfl) m_68 dX0_becomeAs_25 (fun v12 hf => ?_)
        refine lv_iload_n hx hb dX0_becomeAs_28 rfl (lv_at hl 2 rfl) ?_
        refine r_aIi X B hf dX0_becomeAs_29 (fun v13 hf => ?_)
        refine rcv_inv hf ?_
        intro a17 e18 s19 hf
        refine cal_inv hf ?_
        intro v14 h15 e16 hf
        refine r_call B (va_runV (As := [.int v13]) (rest := []) X.1 (c_X0_addFirst (l := l) (D := D) (b := b) e16) (r_cwV X rfl m_400 m_388 m_389 m_24 m_390 rfl rfl hd_X0_addFirst ⟨Nat.le_of_ble_eq_true rfl, Nat.le_of_ble_eq_true rfl⟩) (r_preV X B s19 rfl [.int v13]) rfl rfl hl.1 (by rw [e18]; rfl) (lv_room (by simp [va_cat, cat_i, cat_r, cat_l])) dX0_becomeAs_30 ⟨Nat.zero_le _, Nat.zero_le _⟩) ?_
        intro H locs B
        refine W.cs (cells' := 0) (slots' := 0) rfl rfl (W.eq (g2 := F0 m 33 ls []) rfl ?_)
        refine r_iinc (lv' := fun v20 => [(2, .int v20), (0, va_rf (some l0)), (1, va_rf l1)]) hx hb hf dX0_becomeAs_33 hl (k := 2) rfl (by decide) (by decide) (fun v => by first | rfl | simp [va_cat, cat_i, cat_r, cat_l]) (fun v20 ls hl hf => ?_)
        refine lv_goto (tgt := 6) hx hb dX0_becomeAs_36 (by decide) ?_
        exact ih _ _ _ _ _ _ _ B (lv_sub hl [1, 2, 0] rfl) hf
set_option maxRecDepth 100000 in
set_option maxHeartbeats 4000000 in
theorem c_X0_becomeAs {l : Launch} {D : RG} {b : Nat} {h : AH} {l0 : Nat} {l1 : Option Nat} {vv : Unit} {hh : AH} (hf : f_X0_becomeAs h l0 l1 = some (vv, hh)) : Met l yX0_becomeAs (Cond.code yX0_becomeAs cX0_becomeAs 3 none :: wsL_law) ({ frames := 1, cells := 0, slots := 0, locals := 21 } : Room) (va_Pc [.ref l0, va_rf l1] (r_I D b h)) (r_Q D b none hh) 0 0 (fun q => b ≤ q) := by
  refine r_ofW (own := RX0) rfl (by decide +kernel) (by simp [lg_sl, va_cat, cat_i, cat_r, cat_l]) ?_
  intro p e s m args below meth c ls X B hr hk hn hl
  have hl : lv_has ls 3 [(0, .ref l0), (1, va_rf l1)] := by simpa [lv_args, va_cat, cat_i, cat_r, cat_l] using hl
  have hl : lv_has ls 3 [(0, va_rf (some l0)), (1, va_rf l1)] := hl
  obtain ⟨⟨hx, hb, hml, hown, hts⟩, -⟩ := id X
  generalize s.heap = H at B ⊢
  generalize ([] : List Loc) = locs at B ⊢
  unfold f_X0_becomeAs at hf
  refine r_aload_n hx hb dX0_becomeAs_0 rfl (lv_at hl 0 rfl) ?_
  refine rcv_inv hf ?_
  intro a24 e25 s26 hf
  refine cal_inv hf ?_
  intro v21 h22 e23 hf
  refine r_call B (va_runV (As := []) (rest := []) X.1 (c_X0_clear (l := l) (D := D) (b := b) e23) (r_cwV X rfl m_399 m_303 m_304 m_24 m_305 rfl rfl hd_X0_clear ⟨Nat.le_of_ble_eq_true rfl, Nat.le_of_ble_eq_true rfl⟩) (r_preV X B s26 rfl []) rfl rfl hl.1 (by rw [e25]; rfl) (lv_room (by simp [va_cat, cat_i, cat_r, cat_l])) dX0_becomeAs_1 ⟨Nat.zero_le _, Nat.zero_le _⟩) ?_
  intro H locs B
  refine W.cs (cells' := 0) (slots' := 0) rfl rfl (W.eq (g2 := F0 m 4 ls []) rfl ?_)
  refine lv_iconst (v := 0) hx hb dX0_becomeAs_4 (by decide) ?_
  refine lv_istore_n (i := 2) (lv' := [(2, .int 0), (0, va_rf (some l0)), (1, va_rf l1)]) hx hb dX0_becomeAs_5 rfl hl (by decide) (by first | rfl | simp [va_cat, cat_i, cat_r, cat_l]) (fun ls hl => ?_)
  exact t_X0_becomeAs_6 X hr hk hn  _ _ _ _ _ _ _ _ B (lv_sub hl [1, 2, 0] rfl) hf
def f_X0_rank_40 (h : AH) (s0 : Int32) : Option (Int32 × AH) := some (s0, h)
def f_X0_rank (h : AH) (l0 : Option Nat) (l1 : Int32) : Option (Int32 × AH) := if l1 = 0 then gI h l0 1 5 (fun v1 => if v1 = 0 then f_X0_rank_40 h 1 else f_X0_rank_40 h 0) else if l1 = 1 then gI h l0 1 3 (fun v2 => some (v2, h)) else gI h l0 1 2 (fun v3 => some (v3, h))
set_option maxRecDepth 100000 in
set_option maxHeartbeats 4000000 in
theorem t_X0_rank_40 {p : Program} {l : Launch} {e : Env} {s : State} {m : MethodId} {args : Array Value} {below : List Frame} {meth : Method} {c : Code} {D : RG} {b : Nat} {vv : Int32} {hh : AH} (X : r_C p c cX0_rank 2 s m args RX0 D b) (hr : meth.sig.returnType = (some .int)) (hk : meth.locks = false) (hn : meth.name = "rank") {h : AH} {H : Heap} {locs : List Loc} {ls : Array Slot} {s0 : Int32} (B : r_B D b s h H locs) (hl : lv_has ls 2 []) (hf : f_X0_rank_40 h s0 = some (vv, hh)) : W p l e ({ frames := 0, cells := 0, slots := 0, locals := 0 } : Room) s m args below meth c H locs 0 0 (MQ below (r_Q D b (some (.int vv)) hh) args s 0 0 (fun q => b ≤ q)) (F0 m 40 ls [.int s0]) := by
  obtain ⟨⟨hx, hb, hml, hown, hts⟩, -⟩ := id X
  unfold f_X0_rank_40 at hf
  exact r_iret X B hr hk hf dX0_rank_40
set_option maxRecDepth 100000 in
set_option maxHeartbeats 4000000 in
theorem c_X0_rank {l : Launch} {D : RG} {b : Nat} {h : AH} {l0 : Option Nat} {l1 : Int32} {vv : Int32} {hh : AH} (hf : f_X0_rank h l0 l1 = some (vv, hh)) : Met l yX0_rank (Cond.code yX0_rank cX0_rank 2 (some .int) :: wsL_law) ({ frames := 0, cells := 0, slots := 0, locals := 0 } : Room) (va_Pc [va_rf l0, .int l1] (r_I D b h)) (r_Q D b (some (.int vv)) hh) 0 0 (fun q => b ≤ q) := by
  refine r_ofW (own := RX0) rfl (by decide +kernel) (by simp [lg_sl, va_cat, cat_i, cat_r, cat_l]) ?_
  intro p e s m args below meth c ls X B hr hk hn hl
  have hl : lv_has ls 2 [(0, va_rf l0), (1, .int l1)] := by simpa [lv_args, va_cat, cat_i, cat_r, cat_l] using hl
  have hl : lv_has ls 2 [(0, va_rf l0), (1, .int l1)] := hl
  obtain ⟨⟨hx, hb, hml, hown, hts⟩, -⟩ := id X
  generalize s.heap = H at B ⊢
  generalize ([] : List Loc) = locs at B ⊢
  unfold f_X0_rank at hf
  refine lv_iload_n hx hb dX0_rank_0 rfl (lv_at hl 1 rfl) ?_
  by_cases q_0 : l1 = 0
  · have hf := (r_ite hf).1 q_0
    refine lv_lookup (off := 27) (tgt := 28) hx hb dX0_rank_1 (by decide) (by rw [q_0]; decide) (by decide) ?_
    refine r_aload_n hx hb dX0_rank_28 rfl (lv_at hl 0 rfl) ?_
    refine r_gI X B hf fX1_5 (fun _ _ => rfl) m_236 dX0_rank_29 (fun v1 hf => ?_)
    refine lv_if_eq (tgt := 39) hx hb dX0_rank_32 (by decide) (fun q_ => ?_) (fun q_ => ?_)
    · have hf := (r_ite hf).1 q_
      refine lv_iconst (v := 1) hx hb dX0_rank_39 (by decide) ?_
      exact t_X0_rank_40 X hr hk hn  B (lv_sub hl [] rfl) hf
    · have hf := (r_ite hf).2 q_
      refine lv_iconst (v := 0) hx hb dX0_rank_35 (by decide) ?_
      refine lv_goto (tgt := 40) hx hb dX0_rank_36 (by decide) ?_
      exact t_X0_rank_40 X hr hk hn  B (lv_sub hl [] rfl) hf
  · have hf := (r_ite hf).2 q_0
    by_cases q_1 : l1 = 1
    · have hf := (r_ite hf).1 q_1
      refine lv_lookup (off := 40) (tgt := 41) hx hb dX0_rank_1 (by decide) (by rw [q_1]; decide) (by decide) ?_
      refine r_aload_n hx hb dX0_rank_41 rfl (lv_at hl 0 rfl) ?_
      refine r_gI X B hf fX1_3 (fun _ _ => rfl) m_237 dX0_rank_42 (fun v2 hf => ?_)
      exact r_iret X B hr hk hf dX0_rank_45
    · have hf := (r_ite hf).2 q_1
      refine lv_lookup (off := 45) (tgt := 46) hx hb dX0_rank_1 (by decide) (by simp only [Array.toList]; rw [lv_osw q_0 (by decide)]; rw [lv_osw q_1 (by decide)]; rfl) (by decide) ?_
      refine r_aload_n hx hb dX0_rank_46 rfl (lv_at hl 0 rfl) ?_
      refine r_gI X B hf fX1_2 (fun _ _ => rfl) m_238 dX0_rank_47 (fun v3 hf => ?_)
      exact r_iret X B hr hk hf dX0_rank_50
def f_X0_isAhead_80 (h : AH) (s0 : Int32) : Option (Int32 × AH) := rZ s0 h
def f_X0_isAhead_64 (h : AH) (l1 : Option Nat) (l2 : Option Nat) : Option (Int32 × AH) := gI h l1 1 0 (fun v1 => gI h l2 1 0 (fun v2 => if v2 ≤ v1 then f_X0_isAhead_80 h 0 else f_X0_isAhead_80 h 1))
def f_X0_isAhead_57 (h : AH) (s0 : Int32) : Option (Int32 × AH) := rZ s0 h
def f_X0_isAhead_2 : Nat → AH → Nat → Option Nat → Option Nat → Int32 → Option (Int32 × AH)
  | 0, _, _, _, _, _ => none
  | n + 1, h, l0, l1, l2, l3 => gI h (some l0) 0 1 (fun v3 => if v3 ≤ l3 then f_X0_isAhead_64 h l1 l2 else gR h (some l0) 0 0 (fun v4 => aL (.int) h v4 (fun v5 => if v5 ≤ l3 then f_X0_isAhead_64 h l1 l2 else gR h (some l0) 0 0 (fun v6 => aI .int h v6 l3 (fun v7 => cal (f_X0_rank h l1 v7) (fun v8 h9 => gR h9 (some l0) 0 0 (fun v11 => aI .int h9 v11 l3 (fun v12 => cal (f_X0_rank h9 l2 v12) (fun v13 h14 => bd (v8 - v13) (fun v16 => if v16 = 0 then bd (l3 + 1) (fun v17 => f_X0_isAhead_2 n h14 l0 l1 l2 v17) else if 0 ≤ v16 then f_X0_isAhead_57 h14 0 else f_X0_isAhead_57 h14 1))))))))))
def f_X0_isAhead (h : AH) (l0 : Nat) (l1 : Option Nat) (l2 : Option Nat) : Option (Int32 × AH) := f_X0_isAhead_2 FU h l0 l1 l2 0
set_option maxRecDepth 100000 in
set_option maxHeartbeats 4000000 in
theorem t_X0_isAhead_80 {p : Program} {l : Launch} {e : Env} {s : State} {m : MethodId} {args : Array Value} {below : List Frame} {meth : Method} {c : Code} {D : RG} {b : Nat} {vv : Int32} {hh : AH} (X : r_C p c cX0_isAhead 5 s m args RX0 D b) (hr : meth.sig.returnType = (some .boolean)) (hk : meth.locks = false) (hn : meth.name = "isAhead") {h : AH} {H : Heap} {locs : List Loc} {ls : Array Slot} {s0 : Int32} (B : r_B D b s h H locs) (hl : lv_has ls 5 []) (hf : f_X0_isAhead_80 h s0 = some (vv, hh)) : W p l e ({ frames := 1, cells := 0, slots := 0, locals := 21 } : Room) s m args below meth c H locs 0 0 (MQ below (r_Q D b (some (.int vv)) hh) args s 0 0 (fun q => b ≤ q)) (F0 m 80 ls [.int s0]) := by
  obtain ⟨⟨hx, hb, hml, hown, hts⟩, -⟩ := id X
  unfold f_X0_isAhead_80 at hf
  exact r_zret X B hr hk hf dX0_isAhead_80
set_option maxRecDepth 100000 in
set_option maxHeartbeats 4000000 in
theorem t_X0_isAhead_64 {p : Program} {l : Launch} {e : Env} {s : State} {m : MethodId} {args : Array Value} {below : List Frame} {meth : Method} {c : Code} {D : RG} {b : Nat} {vv : Int32} {hh : AH} (X : r_C p c cX0_isAhead 5 s m args RX0 D b) (hr : meth.sig.returnType = (some .boolean)) (hk : meth.locks = false) (hn : meth.name = "isAhead") {h : AH} {H : Heap} {locs : List Loc} {ls : Array Slot} {l1 : Option Nat} {l2 : Option Nat} (B : r_B D b s h H locs) (hl : lv_has ls 5 [(1, va_rf l1), (2, va_rf l2)]) (hf : f_X0_isAhead_64 h l1 l2 = some (vv, hh)) : W p l e ({ frames := 1, cells := 0, slots := 0, locals := 21 } : Room) s m args below meth c H locs 0 0 (MQ below (r_Q D b (some (.int vv)) hh) args s 0 0 (fun q => b ≤ q)) (F0 m 64 ls []) := by
  obtain ⟨⟨hx, hb, hml, hown, hts⟩, -⟩ := id X
  unfold f_X0_isAhead_64 at hf
  refine r_aload_n hx hb dX0_isAhead_64 rfl (lv_at hl 0 rfl) ?_
  refine r_gI X B hf fX1_0 (fun _ _ => rfl) m_232 dX0_isAhead_65 (fun v1 hf => ?_)
  refine r_aload_n hx hb dX0_isAhead_68 rfl (lv_at hl 1 rfl) ?_
  refine r_gI X B hf fX1_0 (fun _ _ => rfl) m_232 dX0_isAhead_69 (fun v2 hf => ?_)
  refine lv_icmp_ge (tgt := 79) hx hb dX0_isAhead_72 (by decide) (fun q_ => ?_) (fun q_ => ?_)
  · have hf := (r_ite hf).1 q_
    refine lv_iconst (v := 0) hx hb dX0_isAhead_79 (by decide) ?_
    exact t_X0_isAhead_80 X hr hk hn  B (lv_sub hl [] rfl) hf
  · have hf := (r_ite hf).2 q_
    refine lv_iconst (v := 1) hx hb dX0_isAhead_75 (by decide) ?_
    refine lv_goto (tgt := 80) hx hb dX0_isAhead_76 (by decide) ?_
    exact t_X0_isAhead_80 X hr hk hn  B (lv_sub hl [] rfl) hf
set_option maxRecDepth 100000 in
set_option maxHeartbeats 4000000 in
theorem t_X0_isAhead_57 {p : Program} {l : Launch} {e : Env} {s : State} {m : MethodId} {args : Array Value} {below : List Frame} {meth : Method} {c : Code} {D : RG} {b : Nat} {vv : Int32} {hh : AH} (X : r_C p c cX0_isAhead 5 s m args RX0 D b) (hr : meth.sig.returnType = (some .boolean)) (hk : meth.locks = false) (hn : meth.name = "isAhead") {h : AH} {H : Heap} {locs : List Loc} {ls : Array Slot} {s0 : Int32} (B : r_B D b s h H locs) (hl : lv_has ls 5 []) (hf : f_X0_isAhead_57 h s0 = some (vv, hh)) : W p l e ({ frames := 1, cells := 0, slots := 0, locals := 21 } : Room) s m args below meth c H locs 0 0 (MQ below (r_Q D b (some (.int vv)) hh) args s 0 0 (fun q => b ≤ q)) (F0 m 57 ls [.int s0]) := by
  obtain ⟨⟨hx, hb, hml, hown, hts⟩, -⟩ := id X
  unfold f_X0_isAhead_57 at hf
  exact r_zret X B hr hk hf dX0_isAhead_57
set_option maxRecDepth 100000 in
set_option maxHeartbeats 4000000 in
theorem t_X0_isAhead_2 {p : Program} {l : Launch} {e : Env} {s : State} {m : MethodId} {args : Array Value} {below : List Frame} {meth : Method} {c : Code} {D : RG} {b : Nat} {vv : Int32} {hh : AH} (X : r_C p c cX0_isAhead 5 s m args RX0 D b) (hr : meth.sig.returnType = (some .boolean)) (hk : meth.locks = false) (hn : meth.name = "isAhead") : ∀ (n : Nat) (h : AH) (H : Heap) (locs : List Loc) (ls : Array Slot) (l0 : Nat) (l1 : Option Nat) (l2 : Option Nat) (l3 : Int32), r_B D b s h H locs → lv_has ls 5 [(0, va_rf (some l0)), (1, va_rf l1), (2, va_rf l2), (3, .int l3)] → f_X0_isAhead_2 n h l0 l1 l2 l3 = some (vv, hh) → W p l e ({ frames := 1, cells := 0, slots := 0, locals := 21 } : Room) s m args below meth c H locs 0 0 (MQ below (r_Q D b (some (.int vv)) hh) args s 0 0 (fun q => b ≤ q)) (F0 m 2 ls []) := by
  obtain ⟨⟨hx, hb, hml, hown, hts⟩, -⟩ := id X
  intro n
  induction n with
  | zero =>
    intro h H locs ls l0 l1 l2 l3 B hl hf
    cases hf
  | succ n ih =>
    intro h H locs ls l0 l1 l2 l3 B hl hf
    unfold f_X0_isAhead_2 at hf
    refine lv_iload_n hx hb dX0_isAhead_2 rfl (lv_at hl 3 rfl) ?_
    refine r_aload_n hx hb dX0_isAhead_3 rfl (lv_at hl 0 rfl) ?_
    refine r_gI X B hf fX0_1 (fun _ _ => rfl) m_69 dX0_isAhead_4 (fun v3 hf => ?_)
    refine lv_icmp_ge (tgt := 64) hx hb dX0_isAhead_7 (by decide) (fun q_ => ?_) (fun q_ => ?_)
    · have hf := (r_ite hf).1 q_
      exact t_X0_isAhead_64 X hr hk hn  B (lv_sub hl [1, 2] rfl) hf
    · have hf := (r_ite hf).2 q_
      refine lv_iload_n hx hb dX0_isAhead_10 rfl (lv_at hl 3 rfl) ?_
      refine r_aload_n hx hb dX0_isAhead_11 rfl (lv_at hl 0 rfl) ?_
      refine r_gR X B hf fX0_0 (fun _ _ => rfl) m_68 dX0_isAhead_12 (fun v4 hf => ?_)
      refine r_aL X B hf (by decide) dX0_isAhead_15 (fun v5 hf => ?_)
      refine lv_icmp_ge (tgt := 64) hx hb dX0_isAhead_16 (by decide) (fun q_ => ?_) (fun q_ => ?_)
      · have hf := (r_ite hf).1 q_
        exact t_X0_isAhead_64 X hr hk hn  B (lv_sub hl [1, 2] rfl) hf
      · have hf := (r_ite hf).2 q_
        refine r_aload_n hx hb dX0_isAhead_19 rfl (lv_at hl 1 rfl) ?_
        refine r_aload_n hx hb dX0_isAhead_20 rfl (lv_at hl 0 rfl) ?_
        refine r_gR X B hf fX0_0 (fun _ _ => rfl) m_68 dX0_isAhead_21 (fun v6 hf => ?_)
        refine lv_iload_n hx hb dX0_isAhead_24 rfl (lv_at hl 3 rfl) ?_
        refine r_aIi X B hf dX0_isAhead_25 (fun v7 hf => ?_)
        refine cal_inv hf ?_
        intro v8 h9 e10 hf
        refine r_call B (va_runS (As := [va_rf l1, .int v7]) (rest := []) X.1 (c_X0_rank (l := l) (D := D) (b := b) e10) (r_cwS X m_233 m_234 m_24 m_235 rfl rfl hd_X0_rank ⟨Nat.le_of_ble_eq_true rfl, Nat.le_of_ble_eq_true rfl⟩) (r_preS X B [va_rf l1, .int v7]) rfl rfl hl.1 rfl (lv_room (by simp [va_cat, cat_i, cat_r, cat_l])) dX0_isAhead_26 ⟨Nat.zero_le _, Nat.zero_le _⟩) ?_
        intro H locs B
        refine W.cs (cells' := 0) (slots' := 0) rfl rfl (W.eq (g2 := F0 m 29 ls [.int v8]) rfl ?_)
        refine r_aload_n hx hb dX0_isAhead_29 rfl (lv_at hl 2 rfl) ?_
        refine r_aload_n hx hb dX0_isAhead_30 rfl (lv_at hl 0 rfl) ?_
        refine r_gR X B hf fX0_0 (fun _ _ => rfl) m_68 dX0_isAhead_31 (fun v11 hf => ?_)
        refine lv_iload_n hx hb dX0_isAhead_34 rfl (lv_at hl 3 rfl) ?_
        refine r_aIi X B hf dX0_isAhead_35 (fun v12 hf => ?_)
        refine cal_inv hf ?_
        intro v13 h14 e15 hf
        refine r_call B (va_runS (As := [va_rf l2, .int v12]) (rest := [.int v8]) X.1 (c_X0_rank (l := l) (D := D) (b := b) e15) (r_cwS X m_233 m_234 m_24 m_235 rfl rfl hd_X0_rank ⟨Nat.le_of_ble_eq_true rfl, Nat.le_of_ble_eq_true rfl⟩) (r_preS X B [va_rf l2, .int v12]) rfl rfl hl.1 rfl (lv_room (by simp [va_cat, cat_i, cat_r, cat_l])) dX0_isAhead_36 ⟨Nat.zero_le _, Nat.zero_le _⟩) ?_
        intro H locs B
        refine W.cs (cells' := 0) (slots' := 0) rfl rfl (W.eq (g2 := F0 m 39 ls [.int v13, .int v8]) rfl ?_)
        refine lv_isub hx hb dX0_isAhead_39 ?_
        refine r_bd hf (fun v16 hf => ?_)
        refine lv_istore (i := 4) (lv' := [(4, .int v16), (0, va_rf (some l0)), (1, va_rf l1), (2, va_rf l2), (3, .int l3)]) hx hb dX0_isAhead_40 hl (by decide) (by first | rfl | simp [va_cat, cat_i, cat_r, cat_l]) (fun ls hl => ?_)
        refine lv_iload hx hb dX0_isAhead_42 (lv_at hl 0 rfl) ?_
        refine lv_if_eq (tgt := 58) hx hb dX0_isAhead_44 (by decide) (fun q_ => ?_) (fun q_ => ?_)
        · have hf := (r_ite hf).1 q_
          refine r_iinc (lv' := fun v17 => [(3, .int v17), (4, .int v16), (0, va_rf (some l0)), (1, va_rf l1), (2, va_rf l2)]) hx hb hf dX0_isAhead_58 hl (k := 4) rfl (by decide) (by decide) (fun v => by first | rfl | simp [va_cat, cat_i, cat_r, cat_l]) (fun v17 ls hl hf => ?_)
          refine lv_goto (tgt := 2) hx hb dX0_isAhead_61 (by decide) ?_
          exact ih _ _ _ _ _ _ _ _ B (lv_sub hl [2, 3, 4, 0] rfl) hf
        · have hf := (r_ite hf).2 q_
          refine lv_iload hx hb dX0_isAhead_47 (lv_at hl 0 rfl) ?_
          refine lv_if_ge (tgt := 56) hx hb dX0_isAhead_49 (by decide) (fun q_ => ?_) (fun q_ => ?_)
          · have hf := (r_ite hf).1 q_
            refine lv_iconst (v := 0) hx hb dX0_isAhead_56 (by decide) ?_
            exact t_X0_isAhead_57 X hr hk hn  B (lv_sub hl [] rfl) hf
          · have hf := (r_ite hf).2 q_
            refine lv_iconst (v := 1) hx hb dX0_isAhead_52 (by decide) ?_
            refine lv_goto (tgt := 57) hx hb dX0_isAhead_53 (by decide) ?_
            exact t_X0_isAhead_57 X hr hk hn  B (lv_sub hl [] rfl) hf
set_option maxRecDepth 100000 in
set_option maxHeartbeats 4000000 in
theorem c_X0_isAhead {l : Launch} {D : RG} {b : Nat} {h : AH} {l0 : Nat} {l1 : Option Nat} {l2 : Option Nat} {vv : Int32} {hh : AH} (hf : f_X0_isAhead h l0 l1 l2 = some (vv, hh)) : Met l yX0_isAhead (Cond.code yX0_isAhead cX0_isAhead 5 (some .boolean) :: wsL_law) ({ frames := 1, cells := 0, slots := 0, locals := 21 } : Room) (va_Pc [.ref l0, va_rf l1, va_rf l2] (r_I D b h)) (r_Q D b (some (.int vv)) hh) 0 0 (fun q => b ≤ q) := by
  refine r_ofW (own := RX0) rfl (by decide +kernel) (by simp [lg_sl, va_cat, cat_i, cat_r, cat_l]) ?_
  intro p e s m args below meth c ls X B hr hk hn hl
  have hl : lv_has ls 5 [(0, .ref l0), (1, va_rf l1), (2, va_rf l2)] := by simpa [lv_args, va_cat, cat_i, cat_r, cat_l] using hl
  have hl : lv_has ls 5 [(0, va_rf (some l0)), (1, va_rf l1), (2, va_rf l2)] := hl
  obtain ⟨⟨hx, hb, hml, hown, hts⟩, -⟩ := id X
  generalize s.heap = H at B ⊢
  generalize ([] : List Loc) = locs at B ⊢
  unfold f_X0_isAhead at hf
  refine lv_iconst (v := 0) hx hb dX0_isAhead_0 (by decide) ?_
  refine lv_istore_n (i := 3) (lv' := [(3, .int 0), (0, va_rf (some l0)), (1, va_rf l1), (2, va_rf l2)]) hx hb dX0_isAhead_1 rfl hl (by decide) (by first | rfl | simp [va_cat, cat_i, cat_r, cat_l]) (fun ls hl => ?_)
  exact t_X0_isAhead_2 X hr hk hn  _ _ _ _ _ _ _ _ _ B (lv_sub hl [1, 2, 3, 0] rfl) hf
def f_X1_init (h : AH) (l0 : Nat) (l1 : Int32) (l2 : Int32) (l3 : Int32) (l4 : Int32) (l5 : Int32) (l6 : Int32) : Option (Unit × AH) := pR h (some l0) 1 6 none (fun h1 => pI h1 (some l0) 1 7 0 (fun h2 => pI h2 (some l0) 1 8 0 (fun h3 => pI h3 (some l0) 1 9 0 (fun h4 => pI h4 (some l0) 1 10 0 (fun h5 => pI h5 (some l0) 1 11 0 (fun h6 => pI h6 (some l0) 1 0 l1 (fun h7 => pI h7 (some l0) 1 1 l2 (fun h8 => pI h8 (some l0) 1 2 l3 (fun h9 => pI h9 (some l0) 1 3 l4 (fun h10 => pI h10 (some l0) 1 4 l5 (fun h11 => pZ h11 (some l0) 1 5 l6 (fun h12 => some ((), h12)))))))))))))
set_option maxRecDepth 100000 in
set_option maxHeartbeats 4000000 in
theorem c_X1_init {l : Launch} {D : RG} {b : Nat} {h : AH} {l0 : Nat} {l1 : Int32} {l2 : Int32} {l3 : Int32} {l4 : Int32} {l5 : Int32} {l6 : Int32} {vv : Unit} {hh : AH} (hf : f_X1_init h l0 l1 l2 l3 l4 l5 l6 = some (vv, hh)) : Met l yX1_init (Cond.code yX1_init cX1_init 7 none :: wsL_law) ({ frames := 1, cells := 0, slots := 0, locals := 12 } : Room) (va_Pc [.ref l0, .int l1, .int l2, .int l3, .int l4, .int l5, .int l6] (r_I D b h)) (r_Q D b none hh) 0 0 (fun q => b ≤ q) := by
  refine r_ofW (own := RX1) rfl (by decide +kernel) (by simp [lg_sl, va_cat, cat_i, cat_r, cat_l]) ?_
  intro p e s m args below meth c ls X B hr hk hn hl
  have hl : lv_has ls 7 [(0, .ref l0), (1, .int l1), (2, .int l2), (3, .int l3), (4, .int l4), (5, .int l5), (6, .int l6)] := by simpa [lv_args, va_cat, cat_i, cat_r, cat_l] using hl
  have hl : lv_has ls 7 [(0, va_rf (some l0)), (1, .int l1), (2, .int l2), (3, .int l3), (4, .int l4), (5, .int l5), (6, .int l6)] := hl
  obtain ⟨⟨hx, hb, hml, hown, hts⟩, -⟩ := id X
  generalize s.heap = H at B ⊢
  generalize ([] : List Loc) = locs at B ⊢
  unfold f_X1_init at hf
  refine r_aload_n hx hb dX1_init_0 rfl (lv_at hl 0 rfl) ?_
  refine W.objInit hx hb hown (hts _ m_210) (hts _ m_14) (hts _ m_15) rfl (by rw [hml]; exact hl.1) rfl dX1_init_1 (Nat.le_of_ble_eq_true rfl) (Nat.le_of_ble_eq_true rfl) ?_
  refine W.eq (g2 := F0 m 4 ls []) rfl ?_
  refine r_aload_n hx hb dX1_init_4 rfl (lv_at hl 0 rfl) ?_
  refine r_null hx hb dX1_init_5 ?_
  refine r_pR X B hf fX1_6 rfl (Or.inl rfl) m_211 dX1_init_6 (fun h1 H locs B hf => ?_)
  refine r_aload_n hx hb dX1_init_9 rfl (lv_at hl 0 rfl) ?_
  refine lv_iconst (v := 0) hx hb dX1_init_10 (by decide) ?_
  refine r_pI X B hf fX1_7 (Or.inl rfl) m_212 dX1_init_11 (fun h2 H locs B hf => ?_)
  refine r_aload_n hx hb dX1_init_14 rfl (lv_at hl 0 rfl) ?_
  refine lv_iconst (v := 0) hx hb dX1_init_15 (by decide) ?_
  refine r_pI X B hf fX1_8 (Or.inl rfl) m_213 dX1_init_16 (fun h3 H locs B hf => ?_)
  refine r_aload_n hx hb dX1_init_19 rfl (lv_at hl 0 rfl) ?_
  refine lv_iconst (v := 0) hx hb dX1_init_20 (by decide) ?_
  refine r_pI X B hf fX1_9 (Or.inl rfl) m_214 dX1_init_21 (fun h4 H locs B hf => ?_)
  refine r_aload_n hx hb dX1_init_24 rfl (lv_at hl 0 rfl) ?_
  refine lv_iconst (v := 0) hx hb dX1_init_25 (by decide) ?_
  refine r_pI X B hf fX1_10 (Or.inl rfl) m_215 dX1_init_26 (fun h5 H locs B hf => ?_)
  refine r_aload_n hx hb dX1_init_29 rfl (lv_at hl 0 rfl) ?_
  refine lv_iconst (v := 0) hx hb dX1_init_30 (by decide) ?_
  refine r_pI X B hf fX1_11 (Or.inl rfl) m_216 dX1_init_31 (fun h6 H locs B hf => ?_)
  refine r_aload_n hx hb dX1_init_34 rfl (lv_at hl 0 rfl) ?_
  refine lv_iload_n hx hb dX1_init_35 rfl (lv_at hl 1 rfl) ?_
  refine r_pI X B hf fX1_0 (Or.inr ⟨rfl, hn, rfl⟩) m_217 dX1_init_36 (fun h7 H locs B hf => ?_)
  refine r_aload_n hx hb dX1_init_39 rfl (lv_at hl 0 rfl) ?_
  refine lv_iload_n hx hb dX1_init_40 rfl (lv_at hl 2 rfl) ?_
  refine r_pI X B hf fX1_1 (Or.inr ⟨rfl, hn, rfl⟩) m_218 dX1_init_41 (fun h8 H locs B hf => ?_)
  refine r_aload_n hx hb dX1_init_44 rfl (lv_at hl 0 rfl) ?_
  refine lv_iload_n hx hb dX1_init_45 rfl (lv_at hl 3 rfl) ?_
  refine r_pI X B hf fX1_2 (Or.inr ⟨rfl, hn, rfl⟩) m_219 dX1_init_46 (fun h9 H locs B hf => ?_)
  refine r_aload_n hx hb dX1_init_49 rfl (lv_at hl 0 rfl) ?_
  refine lv_iload hx hb dX1_init_50 (lv_at hl 4 rfl) ?_
  refine r_pI X B hf fX1_3 (Or.inr ⟨rfl, hn, rfl⟩) m_220 dX1_init_52 (fun h10 H locs B hf => ?_)
  refine r_aload_n hx hb dX1_init_55 rfl (lv_at hl 0 rfl) ?_
  refine lv_iload hx hb dX1_init_56 (lv_at hl 5 rfl) ?_
  refine r_pI X B hf fX1_4 (Or.inr ⟨rfl, hn, rfl⟩) m_221 dX1_init_58 (fun h11 H locs B hf => ?_)
  refine r_aload_n hx hb dX1_init_61 rfl (lv_at hl 0 rfl) ?_
  refine lv_iload hx hb dX1_init_62 (lv_at hl 6 rfl) ?_
  refine r_pZ X B hf fX1_5 (Or.inr ⟨rfl, hn, rfl⟩) m_222 dX1_init_64 (fun h12 H locs B hf => ?_)
  exact r_vret X B hr hk hf dX1_init_67
def f_X1_isFed_16 (h : AH) (s0 : Int32) : Option (Int32 × AH) := rZ s0 h
def f_X1_isFed (h : AH) (l0 : Nat) : Option (Int32 × AH) := gI h (some l0) 1 7 (fun v1 => gI h (some l0) 1 3 (fun v2 => if v1 = v2 then f_X1_isFed_16 h 1 else f_X1_isFed_16 h 0))
set_option maxRecDepth 100000 in
set_option maxHeartbeats 4000000 in
theorem t_X1_isFed_16 {p : Program} {l : Launch} {e : Env} {s : State} {m : MethodId} {args : Array Value} {below : List Frame} {meth : Method} {c : Code} {D : RG} {b : Nat} {vv : Int32} {hh : AH} (X : r_C p c cX1_isFed 1 s m args RX1 D b) (hr : meth.sig.returnType = (some .boolean)) (hk : meth.locks = false) (hn : meth.name = "isFed") {h : AH} {H : Heap} {locs : List Loc} {ls : Array Slot} {s0 : Int32} (B : r_B D b s h H locs) (hl : lv_has ls 1 []) (hf : f_X1_isFed_16 h s0 = some (vv, hh)) : W p l e ({ frames := 0, cells := 0, slots := 0, locals := 0 } : Room) s m args below meth c H locs 0 0 (MQ below (r_Q D b (some (.int vv)) hh) args s 0 0 (fun q => b ≤ q)) (F0 m 16 ls [.int s0]) := by
  obtain ⟨⟨hx, hb, hml, hown, hts⟩, -⟩ := id X
  unfold f_X1_isFed_16 at hf
  exact r_zret X B hr hk hf dX1_isFed_16
set_option maxRecDepth 100000 in
set_option maxHeartbeats 4000000 in
theorem c_X1_isFed {l : Launch} {D : RG} {b : Nat} {h : AH} {l0 : Nat} {vv : Int32} {hh : AH} (hf : f_X1_isFed h l0 = some (vv, hh)) : Met l yX1_isFed (Cond.code yX1_isFed cX1_isFed 1 (some .boolean) :: wsL_law) ({ frames := 0, cells := 0, slots := 0, locals := 0 } : Room) (va_Pc [.ref l0] (r_I D b h)) (r_Q D b (some (.int vv)) hh) 0 0 (fun q => b ≤ q) := by
  refine r_ofW (own := RX1) rfl (by decide +kernel) (by simp [lg_sl, va_cat, cat_i, cat_r, cat_l]) ?_
  intro p e s m args below meth c ls X B hr hk hn hl
  have hl : lv_has ls 1 [(0, .ref l0)] := by simpa [lv_args, va_cat, cat_i, cat_r, cat_l] using hl
  have hl : lv_has ls 1 [(0, va_rf (some l0))] := hl
  obtain ⟨⟨hx, hb, hml, hown, hts⟩, -⟩ := id X
  generalize s.heap = H at B ⊢
  generalize ([] : List Loc) = locs at B ⊢
  unfold f_X1_isFed at hf
  refine r_aload_n hx hb dX1_isFed_0 rfl (lv_at hl 0 rfl) ?_
  refine r_gI X B hf fX1_7 (fun _ _ => rfl) m_212 dX1_isFed_1 (fun v1 hf => ?_)
  refine r_aload_n hx hb dX1_isFed_4 rfl (lv_at hl 0 rfl) ?_
  refine r_gI X B hf fX1_3 (fun _ _ => rfl) m_220 dX1_isFed_5 (fun v2 hf => ?_)
  refine lv_icmp_ne (tgt := 15) hx hb dX1_isFed_8 (by decide) (fun q_ => ?_) (fun q_ => ?_)
  · have hf := (r_ite hf).2 q_
    refine lv_iconst (v := 0) hx hb dX1_isFed_15 (by decide) ?_
    exact t_X1_isFed_16 X hr hk hn  B (lv_sub hl [] rfl) hf
  · have hf := (r_ite hf).1 q_
    refine lv_iconst (v := 1) hx hb dX1_isFed_11 (by decide) ?_
    refine lv_goto (tgt := 16) hx hb dX1_isFed_12 (by decide) ?_
    exact t_X1_isFed_16 X hr hk hn  B (lv_sub hl [] rfl) hf
def f_X1_keepShare_38 (h : AH)  : Option (Unit × AH) := some ((), h)
def f_X1_keepShare (h : AH) (l0 : Nat) : Option (Unit × AH) := gI h (some l0) 1 7 (fun v1 => pI h (some l0) 1 11 v1 (fun h2 => gI h2 (some l0) 1 10 (fun v3 => gI h2 (some l0) 1 7 (fun v4 => pI h2 (some l0) 1 10 (v3 + v4) (fun h5 => rcv h5 (some l0) 1 (fun a9 => cal (f_X1_isFed h5 a9) (fun v6 h7 => if v6 = 0 then f_X1_keepShare_38 h7 else gI h7 (some l0) 1 9 (fun v12 => pI h7 (some l0) 1 9 (v12 + 1) (fun h13 => f_X1_keepShare_38 h13)))))))))
set_option maxRecDepth 100000 in
set_option maxHeartbeats 4000000 in
theorem t_X1_keepShare_38 {p : Program} {l : Launch} {e : Env} {s : State} {m : MethodId} {args : Array Value} {below : List Frame} {meth : Method} {c : Code} {D : RG} {b : Nat} {vv : Unit} {hh : AH} (X : r_C p c cX1_keepShare 1 s m args RX1 D b) (hr : meth.sig.returnType = none) (hk : meth.locks = false) (hn : meth.name = "keepShare") {h : AH} {H : Heap} {locs : List Loc} {ls : Array Slot}  (B : r_B D b s h H locs) (hl : lv_has ls 1 []) (hf : f_X1_keepShare_38 h  = some (vv, hh)) : W p l e ({ frames := 1, cells := 0, slots := 0, locals := 20 } : Room) s m args below meth c H locs 0 0 (MQ below (r_Q D b none hh) args s 0 0 (fun q => b ≤ q)) (F0 m 38 ls []) := by
  obtain ⟨⟨hx, hb, hml, hown, hts⟩, -⟩ := id X
  unfold f_X1_keepShare_38 at hf
  exact r_vret X B hr hk hf dX1_keepShare_38
set_option maxRecDepth 100000 in
set_option maxHeartbeats 4000000 in
theorem c_X1_keepShare {l : Launch} {D : RG} {b : Nat} {h : AH} {l0 : Nat} {vv : Unit} {hh : AH} (hf : f_X1_keepShare h l0 = some (vv, hh)) : Met l yX1_keepShare (Cond.code yX1_keepShare cX1_keepShare 1 none :: wsL_law) ({ frames := 1, cells := 0, slots := 0, locals := 20 } : Room) (va_Pc [.ref l0] (r_I D b h)) (r_Q D b none hh) 0 0 (fun q => b ≤ q) := by
  refine r_ofW (own := RX1) rfl (by decide +kernel) (by simp [lg_sl, va_cat, cat_i, cat_r, cat_l]) ?_
  intro p e s m args below meth c ls X B hr hk hn hl
  have hl : lv_has ls 1 [(0, .ref l0)] := by simpa [lv_args, va_cat, cat_i, cat_r, cat_l] using hl
  have hl : lv_has ls 1 [(0, va_rf (some l0))] := hl
  obtain ⟨⟨hx, hb, hml, hown, hts⟩, -⟩ := id X
  generalize s.heap = H at B ⊢
  generalize ([] : List Loc) = locs at B ⊢
  unfold f_X1_keepShare at hf
  refine r_aload_n hx hb dX1_keepShare_0 rfl (lv_at hl 0 rfl) ?_
  refine r_aload_n hx hb dX1_keepShare_1 rfl (lv_at hl 0 rfl) ?_
  refine r_gI X B hf fX1_7 (fun _ _ => rfl) m_212 dX1_keepShare_2 (fun v1 hf => ?_)
  refine r_pI X B hf fX1_11 (Or.inl rfl) m_216 dX1_keepShare_5 (fun h2 H locs B hf => ?_)
  refine r_aload_n hx hb dX1_keepShare_8 rfl (lv_at hl 0 rfl) ?_
  refine lv_dup hx hb dX1_keepShare_9 (va_cat _) ?_
  refine r_gI X B hf fX1_10 (fun _ _ => rfl) m_215 dX1_keepShare_10 (fun v3 hf => ?_)
  refine r_aload_n hx hb dX1_keepShare_13 rfl (lv_at hl 0 rfl) ?_
  refine r_gI X B hf fX1_7 (fun _ _ => rfl) m_212 dX1_keepShare_14 (fun v4 hf => ?_)
  refine lv_iadd hx hb dX1_keepShare_17 ?_
  refine r_pI X B hf fX1_10 (Or.inl rfl) m_215 dX1_keepShare_18 (fun h5 H locs B hf => ?_)
  refine r_aload_n hx hb dX1_keepShare_21 rfl (lv_at hl 0 rfl) ?_
  refine rcv_inv hf ?_
  intro a9 e10 s11 hf
  refine cal_inv hf ?_
  intro v6 h7 e8 hf
  refine r_call B (va_runV (As := []) (rest := []) X.1 (c_X1_isFed (l := l) (D := D) (b := b) e8) (r_cwV X rfl m_552 m_532 m_533 m_206 m_534 rfl rfl hd_X1_isFed ⟨Nat.le_of_ble_eq_true rfl, Nat.le_of_ble_eq_true rfl⟩) (r_preV X B s11 rfl []) rfl rfl hl.1 (by rw [e10]; rfl) (lv_room (by simp [va_cat, cat_i, cat_r, cat_l])) dX1_keepShare_22 ⟨Nat.zero_le _, Nat.zero_le _⟩) ?_
  intro H locs B
  refine W.cs (cells' := 0) (slots' := 0) rfl rfl (W.eq (g2 := F0 m 25 ls [.int v6]) rfl ?_)
  refine lv_if_eq (tgt := 38) hx hb dX1_keepShare_25 (by decide) (fun q_ => ?_) (fun q_ => ?_)
  · have hf := (r_ite hf).1 q_
    exact t_X1_keepShare_38 X hr hk hn  B (lv_sub hl [] rfl) hf
  · have hf := (r_ite hf).2 q_
    refine r_aload_n hx hb dX1_keepShare_28 rfl (lv_at hl 0 rfl) ?_
    refine lv_dup hx hb dX1_keepShare_29 (va_cat _) ?_
    refine r_gI X B hf fX1_9 (fun _ _ => rfl) m_214 dX1_keepShare_30 (fun v12 hf => ?_)
    refine lv_iconst (v := 1) hx hb dX1_keepShare_33 (by decide) ?_
    refine lv_iadd hx hb dX1_keepShare_34 ?_
    refine r_pI X B hf fX1_9 (Or.inl rfl) m_214 dX1_keepShare_35 (fun h13 H locs B hf => ?_)
    exact t_X1_keepShare_38 X hr hk hn  B (lv_sub hl [] rfl) hf
def f_X4_init (h : AH) (l0 : Nat) : Option (Unit × AH) := pI h (some l0) 4 0 0 (fun h1 => pI h1 (some l0) 4 1 0 (fun h2 => pI h2 (some l0) 4 2 0 (fun h3 => pI h3 (some l0) 4 3 0 (fun h4 => some ((), h4)))))
set_option maxRecDepth 100000 in
set_option maxHeartbeats 4000000 in
theorem c_X4_init {l : Launch} {D : RG} {b : Nat} {h : AH} {l0 : Nat} {vv : Unit} {hh : AH} (hf : f_X4_init h l0 = some (vv, hh)) : Met l yX4_init (Cond.code yX4_init cX4_init 1 none :: wsL_law) ({ frames := 1, cells := 0, slots := 0, locals := 12 } : Room) (va_Pc [.ref l0] (r_I D b h)) (r_Q D b none hh) 0 0 (fun q => b ≤ q) := by
  refine r_ofW (own := RX4) rfl (by decide +kernel) (by simp [lg_sl, va_cat, cat_i, cat_r, cat_l]) ?_
  intro p e s m args below meth c ls X B hr hk hn hl
  have hl : lv_has ls 1 [(0, .ref l0)] := by simpa [lv_args, va_cat, cat_i, cat_r, cat_l] using hl
  have hl : lv_has ls 1 [(0, va_rf (some l0))] := hl
  obtain ⟨⟨hx, hb, hml, hown, hts⟩, -⟩ := id X
  generalize s.heap = H at B ⊢
  generalize ([] : List Loc) = locs at B ⊢
  unfold f_X4_init at hf
  refine r_aload_n hx hb dX4_init_0 rfl (lv_at hl 0 rfl) ?_
  refine W.objInit hx hb hown (hts _ m_76) (hts _ m_14) (hts _ m_15) rfl (by rw [hml]; exact hl.1) rfl dX4_init_1 (Nat.le_of_ble_eq_true rfl) (Nat.le_of_ble_eq_true rfl) ?_
  refine W.eq (g2 := F0 m 4 ls []) rfl ?_
  refine r_aload_n hx hb dX4_init_4 rfl (lv_at hl 0 rfl) ?_
  refine lv_iconst (v := 0) hx hb dX4_init_5 (by decide) ?_
  refine r_pI X B hf fX4_0 (Or.inl rfl) m_77 dX4_init_6 (fun h1 H locs B hf => ?_)
  refine r_aload_n hx hb dX4_init_9 rfl (lv_at hl 0 rfl) ?_
  refine lv_iconst (v := 0) hx hb dX4_init_10 (by decide) ?_
  refine r_pI X B hf fX4_1 (Or.inl rfl) m_78 dX4_init_11 (fun h2 H locs B hf => ?_)
  refine r_aload_n hx hb dX4_init_14 rfl (lv_at hl 0 rfl) ?_
  refine lv_iconst (v := 0) hx hb dX4_init_15 (by decide) ?_
  refine r_pI X B hf fX4_2 (Or.inl rfl) m_79 dX4_init_16 (fun h3 H locs B hf => ?_)
  refine r_aload_n hx hb dX4_init_19 rfl (lv_at hl 0 rfl) ?_
  refine lv_iconst (v := 0) hx hb dX4_init_20 (by decide) ?_
  refine r_pI X B hf fX4_3 (Or.inl rfl) m_80 dX4_init_21 (fun h4 H locs B hf => ?_)
  exact r_vret X B hr hk hf dX4_init_24
def f_X2_init (h : AH) (l0 : Nat) (l1 : Option Nat) (l2 : Option Nat) : Option (Unit × AH) := nO h 4 (fun a1 h2 => rcv h2 (some a1) 4 (fun a6 => cal (f_X4_init h2 a6) (fun v3 h4 => pR h4 (some l0) 2 2 (some a1) (fun h9 => pI h9 (some l0) 2 3 0 (fun h10 => pR h10 (some l0) 2 0 l1 (fun h11 => pR h11 (some l0) 2 1 l2 (fun h12 => some ((), h12))))))))
set_option maxRecDepth 100000 in
set_option maxHeartbeats 4000000 in
theorem c_X2_init {l : Launch} {D : RG} {b : Nat} {h : AH} {l0 : Nat} {l1 : Option Nat} {l2 : Option Nat} {vv : Unit} {hh : AH} (hf : f_X2_init h l0 l1 l2 = some (vv, hh)) : Met l yX2_init (Cond.code yX2_init cX2_init 3 none :: wsL_law) ({ frames := 2, cells := 1, slots := 4, locals := 32 } : Room) (va_Pc [.ref l0, va_rf l1, va_rf l2] (r_I D b h)) (r_Q D b none hh) 1 4 (fun q => b ≤ q) := by
  refine r_ofW (own := RX2) rfl (by decide +kernel) (by simp [lg_sl, va_cat, cat_i, cat_r, cat_l]) ?_
  intro p e s m args below meth c ls X B hr hk hn hl
  have hl : lv_has ls 3 [(0, .ref l0), (1, va_rf l1), (2, va_rf l2)] := by simpa [lv_args, va_cat, cat_i, cat_r, cat_l] using hl
  have hl : lv_has ls 3 [(0, va_rf (some l0)), (1, va_rf l1), (2, va_rf l2)] := hl
  obtain ⟨⟨hx, hb, hml, hown, hts⟩, -⟩ := id X
  generalize s.heap = H at B ⊢
  generalize ([] : List Loc) = locs at B ⊢
  unfold f_X2_init at hf
  refine r_aload_n hx hb dX2_init_0 rfl (lv_at hl 0 rfl) ?_
  refine W.objInit hx hb hown (hts _ m_109) (hts _ m_14) (hts _ m_15) rfl (by rw [hml]; exact hl.1) rfl dX2_init_1 (Nat.le_of_ble_eq_true rfl) (Nat.le_of_ble_eq_true rfl) ?_
  refine W.eq (g2 := F0 m 4 ls []) rfl ?_
  refine r_aload_n hx hb dX2_init_4 rfl (lv_at hl 0 rfl) ?_
  refine r_new X B hf rfl inlX4 tyX4_ok m_110 m_28 m_29 (by decide) (by decide) dX2_init_5 (by decide) (fun a1 h2 H B hf => ?_)
  refine W.cs (cells' := 1) (slots' := 4) rfl rfl ?_
  refine lv_dup hx hb dX2_init_8 (va_cat _) ?_
  refine rcv_inv hf ?_
  intro a6 e7 s8 hf
  refine cal_inv hf ?_
  intro v3 h4 e5 hf
  refine r_call B (va_runIN (b := a6) (As := []) (rest := [va_rf (some a1), va_rf (some l0)]) X.1 (c_X4_init (l := l) (D := D) (b := b) e5) (r_cwN (host := RX7) X rfl (by simp [r_nw]) m_74 m_29 m_75 rfl rfl hd_X4_init ⟨Nat.le_of_ble_eq_true rfl, Nat.le_of_ble_eq_true rfl⟩) (r_preS X B (.ref a6 :: [])) rfl rfl hl.1 (by rw [e7]; rfl) (lv_room (by simp [va_cat, cat_i, cat_r, cat_l])) dX2_init_9 ⟨(by decide), (by decide)⟩) ?_
  intro H locs B
  refine W.cs (cells' := 1) (slots' := 4) rfl rfl (W.eq (g2 := F0 m 12 ls [va_rf (some a1), va_rf (some l0)]) rfl ?_)
  refine r_pR X B hf fX2_2 rfl (Or.inr ⟨rfl, hn, rfl⟩) m_111 dX2_init_12 (fun h9 H locs B hf => ?_)
  refine r_aload_n hx hb dX2_init_15 rfl (lv_at hl 0 rfl) ?_
  refine lv_iconst (v := 0) hx hb dX2_init_16 (by decide) ?_
  refine r_pI X B hf fX2_3 (Or.inl rfl) m_112 dX2_init_17 (fun h10 H locs B hf => ?_)
  refine r_aload_n hx hb dX2_init_20 rfl (lv_at hl 0 rfl) ?_
  refine r_aload_n hx hb dX2_init_21 rfl (lv_at hl 1 rfl) ?_
  refine r_pR X B hf fX2_0 rfl (Or.inr ⟨rfl, hn, rfl⟩) m_113 dX2_init_22 (fun h11 H locs B hf => ?_)
  refine r_aload_n hx hb dX2_init_25 rfl (lv_at hl 0 rfl) ?_
  refine r_aload_n hx hb dX2_init_26 rfl (lv_at hl 2 rfl) ?_
  refine r_pR X B hf fX2_1 rfl (Or.inr ⟨rfl, hn, rfl⟩) m_114 dX2_init_27 (fun h12 H locs B hf => ?_)
  exact r_vret X B hr hk hf dX2_init_30
def f_X3_becomeAs (h : AH) (l0 : Nat) (l1 : Option Nat) : Option (Unit × AH) := gI h l1 3 0 (fun v1 => pI h (some l0) 3 0 v1 (fun h2 => gI h2 l1 3 1 (fun v3 => pI h2 (some l0) 3 1 v3 (fun h4 => gI h4 l1 3 2 (fun v5 => pZ h4 (some l0) 3 2 v5 (fun h6 => gI h6 l1 3 3 (fun v7 => pI h6 (some l0) 3 3 v7 (fun h8 => gI h8 l1 3 4 (fun v9 => pI h8 (some l0) 3 4 v9 (fun h10 => some ((), h10)))))))))))
set_option maxRecDepth 100000 in
set_option maxHeartbeats 4000000 in
theorem c_X3_becomeAs {l : Launch} {D : RG} {b : Nat} {h : AH} {l0 : Nat} {l1 : Option Nat} {vv : Unit} {hh : AH} (hf : f_X3_becomeAs h l0 l1 = some (vv, hh)) : Met l yX3_becomeAs (Cond.code yX3_becomeAs cX3_becomeAs 2 none :: wsL_law) ({ frames := 0, cells := 0, slots := 0, locals := 0 } : Room) (va_Pc [.ref l0, va_rf l1] (r_I D b h)) (r_Q D b none hh) 0 0 (fun q => b ≤ q) := by
  refine r_ofW (own := RX3) rfl (by decide +kernel) (by simp [lg_sl, va_cat, cat_i, cat_r, cat_l]) ?_
  intro p e s m args below meth c ls X B hr hk hn hl
  have hl : lv_has ls 2 [(0, .ref l0), (1, va_rf l1)] := by simpa [lv_args, va_cat, cat_i, cat_r, cat_l] using hl
  have hl : lv_has ls 2 [(0, va_rf (some l0)), (1, va_rf l1)] := hl
  obtain ⟨⟨hx, hb, hml, hown, hts⟩, -⟩ := id X
  generalize s.heap = H at B ⊢
  generalize ([] : List Loc) = locs at B ⊢
  unfold f_X3_becomeAs at hf
  refine r_aload_n hx hb dX3_becomeAs_0 rfl (lv_at hl 0 rfl) ?_
  refine r_aload_n hx hb dX3_becomeAs_1 rfl (lv_at hl 1 rfl) ?_
  refine r_gI X B hf fX3_0 (fun _ _ => rfl) m_101 dX3_becomeAs_2 (fun v1 hf => ?_)
  refine r_pI X B hf fX3_0 (Or.inl rfl) m_101 dX3_becomeAs_5 (fun h2 H locs B hf => ?_)
  refine r_aload_n hx hb dX3_becomeAs_8 rfl (lv_at hl 0 rfl) ?_
  refine r_aload_n hx hb dX3_becomeAs_9 rfl (lv_at hl 1 rfl) ?_
  refine r_gI X B hf fX3_1 (fun _ _ => rfl) m_102 dX3_becomeAs_10 (fun v3 hf => ?_)
  refine r_pI X B hf fX3_1 (Or.inl rfl) m_102 dX3_becomeAs_13 (fun h4 H locs B hf => ?_)
  refine r_aload_n hx hb dX3_becomeAs_16 rfl (lv_at hl 0 rfl) ?_
  refine r_aload_n hx hb dX3_becomeAs_17 rfl (lv_at hl 1 rfl) ?_
  refine r_gI X B hf fX3_2 (fun _ _ => rfl) m_103 dX3_becomeAs_18 (fun v5 hf => ?_)
  refine r_pZ X B hf fX3_2 (Or.inl rfl) m_103 dX3_becomeAs_21 (fun h6 H locs B hf => ?_)
  refine r_aload_n hx hb dX3_becomeAs_24 rfl (lv_at hl 0 rfl) ?_
  refine r_aload_n hx hb dX3_becomeAs_25 rfl (lv_at hl 1 rfl) ?_
  refine r_gI X B hf fX3_3 (fun _ _ => rfl) m_104 dX3_becomeAs_26 (fun v7 hf => ?_)
  refine r_pI X B hf fX3_3 (Or.inl rfl) m_104 dX3_becomeAs_29 (fun h8 H locs B hf => ?_)
  refine r_aload_n hx hb dX3_becomeAs_32 rfl (lv_at hl 0 rfl) ?_
  refine r_aload_n hx hb dX3_becomeAs_33 rfl (lv_at hl 1 rfl) ?_
  refine r_gI X B hf fX3_4 (fun _ _ => rfl) m_105 dX3_becomeAs_34 (fun v9 hf => ?_)
  refine r_pI X B hf fX3_4 (Or.inl rfl) m_105 dX3_becomeAs_37 (fun h10 H locs B hf => ?_)
  exact r_vret X B hr hk hf dX3_becomeAs_40
def f_X2_startFromNow_5 : Nat → AH → Option Nat → Option (Unit × AH)
  | 0, _, _ => none
  | n + 1, h, l1 => nul l1 (some ((), h)) (gR h l1 5 3 (fun v1 => gR h l1 5 2 (fun v2 => rcv h v1 3 (fun a6 => cal (f_X3_becomeAs h a6 v2) (fun v3 h4 => gR h4 l1 5 1 (fun v9 => f_X2_startFromNow_5 n h4 v9))))))
def f_X2_startFromNow (h : AH) (l0 : Nat) : Option (Unit × AH) := gR h (some l0) 2 0 (fun v10 => f_X2_startFromNow_5 FU h v10)
set_option maxRecDepth 100000 in
set_option maxHeartbeats 4000000 in
theorem t_X2_startFromNow_5 {p : Program} {l : Launch} {e : Env} {s : State} {m : MethodId} {args : Array Value} {below : List Frame} {meth : Method} {c : Code} {D : RG} {b : Nat} {vv : Unit} {hh : AH} (X : r_C p c cX2_startFromNow 2 s m args RX2 D b) (hr : meth.sig.returnType = none) (hk : meth.locks = false) (hn : meth.name = "startFromNow") : ∀ (n : Nat) (h : AH) (H : Heap) (locs : List Loc) (ls : Array Slot) (l1 : Option Nat), r_B D b s h H locs → lv_has ls 2 [(1, va_rf l1)] → f_X2_startFromNow_5 n h l1 = some (vv, hh) → W p l e ({ frames := 1, cells := 0, slots := 0, locals := 21 } : Room) s m args below meth c H locs 0 0 (MQ below (r_Q D b none hh) args s 0 0 (fun q => b ≤ q)) (F0 m 5 ls []) := by
  obtain ⟨⟨hx, hb, hml, hown, hts⟩, -⟩ := id X
  intro n
  induction n with
  | zero =>
    intro h H locs ls l1 B hl hf
    cases hf
  | succ n ih =>
    intro h H locs ls l1 B hl hf
    unfold f_X2_startFromNow_5 at hf
    refine r_aload_n hx hb dX2_startFromNow_5 rfl (lv_at hl 0 rfl) ?_
    refine r_ifnull (tgt := 28) hx hb hf dX2_startFromNow_6 (by decide) (fun hf e_ => ?_) (fun hf e_ => ?_)
    · exact r_vret X B hr hk hf dX2_startFromNow_28
    · refine r_aload_n hx hb dX2_startFromNow_9 rfl (lv_at hl 0 rfl) ?_
      refine r_gR X B hf fX5_3 (fun _ _ => rfl) m_469 dX2_startFromNow_10 (fun v1 hf => ?_)
      refine r_aload_n hx hb dX2_startFromNow_13 rfl (lv_at hl 0 rfl) ?_
      refine r_gR X B hf fX5_2 (fun _ _ => rfl) m_470 dX2_startFromNow_14 (fun v2 hf => ?_)
      refine rcv_inv hf ?_
      intro a6 e7 s8 hf
      refine cal_inv hf ?_
      intro v3 h4 e5 hf
      refine r_call B (va_runV (As := [va_rf v2]) (rest := []) X.1 (c_X3_becomeAs (l := l) (D := D) (b := b) e5) (r_cwV X rfl m_472 m_473 m_474 m_87 m_475 rfl rfl hd_X3_becomeAs ⟨Nat.le_of_ble_eq_true rfl, Nat.le_of_ble_eq_true rfl⟩) (r_preV X B s8 rfl [va_rf v2]) rfl rfl hl.1 (by rw [e7]; rfl) (lv_room (by simp [va_cat, cat_i, cat_r, cat_l])) dX2_startFromNow_17 ⟨Nat.zero_le _, Nat.zero_le _⟩) ?_
      intro H locs B
      refine W.cs (cells' := 0) (slots' := 0) rfl rfl (W.eq (g2 := F0 m 20 ls []) rfl ?_)
      refine r_aload_n hx hb dX2_startFromNow_20 rfl (lv_at hl 0 rfl) ?_
      refine r_gR X B hf fX5_1 (fun _ _ => rfl) m_471 dX2_startFromNow_21 (fun v9 hf => ?_)
      refine r_astore_n (i := 1) (lv' := [(1, va_rf v9)]) hx hb dX2_startFromNow_24 rfl hl (by decide) (by first | rfl | simp [va_cat, cat_i, cat_r, cat_l]) (fun ls hl => ?_)
      refine lv_goto (tgt := 5) hx hb dX2_startFromNow_25 (by decide) ?_
      exact ih _ _ _ _ _ B (lv_sub hl [0] rfl) hf
set_option maxRecDepth 100000 in
set_option maxHeartbeats 4000000 in
theorem c_X2_startFromNow {l : Launch} {D : RG} {b : Nat} {h : AH} {l0 : Nat} {vv : Unit} {hh : AH} (hf : f_X2_startFromNow h l0 = some (vv, hh)) : Met l yX2_startFromNow (Cond.code yX2_startFromNow cX2_startFromNow 2 none :: wsL_law) ({ frames := 1, cells := 0, slots := 0, locals := 21 } : Room) (va_Pc [.ref l0] (r_I D b h)) (r_Q D b none hh) 0 0 (fun q => b ≤ q) := by
  refine r_ofW (own := RX2) rfl (by decide +kernel) (by simp [lg_sl, va_cat, cat_i, cat_r, cat_l]) ?_
  intro p e s m args below meth c ls X B hr hk hn hl
  have hl : lv_has ls 2 [(0, .ref l0)] := by simpa [lv_args, va_cat, cat_i, cat_r, cat_l] using hl
  have hl : lv_has ls 2 [(0, va_rf (some l0))] := hl
  obtain ⟨⟨hx, hb, hml, hown, hts⟩, -⟩ := id X
  generalize s.heap = H at B ⊢
  generalize ([] : List Loc) = locs at B ⊢
  unfold f_X2_startFromNow at hf
  refine r_aload_n hx hb dX2_startFromNow_0 rfl (lv_at hl 0 rfl) ?_
  refine r_gR X B hf fX2_0 (fun _ _ => rfl) m_113 dX2_startFromNow_1 (fun v10 hf => ?_)
  refine r_astore_n (i := 1) (lv' := [(1, va_rf v10), (0, va_rf (some l0))]) hx hb dX2_startFromNow_4 rfl hl (by decide) (by first | rfl | simp [va_cat, cat_i, cat_r, cat_l]) (fun ls hl => ?_)
  exact t_X2_startFromNow_5 X hr hk hn  _ _ _ _ _ _ B (lv_sub hl [0] rfl) hf
def f_X4_clear (h : AH) (l0 : Nat) : Option (Unit × AH) := pI h (some l0) 4 0 0 (fun h1 => pI h1 (some l0) 4 1 0 (fun h2 => pI h2 (some l0) 4 2 0 (fun h3 => pI h3 (some l0) 4 3 0 (fun h4 => some ((), h4)))))
set_option maxRecDepth 100000 in
set_option maxHeartbeats 4000000 in
theorem c_X4_clear {l : Launch} {D : RG} {b : Nat} {h : AH} {l0 : Nat} {vv : Unit} {hh : AH} (hf : f_X4_clear h l0 = some (vv, hh)) : Met l yX4_clear (Cond.code yX4_clear cX4_clear 1 none :: wsL_law) ({ frames := 0, cells := 0, slots := 0, locals := 0 } : Room) (va_Pc [.ref l0] (r_I D b h)) (r_Q D b none hh) 0 0 (fun q => b ≤ q) := by
  refine r_ofW (own := RX4) rfl (by decide +kernel) (by simp [lg_sl, va_cat, cat_i, cat_r, cat_l]) ?_
  intro p e s m args below meth c ls X B hr hk hn hl
  have hl : lv_has ls 1 [(0, .ref l0)] := by simpa [lv_args, va_cat, cat_i, cat_r, cat_l] using hl
  have hl : lv_has ls 1 [(0, va_rf (some l0))] := hl
  obtain ⟨⟨hx, hb, hml, hown, hts⟩, -⟩ := id X
  generalize s.heap = H at B ⊢
  generalize ([] : List Loc) = locs at B ⊢
  unfold f_X4_clear at hf
  refine r_aload_n hx hb dX4_clear_0 rfl (lv_at hl 0 rfl) ?_
  refine lv_iconst (v := 0) hx hb dX4_clear_1 (by decide) ?_
  refine r_pI X B hf fX4_0 (Or.inl rfl) m_77 dX4_clear_2 (fun h1 H locs B hf => ?_)
  refine r_aload_n hx hb dX4_clear_5 rfl (lv_at hl 0 rfl) ?_
  refine lv_iconst (v := 0) hx hb dX4_clear_6 (by decide) ?_
  refine r_pI X B hf fX4_1 (Or.inl rfl) m_78 dX4_clear_7 (fun h2 H locs B hf => ?_)
  refine r_aload_n hx hb dX4_clear_10 rfl (lv_at hl 0 rfl) ?_
  refine lv_iconst (v := 0) hx hb dX4_clear_11 (by decide) ?_
  refine r_pI X B hf fX4_2 (Or.inl rfl) m_79 dX4_clear_12 (fun h3 H locs B hf => ?_)
  refine r_aload_n hx hb dX4_clear_15 rfl (lv_at hl 0 rfl) ?_
  refine lv_iconst (v := 0) hx hb dX4_clear_16 (by decide) ?_
  refine r_pI X B hf fX4_3 (Or.inl rfl) m_80 dX4_clear_17 (fun h4 H locs B hf => ?_)
  exact r_vret X B hr hk hf dX4_clear_20
def f_X5_isBadYearWith_15 (h : AH) (s0 : Int32) : Option (Int32 × AH) := rZ s0 h
def f_X5_isBadYearWith (h : AH) (l0 : Nat) (l1 : Int32) : Option (Int32 × AH) := gI h (some l0) 5 5 (fun v1 => dv v1 2 (fun v2 => if v2 ≤ l1 then f_X5_isBadYearWith_15 h 0 else f_X5_isBadYearWith_15 h 1))
set_option maxRecDepth 100000 in
set_option maxHeartbeats 4000000 in
theorem t_X5_isBadYearWith_15 {p : Program} {l : Launch} {e : Env} {s : State} {m : MethodId} {args : Array Value} {below : List Frame} {meth : Method} {c : Code} {D : RG} {b : Nat} {vv : Int32} {hh : AH} (X : r_C p c cX5_isBadYearWith 2 s m args RX5 D b) (hr : meth.sig.returnType = (some .boolean)) (hk : meth.locks = false) (hn : meth.name = "isBadYearWith") {h : AH} {H : Heap} {locs : List Loc} {ls : Array Slot} {s0 : Int32} (B : r_B D b s h H locs) (hl : lv_has ls 2 []) (hf : f_X5_isBadYearWith_15 h s0 = some (vv, hh)) : W p l e ({ frames := 0, cells := 0, slots := 0, locals := 0 } : Room) s m args below meth c H locs 0 0 (MQ below (r_Q D b (some (.int vv)) hh) args s 0 0 (fun q => b ≤ q)) (F0 m 15 ls [.int s0]) := by
  obtain ⟨⟨hx, hb, hml, hown, hts⟩, -⟩ := id X
  unfold f_X5_isBadYearWith_15 at hf
  exact r_zret X B hr hk hf dX5_isBadYearWith_15
set_option maxRecDepth 100000 in
set_option maxHeartbeats 4000000 in
theorem c_X5_isBadYearWith {l : Launch} {D : RG} {b : Nat} {h : AH} {l0 : Nat} {l1 : Int32} {vv : Int32} {hh : AH} (hf : f_X5_isBadYearWith h l0 l1 = some (vv, hh)) : Met l yX5_isBadYearWith (Cond.code yX5_isBadYearWith cX5_isBadYearWith 2 (some .boolean) :: wsL_law) ({ frames := 0, cells := 0, slots := 0, locals := 0 } : Room) (va_Pc [.ref l0, .int l1] (r_I D b h)) (r_Q D b (some (.int vv)) hh) 0 0 (fun q => b ≤ q) := by
  refine r_ofW (own := RX5) rfl (by decide +kernel) (by simp [lg_sl, va_cat, cat_i, cat_r, cat_l]) ?_
  intro p e s m args below meth c ls X B hr hk hn hl
  have hl : lv_has ls 2 [(0, .ref l0), (1, .int l1)] := by simpa [lv_args, va_cat, cat_i, cat_r, cat_l] using hl
  have hl : lv_has ls 2 [(0, va_rf (some l0)), (1, .int l1)] := hl
  obtain ⟨⟨hx, hb, hml, hown, hts⟩, -⟩ := id X
  generalize s.heap = H at B ⊢
  generalize ([] : List Loc) = locs at B ⊢
  unfold f_X5_isBadYearWith at hf
  refine lv_iload_n hx hb dX5_isBadYearWith_0 rfl (lv_at hl 1 rfl) ?_
  refine r_aload_n hx hb dX5_isBadYearWith_1 rfl (lv_at hl 0 rfl) ?_
  refine r_gI X B hf fX5_5 (fun _ _ => rfl) m_91 dX5_isBadYearWith_2 (fun v1 hf => ?_)
  refine lv_iconst (v := 2) hx hb dX5_isBadYearWith_5 (by decide) ?_
  refine r_div hx hb hf dX5_isBadYearWith_6 (fun v2 hf => ?_)
  refine lv_icmp_ge (tgt := 14) hx hb dX5_isBadYearWith_7 (by decide) (fun q_ => ?_) (fun q_ => ?_)
  · have hf := (r_ite hf).1 q_
    refine lv_iconst (v := 0) hx hb dX5_isBadYearWith_14 (by decide) ?_
    exact t_X5_isBadYearWith_15 X hr hk hn  B (lv_sub hl [] rfl) hf
  · have hf := (r_ite hf).2 q_
    refine lv_iconst (v := 1) hx hb dX5_isBadYearWith_10 (by decide) ?_
    refine lv_goto (tgt := 15) hx hb dX5_isBadYearWith_11 (by decide) ?_
    exact t_X5_isBadYearWith_15 X hr hk hn  B (lv_sub hl [] rfl) hf
def f_X2_areasWithin_28 (k_7 : AH → Int32 → Int32 → Option Nat → Option (Int32 × AH)) (h : AH) (l1 : Int32) (l3 : Option Nat) (s0 : Int32) (s1 : Int32) : Option (Int32 × AH) := bd (s0 + s1) (fun v1 => gR h l3 1 6 (fun v2 => k_7 h l1 v1 v2))
def f_X2_areasWithin_7 : Nat → AH → Int32 → Int32 → Option Nat → Option (Int32 × AH)
  | 0, _, _, _, _ => none
  | n + 1, h, l1, l2, l3 => nul l3 (some (l2, h)) (gI h l3 1 2 (fun v3 => if l1 < v3 then f_X2_areasWithin_28 (f_X2_areasWithin_7 n) h l1 l3 l2 0 else gI h l3 1 3 (fun v4 => f_X2_areasWithin_28 (f_X2_areasWithin_7 n) h l1 l3 l2 v4)))
def f_X2_areasWithin (h : AH) (l0 : Option Nat) (l1 : Int32) : Option (Int32 × AH) := gR h l0 5 9 (fun v5 => f_X2_areasWithin_7 FU h l1 0 v5)
set_option maxRecDepth 100000 in
set_option maxHeartbeats 4000000 in
theorem t_X2_areasWithin_28 {p : Program} {l : Launch} {e : Env} {s : State} {m : MethodId} {args : Array Value} {below : List Frame} {meth : Method} {c : Code} {D : RG} {b : Nat} {vv : Int32} {hh : AH} (X : r_C p c cX2_areasWithin 4 s m args RX2 D b) (hr : meth.sig.returnType = (some .int)) (hk : meth.locks = false) (hn : meth.name = "areasWithin") {k_7 : AH → Int32 → Int32 → Option Nat → Option (Int32 × AH)} (r_7 : ∀ (h : AH) (H : Heap) (locs : List Loc) (ls : Array Slot) (l1 : Int32) (l2 : Int32) (l3 : Option Nat), r_B D b s h H locs → lv_has ls 4 [(1, .int l1), (2, .int l2), (3, va_rf l3)] → k_7 h l1 l2 l3 = some (vv, hh) → W p l e ({ frames := 0, cells := 0, slots := 0, locals := 0 } : Room) s m args below meth c H locs 0 0 (MQ below (r_Q D b (some (.int vv)) hh) args s 0 0 (fun q => b ≤ q)) (F0 m 7 ls [])) {h : AH} {H : Heap} {locs : List Loc} {ls : Array Slot} {l1 : Int32} {l3 : Option Nat} {s0 : Int32} {s1 : Int32} (B : r_B D b s h H locs) (hl : lv_has ls 4 [(1, .int l1), (3, va_rf l3)]) (hf : f_X2_areasWithin_28 k_7 h l1 l3 s0 s1 = some (vv, hh)) : W p l e ({ frames := 0, cells := 0, slots := 0, locals := 0 } : Room) s m args below meth c H locs 0 0 (MQ below (r_Q D b (some (.int vv)) hh) args s 0 0 (fun q => b ≤ q)) (F0 m 28 ls [.int s1, .int s0]) := by
  obtain ⟨⟨hx, hb, hml, hown, hts⟩, -⟩ := id X
  unfold f_X2_areasWithin_28 at hf
  refine lv_iadd hx hb dX2_areasWithin_28 ?_
  refine r_bd hf (fun v1 hf => ?_)
  refine lv_istore_n (i := 2) (lv' := [(2, .int v1), (1, .int l1), (3, va_rf l3)]) hx hb dX2_areasWithin_29 rfl hl (by decide) (by first | rfl | simp [va_cat, cat_i, cat_r, cat_l]) (fun ls hl => ?_)
  refine r_aload_n hx hb dX2_areasWithin_30 rfl (lv_at hl 2 rfl) ?_
  refine r_gR X B hf fX1_6 (fun _ _ => rfl) m_512 dX2_areasWithin_31 (fun v2 hf => ?_)
  refine r_astore_n (i := 3) (lv' := [(3, va_rf v2), (2, .int v1), (1, .int l1)]) hx hb dX2_areasWithin_34 rfl hl (by decide) (by first | rfl | simp [va_cat, cat_i, cat_r, cat_l]) (fun ls hl => ?_)
  refine lv_goto (tgt := 7) hx hb dX2_areasWithin_35 (by decide) ?_
  exact r_7 _ _ _ _ _ _ _ B (lv_sub hl [2, 1, 0] rfl) hf
set_option maxRecDepth 100000 in
set_option maxHeartbeats 4000000 in
theorem t_X2_areasWithin_7 {p : Program} {l : Launch} {e : Env} {s : State} {m : MethodId} {args : Array Value} {below : List Frame} {meth : Method} {c : Code} {D : RG} {b : Nat} {vv : Int32} {hh : AH} (X : r_C p c cX2_areasWithin 4 s m args RX2 D b) (hr : meth.sig.returnType = (some .int)) (hk : meth.locks = false) (hn : meth.name = "areasWithin") : ∀ (n : Nat) (h : AH) (H : Heap) (locs : List Loc) (ls : Array Slot) (l1 : Int32) (l2 : Int32) (l3 : Option Nat), r_B D b s h H locs → lv_has ls 4 [(1, .int l1), (2, .int l2), (3, va_rf l3)] → f_X2_areasWithin_7 n h l1 l2 l3 = some (vv, hh) → W p l e ({ frames := 0, cells := 0, slots := 0, locals := 0 } : Room) s m args below meth c H locs 0 0 (MQ below (r_Q D b (some (.int vv)) hh) args s 0 0 (fun q => b ≤ q)) (F0 m 7 ls []) := by
  obtain ⟨⟨hx, hb, hml, hown, hts⟩, -⟩ := id X
  intro n
  induction n with
  | zero =>
    intro h H locs ls l1 l2 l3 B hl hf
    cases hf
  | succ n ih =>
    intro h H locs ls l1 l2 l3 B hl hf
    unfold f_X2_areasWithin_7 at hf
    refine r_aload_n hx hb dX2_areasWithin_7 rfl (lv_at hl 2 rfl) ?_
    refine r_ifnull (tgt := 38) hx hb hf dX2_areasWithin_8 (by decide) (fun hf e_ => ?_) (fun hf e_ => ?_)
    · refine lv_iload_n hx hb dX2_areasWithin_38 rfl (lv_at hl 1 rfl) ?_
      exact r_iret X B hr hk hf dX2_areasWithin_39
    · refine lv_iload_n hx hb dX2_areasWithin_11 rfl (lv_at hl 1 rfl) ?_
      refine r_aload_n hx hb dX2_areasWithin_12 rfl (lv_at hl 2 rfl) ?_
      refine r_gI X B hf fX1_2 (fun _ _ => rfl) m_520 dX2_areasWithin_13 (fun v3 hf => ?_)
      refine lv_iload_n hx hb dX2_areasWithin_16 rfl (lv_at hl 0 rfl) ?_
      refine lv_icmp_gt (tgt := 27) hx hb dX2_areasWithin_17 (by decide) (fun q_ => ?_) (fun q_ => ?_)
      · have hf := (r_ite hf).1 q_
        refine lv_iconst (v := 0) hx hb dX2_areasWithin_27 (by decide) ?_
        exact t_X2_areasWithin_28 X hr hk hn ih B (lv_sub hl [0, 2] rfl) hf
      · have hf := (r_ite hf).2 q_
        refine r_aload_n hx hb dX2_areasWithin_20 rfl (lv_at hl 2 rfl) ?_
        refine r_gI X B hf fX1_3 (fun _ _ => rfl) m_511 dX2_areasWithin_21 (fun v4 hf => ?_)
        refine lv_goto (tgt := 28) hx hb dX2_areasWithin_24 (by decide) ?_
        exact t_X2_areasWithin_28 X hr hk hn ih B (lv_sub hl [0, 2] rfl) hf
set_option maxRecDepth 100000 in
set_option maxHeartbeats 4000000 in
theorem c_X2_areasWithin {l : Launch} {D : RG} {b : Nat} {h : AH} {l0 : Option Nat} {l1 : Int32} {vv : Int32} {hh : AH} (hf : f_X2_areasWithin h l0 l1 = some (vv, hh)) : Met l yX2_areasWithin (Cond.code yX2_areasWithin cX2_areasWithin 4 (some .int) :: wsL_law) ({ frames := 0, cells := 0, slots := 0, locals := 0 } : Room) (va_Pc [va_rf l0, .int l1] (r_I D b h)) (r_Q D b (some (.int vv)) hh) 0 0 (fun q => b ≤ q) := by
  refine r_ofW (own := RX2) rfl (by decide +kernel) (by simp [lg_sl, va_cat, cat_i, cat_r, cat_l]) ?_
  intro p e s m args below meth c ls X B hr hk hn hl
  have hl : lv_has ls 4 [(0, va_rf l0), (1, .int l1)] := by simpa [lv_args, va_cat, cat_i, cat_r, cat_l] using hl
  have hl : lv_has ls 4 [(0, va_rf l0), (1, .int l1)] := hl
  obtain ⟨⟨hx, hb, hml, hown, hts⟩, -⟩ := id X
  generalize s.heap = H at B ⊢
  generalize ([] : List Loc) = locs at B ⊢
  unfold f_X2_areasWithin at hf
  refine lv_iconst (v := 0) hx hb dX2_areasWithin_0 (by decide) ?_
  refine lv_istore_n (i := 2) (lv' := [(2, .int 0), (0, va_rf l0), (1, .int l1)]) hx hb dX2_areasWithin_1 rfl hl (by decide) (by first | rfl | simp [va_cat, cat_i, cat_r, cat_l]) (fun ls hl => ?_)
  refine r_aload_n hx hb dX2_areasWithin_2 rfl (lv_at hl 1 rfl) ?_
  refine r_gR X B hf fX5_9 (fun _ _ => rfl) m_509 dX2_areasWithin_3 (fun v5 hf => ?_)
  refine r_astore_n (i := 3) (lv' := [(3, va_rf v5), (2, .int 0), (0, va_rf l0), (1, .int l1)]) hx hb dX2_areasWithin_6 rfl hl (by decide) (by first | rfl | simp [va_cat, cat_i, cat_r, cat_l]) (fun ls hl => ?_)
  exact t_X2_areasWithin_7 X hr hk hn  _ _ _ _ _ _ _ _ B (lv_sub hl [3, 1, 0] rfl) hf
def f_X2_giveOneMore_55 (h : AH)  : Option (Unit × AH) := some ((), h)
def f_X2_giveOneMore_28 (k_9 : AH → Option Nat → Int32 → Option Nat → Option (Unit × AH)) (h : AH) (l1 : Option Nat) (l2 : Int32) (l3 : Option Nat) : Option (Unit × AH) := gR h l3 1 6 (fun v1 => k_9 h l1 l2 v1)
def f_X2_giveOneMore_9 : Nat → AH → Option Nat → Int32 → Option Nat → Option (Unit × AH)
  | 0, _, _, _, _ => none
  | n + 1, h, l1, l2, l3 => nul l3 (nul l1 (f_X2_giveOneMore_55 h) (gI h l1 1 7 (fun v2 => pI h l1 1 7 (v2 + 1) (fun h3 => pI h3 l1 1 8 0 (fun h4 => f_X2_giveOneMore_55 h4))))) (gI h l3 1 8 (fun v5 => if v5 ≤ l2 then f_X2_giveOneMore_28 (f_X2_giveOneMore_9 n) h l1 l2 l3 else gI h l3 1 8 (fun v6 => f_X2_giveOneMore_28 (f_X2_giveOneMore_9 n) h l3 v6 l3)))
def f_X2_giveOneMore (h : AH) (l0 : Option Nat) : Option (Unit × AH) := gR h l0 5 9 (fun v7 => f_X2_giveOneMore_9 FU h none 0 v7)
set_option maxRecDepth 100000 in
set_option maxHeartbeats 4000000 in
theorem t_X2_giveOneMore_55 {p : Program} {l : Launch} {e : Env} {s : State} {m : MethodId} {args : Array Value} {below : List Frame} {meth : Method} {c : Code} {D : RG} {b : Nat} {vv : Unit} {hh : AH} (X : r_C p c cX2_giveOneMore 4 s m args RX2 D b) (hr : meth.sig.returnType = none) (hk : meth.locks = false) (hn : meth.name = "giveOneMore") {h : AH} {H : Heap} {locs : List Loc} {ls : Array Slot}  (B : r_B D b s h H locs) (hl : lv_has ls 4 []) (hf : f_X2_giveOneMore_55 h  = some (vv, hh)) : W p l e ({ frames := 0, cells := 0, slots := 0, locals := 0 } : Room) s m args below meth c H locs 0 0 (MQ below (r_Q D b none hh) args s 0 0 (fun q => b ≤ q)) (F0 m 55 ls []) := by
  obtain ⟨⟨hx, hb, hml, hown, hts⟩, -⟩ := id X
  unfold f_X2_giveOneMore_55 at hf
  exact r_vret X B hr hk hf dX2_giveOneMore_55
set_option maxRecDepth 100000 in
set_option maxHeartbeats 4000000 in
theorem t_X2_giveOneMore_28 {p : Program} {l : Launch} {e : Env} {s : State} {m : MethodId} {args : Array Value} {below : List Frame} {meth : Method} {c : Code} {D : RG} {b : Nat} {vv : Unit} {hh : AH} (X : r_C p c cX2_giveOneMore 4 s m args RX2 D b) (hr : meth.sig.returnType = none) (hk : meth.locks = false) (hn : meth.name = "giveOneMore") {k_9 : AH → Option Nat → Int32 → Option Nat → Option (Unit × AH)} (r_9 : ∀ (h : AH) (H : Heap) (locs : List Loc) (ls : Array Slot) (l1 : Option Nat) (l2 : Int32) (l3 : Option Nat), r_B D b s h H locs → lv_has ls 4 [(1, va_rf l1), (2, .int l2), (3, va_rf l3)] → k_9 h l1 l2 l3 = some (vv, hh) → W p l e ({ frames := 0, cells := 0, slots := 0, locals := 0 } : Room) s m args below meth c H locs 0 0 (MQ below (r_Q D b none hh) args s 0 0 (fun q => b ≤ q)) (F0 m 9 ls [])) {h : AH} {H : Heap} {locs : List Loc} {ls : Array Slot} {l1 : Option Nat} {l2 : Int32} {l3 : Option Nat} (B : r_B D b s h H locs) (hl : lv_has ls 4 [(1, va_rf l1), (2, .int l2), (3, va_rf l3)]) (hf : f_X2_giveOneMore_28 k_9 h l1 l2 l3 = some (vv, hh)) : W p l e ({ frames := 0, cells := 0, slots := 0, locals := 0 } : Room) s m args below meth c H locs 0 0 (MQ below (r_Q D b none hh) args s 0 0 (fun q => b ≤ q)) (F0 m 28 ls []) := by
  obtain ⟨⟨hx, hb, hml, hown, hts⟩, -⟩ := id X
  unfold f_X2_giveOneMore_28 at hf
  refine r_aload_n hx hb dX2_giveOneMore_28 rfl (lv_at hl 2 rfl) ?_
  refine r_gR X B hf fX1_6 (fun _ _ => rfl) m_512 dX2_giveOneMore_29 (fun v1 hf => ?_)
  refine r_astore_n (i := 3) (lv' := [(3, va_rf v1), (1, va_rf l1), (2, .int l2)]) hx hb dX2_giveOneMore_32 rfl hl (by decide) (by first | rfl | simp [va_cat, cat_i, cat_r, cat_l]) (fun ls hl => ?_)
  refine lv_goto (tgt := 9) hx hb dX2_giveOneMore_33 (by decide) ?_
  exact r_9 _ _ _ _ _ _ _ B (lv_sub hl [1, 2, 0] rfl) hf
set_option maxRecDepth 100000 in
set_option maxHeartbeats 4000000 in
theorem t_X2_giveOneMore_9 {p : Program} {l : Launch} {e : Env} {s : State} {m : MethodId} {args : Array Value} {below : List Frame} {meth : Method} {c : Code} {D : RG} {b : Nat} {vv : Unit} {hh : AH} (X : r_C p c cX2_giveOneMore 4 s m args RX2 D b) (hr : meth.sig.returnType = none) (hk : meth.locks = false) (hn : meth.name = "giveOneMore") : ∀ (n : Nat) (h : AH) (H : Heap) (locs : List Loc) (ls : Array Slot) (l1 : Option Nat) (l2 : Int32) (l3 : Option Nat), r_B D b s h H locs → lv_has ls 4 [(1, va_rf l1), (2, .int l2), (3, va_rf l3)] → f_X2_giveOneMore_9 n h l1 l2 l3 = some (vv, hh) → W p l e ({ frames := 0, cells := 0, slots := 0, locals := 0 } : Room) s m args below meth c H locs 0 0 (MQ below (r_Q D b none hh) args s 0 0 (fun q => b ≤ q)) (F0 m 9 ls []) := by
  obtain ⟨⟨hx, hb, hml, hown, hts⟩, -⟩ := id X
  intro n
  induction n with
  | zero =>
    intro h H locs ls l1 l2 l3 B hl hf
    cases hf
  | succ n ih =>
    intro h H locs ls l1 l2 l3 B hl hf
    unfold f_X2_giveOneMore_9 at hf
    refine r_aload_n hx hb dX2_giveOneMore_9 rfl (lv_at hl 2 rfl) ?_
    refine r_ifnull (tgt := 36) hx hb hf dX2_giveOneMore_10 (by decide) (fun hf e_ => ?_) (fun hf e_ => ?_)
    · refine r_aload_n hx hb dX2_giveOneMore_36 rfl (lv_at hl 0 rfl) ?_
      refine r_ifnull (tgt := 55) hx hb hf dX2_giveOneMore_37 (by decide) (fun hf e_ => ?_) (fun hf e_ => ?_)
      · exact t_X2_giveOneMore_55 X hr hk hn  B (lv_sub hl [] rfl) hf
      · refine r_aload_n hx hb dX2_giveOneMore_40 rfl (lv_at hl 0 rfl) ?_
        refine lv_dup hx hb dX2_giveOneMore_41 (va_cat _) ?_
        refine r_gI X B hf fX1_7 (fun _ _ => rfl) m_510 dX2_giveOneMore_42 (fun v2 hf => ?_)
        refine lv_iconst (v := 1) hx hb dX2_giveOneMore_45 (by decide) ?_
        refine lv_iadd hx hb dX2_giveOneMore_46 ?_
        refine r_pI X B hf fX1_7 (Or.inl rfl) m_510 dX2_giveOneMore_47 (fun h3 H locs B hf => ?_)
        refine r_aload_n hx hb dX2_giveOneMore_50 rfl (lv_at hl 0 rfl) ?_
        refine lv_iconst (v := 0) hx hb dX2_giveOneMore_51 (by decide) ?_
        refine r_pI X B hf fX1_8 (Or.inl rfl) m_524 dX2_giveOneMore_52 (fun h4 H locs B hf => ?_)
        exact t_X2_giveOneMore_55 X hr hk hn  B (lv_sub hl [] rfl) hf
    · refine r_aload_n hx hb dX2_giveOneMore_13 rfl (lv_at hl 2 rfl) ?_
      refine r_gI X B hf fX1_8 (fun _ _ => rfl) m_524 dX2_giveOneMore_14 (fun v5 hf => ?_)
      refine lv_iload_n hx hb dX2_giveOneMore_17 rfl (lv_at hl 1 rfl) ?_
      refine lv_icmp_le (tgt := 28) hx hb dX2_giveOneMore_18 (by decide) (fun q_ => ?_) (fun q_ => ?_)
      · have hf := (r_ite hf).1 q_
        exact t_X2_giveOneMore_28 X hr hk hn ih B (lv_sub hl [0, 1, 2] rfl) hf
      · have hf := (r_ite hf).2 q_
        refine r_aload_n hx hb dX2_giveOneMore_21 rfl (lv_at hl 2 rfl) ?_
        refine r_gI X B hf fX1_8 (fun _ _ => rfl) m_524 dX2_giveOneMore_22 (fun v6 hf => ?_)
        refine lv_istore_n (i := 2) (lv' := [(2, .int v6), (1, va_rf l1), (3, va_rf l3)]) hx hb dX2_giveOneMore_25 rfl hl (by decide) (by first | rfl | simp [va_cat, cat_i, cat_r, cat_l]) (fun ls hl => ?_)
        refine r_aload_n hx hb dX2_giveOneMore_26 rfl (lv_at hl 2 rfl) ?_
        refine r_astore_n (i := 1) (lv' := [(1, va_rf l3), (2, .int v6), (3, va_rf l3)]) hx hb dX2_giveOneMore_27 rfl hl (by decide) (by first | rfl | simp [va_cat, cat_i, cat_r, cat_l]) (fun ls hl => ?_)
        exact t_X2_giveOneMore_28 X hr hk hn ih B (lv_sub hl [0, 1, 2] rfl) hf
set_option maxRecDepth 100000 in
set_option maxHeartbeats 4000000 in
theorem c_X2_giveOneMore {l : Launch} {D : RG} {b : Nat} {h : AH} {l0 : Option Nat} {vv : Unit} {hh : AH} (hf : f_X2_giveOneMore h l0 = some (vv, hh)) : Met l yX2_giveOneMore (Cond.code yX2_giveOneMore cX2_giveOneMore 4 none :: wsL_law) ({ frames := 0, cells := 0, slots := 0, locals := 0 } : Room) (va_Pc [va_rf l0] (r_I D b h)) (r_Q D b none hh) 0 0 (fun q => b ≤ q) := by
  refine r_ofW (own := RX2) rfl (by decide +kernel) (by simp [lg_sl, va_cat, cat_i, cat_r, cat_l]) ?_
  intro p e s m args below meth c ls X B hr hk hn hl
  have hl : lv_has ls 4 [(0, va_rf l0)] := by simpa [lv_args, va_cat, cat_i, cat_r, cat_l] using hl
  have hl : lv_has ls 4 [(0, va_rf l0)] := hl
  obtain ⟨⟨hx, hb, hml, hown, hts⟩, -⟩ := id X
  generalize s.heap = H at B ⊢
  generalize ([] : List Loc) = locs at B ⊢
  unfold f_X2_giveOneMore at hf
  refine r_null hx hb dX2_giveOneMore_0 ?_
  refine r_astore_n (i := 1) (lv' := [(1, va_rf none), (0, va_rf l0)]) hx hb dX2_giveOneMore_1 rfl hl (by decide) (by first | rfl | simp [va_cat, cat_i, cat_r, cat_l]) (fun ls hl => ?_)
  refine lv_iconst (v := 0) hx hb dX2_giveOneMore_2 (by decide) ?_
  refine lv_istore_n (i := 2) (lv' := [(2, .int 0), (1, va_rf none), (0, va_rf l0)]) hx hb dX2_giveOneMore_3 rfl hl (by decide) (by first | rfl | simp [va_cat, cat_i, cat_r, cat_l]) (fun ls hl => ?_)
  refine r_aload_n hx hb dX2_giveOneMore_4 rfl (lv_at hl 2 rfl) ?_
  refine r_gR X B hf fX5_9 (fun _ _ => rfl) m_509 dX2_giveOneMore_5 (fun v7 hf => ?_)
  refine r_astore_n (i := 3) (lv' := [(3, va_rf v7), (2, .int 0), (1, va_rf none), (0, va_rf l0)]) hx hb dX2_giveOneMore_8 rfl hl (by decide) (by first | rfl | simp [va_cat, cat_i, cat_r, cat_l]) (fun ls hl => ?_)
  exact t_X2_giveOneMore_9 X hr hk hn  _ _ _ _ _ _ _ _ B (lv_sub hl [2, 1, 0] rfl) hf
def f_X2_shareFairly_88 : Nat → AH → Option Nat → Int32 → Option (Unit × AH)
  | 0, _, _, _ => none
  | n + 1, h, l0, l4 => if l4 ≤ 0 then some ((), h) else cal (f_X2_giveOneMore h l0) (fun v1 h2 => bd (l4 + (-1)) (fun v4 => f_X2_shareFairly_88 n h2 l0 v4))
def f_X2_shareFairly_50 (k_9 : AH → Option Nat → Int32 → Int32 → Int32 → Int32 → Option Nat → Option (Unit × AH)) (h : AH) (l0 : Option Nat) (l1 : Int32) (l2 : Int32) (l3 : Int32) (l4 : Int32) (l5 : Option Nat) (l6 : Int32) (s0 : Option Nat) (s1 : Int32) : Option (Unit × AH) := pI h s0 1 7 s1 (fun h5 => gI h5 l5 1 7 (fun v6 => pI h5 l5 1 8 (l6 - (v6 * l3)) (fun h7 => gI h7 l5 1 7 (fun v8 => bd (l4 - v8) (fun v9 => gR h7 l5 1 6 (fun v10 => k_9 h7 l0 l1 l2 l3 v9 v10))))))
def f_X2_shareFairly_34 (k_9 : AH → Option Nat → Int32 → Int32 → Int32 → Int32 → Option Nat → Option (Unit × AH)) (h : AH) (l0 : Option Nat) (l1 : Int32) (l2 : Int32) (l3 : Int32) (l4 : Int32) (l5 : Option Nat) (s0 : Int32) : Option (Unit × AH) := if l3 ≤ 0 then f_X2_shareFairly_50 k_9 h l0 l1 l2 l3 l4 l5 s0 l5 0 else dv s0 l3 (fun v11 => f_X2_shareFairly_50 k_9 h l0 l1 l2 l3 l4 l5 s0 l5 v11)
def f_X2_shareFairly_9 : Nat → AH → Option Nat → Int32 → Int32 → Int32 → Int32 → Option Nat → Option (Unit × AH)
  | 0, _, _, _, _, _, _, _ => none
  | n + 1, h, l0, l1, l2, l3, l4, l5 => nul l5 (f_X2_shareFairly_88 FU h l0 l4) (gI h l5 1 2 (fun v12 => if l1 < v12 then f_X2_shareFairly_34 (f_X2_shareFairly_9 n) h l0 l1 l2 l3 l4 l5 0 else gI h l5 1 3 (fun v13 => f_X2_shareFairly_34 (f_X2_shareFairly_9 n) h l0 l1 l2 l3 l4 l5 (l2 * v13))))
def f_X2_shareFairly (h : AH) (l0 : Option Nat) (l1 : Int32) (l2 : Int32) (l3 : Int32) : Option (Unit × AH) := gR h l0 5 9 (fun v14 => f_X2_shareFairly_9 FU h l0 l1 l2 l3 l2 v14)
set_option maxRecDepth 100000 in
set_option maxHeartbeats 4000000 in
theorem t_X2_shareFairly_88 {p : Program} {l : Launch} {e : Env} {s : State} {m : MethodId} {args : Array Value} {below : List Frame} {meth : Method} {c : Code} {D : RG} {b : Nat} {vv : Unit} {hh : AH} (X : r_C p c cX2_shareFairly 7 s m args RX2 D b) (hr : meth.sig.returnType = none) (hk : meth.locks = false) (hn : meth.name = "shareFairly") : ∀ (n : Nat) (h : AH) (H : Heap) (locs : List Loc) (ls : Array Slot) (l0 : Option Nat) (l4 : Int32), r_B D b s h H locs → lv_has ls 7 [(0, va_rf l0), (4, .int l4)] → f_X2_shareFairly_88 n h l0 l4 = some (vv, hh) → W p l e ({ frames := 1, cells := 0, slots := 0, locals := 23 } : Room) s m args below meth c H locs 0 0 (MQ below (r_Q D b none hh) args s 0 0 (fun q => b ≤ q)) (F0 m 88 ls []) := by
  obtain ⟨⟨hx, hb, hml, hown, hts⟩, -⟩ := id X
  intro n
  induction n with
  | zero =>
    intro h H locs ls l0 l4 B hl hf
    cases hf
  | succ n ih =>
    intro h H locs ls l0 l4 B hl hf
    unfold f_X2_shareFairly_88 at hf
    refine lv_iload hx hb dX2_shareFairly_88 (lv_at hl 1 rfl) ?_
    refine lv_if_le (tgt := 103) hx hb dX2_shareFairly_90 (by decide) (fun q_ => ?_) (fun q_ => ?_)
    · have hf := (r_ite hf).1 q_
      exact r_vret X B hr hk hf dX2_shareFairly_103
    · have hf := (r_ite hf).2 q_
      refine r_aload_n hx hb dX2_shareFairly_93 rfl (lv_at hl 0 rfl) ?_
      refine cal_inv hf ?_
      intro v1 h2 e3 hf
      refine r_call B (va_runS (As := [va_rf l0]) (rest := []) X.1 (c_X2_giveOneMore (l := l) (D := D) (b := b) e3) (r_cwS X m_525 m_526 m_52 m_527 rfl rfl hd_X2_giveOneMore ⟨Nat.le_of_ble_eq_true rfl, Nat.le_of_ble_eq_true rfl⟩) (r_preS X B [va_rf l0]) rfl rfl hl.1 rfl (lv_room (by simp [va_cat, cat_i, cat_r, cat_l])) dX2_shareFairly_94 ⟨Nat.zero_le _, Nat.zero_le _⟩) ?_
      intro H locs B
      refine W.cs (cells' := 0) (slots' := 0) rfl rfl (W.eq (g2 := F0 m 97 ls []) rfl ?_)
      refine r_iinc (lv' := fun v4 => [(4, .int v4), (0, va_rf l0)]) hx hb hf dX2_shareFairly_97 hl (k := 1) rfl (by decide) (by decide) (fun v => by first | rfl | simp [va_cat, cat_i, cat_r, cat_l]) (fun v4 ls hl hf => ?_)
      refine lv_goto (tgt := 88) hx hb dX2_shareFairly_100 (by decide) ?_
      exact ih _ _ _ _ _ _ B (lv_sub hl [1, 0] rfl) hf
set_option maxRecDepth 100000 in
set_option maxHeartbeats 4000000 in
theorem t_X2_shareFairly_50 {p : Program} {l : Launch} {e : Env} {s : State} {m : MethodId} {args : Array Value} {below : List Frame} {meth : Method} {c : Code} {D : RG} {b : Nat} {vv : Unit} {hh : AH} (X : r_C p c cX2_shareFairly 7 s m args RX2 D b) (hr : meth.sig.returnType = none) (hk : meth.locks = false) (hn : meth.name = "shareFairly") {k_9 : AH → Option Nat → Int32 → Int32 → Int32 → Int32 → Option Nat → Option (Unit × AH)} (r_9 : ∀ (h : AH) (H : Heap) (locs : List Loc) (ls : Array Slot) (l0 : Option Nat) (l1 : Int32) (l2 : Int32) (l3 : Int32) (l4 : Int32) (l5 : Option Nat), r_B D b s h H locs → lv_has ls 7 [(0, va_rf l0), (1, .int l1), (2, .int l2), (3, .int l3), (4, .int l4), (5, va_rf l5)] → k_9 h l0 l1 l2 l3 l4 l5 = some (vv, hh) → W p l e ({ frames := 1, cells := 0, slots := 0, locals := 23 } : Room) s m args below meth c H locs 0 0 (MQ below (r_Q D b none hh) args s 0 0 (fun q => b ≤ q)) (F0 m 9 ls [])) {h : AH} {H : Heap} {locs : List Loc} {ls : Array Slot} {l0 : Option Nat} {l1 : Int32} {l2 : Int32} {l3 : Int32} {l4 : Int32} {l5 : Option Nat} {l6 : Int32} {s0 : Option Nat} {s1 : Int32} (B : r_B D b s h H locs) (hl : lv_has ls 7 [(0, va_rf l0), (1, .int l1), (2, .int l2), (3, .int l3), (4, .int l4), (5, va_rf l5), (6, .int l6)]) (hf : f_X2_shareFairly_50 k_9 h l0 l1 l2 l3 l4 l5 l6 s0 s1 = some (vv, hh)) : W p l e ({ frames := 1, cells := 0, slots := 0, locals := 23 } : Room) s m args below meth c H locs 0 0 (MQ below (r_Q D b none hh) args s 0 0 (fun q => b ≤ q)) (F0 m 50 ls [.int s1, va_rf s0]) := by
  obtain ⟨⟨hx, hb, hml, hown, hts⟩, -⟩ := id X
  unfold f_X2_shareFairly_50 at hf
  refine r_pI X B hf fX1_7 (Or.inl rfl) m_510 dX2_shareFairly_50 (fun h5 H locs B hf => ?_)
  refine r_aload hx hb dX2_shareFairly_53 (lv_at hl 5 rfl) ?_
  refine lv_iload hx hb dX2_shareFairly_55 (lv_at hl 6 rfl) ?_
  refine r_aload hx hb dX2_shareFairly_57 (lv_at hl 5 rfl) ?_
  refine r_gI X B hf fX1_7 (fun _ _ => rfl) m_510 dX2_shareFairly_59 (fun v6 hf => ?_)
  refine lv_iload_n hx hb dX2_shareFairly_62 rfl (lv_at hl 3 rfl) ?_
  refine lv_imul hx hb dX2_shareFairly_63 ?_
  refine lv_isub hx hb dX2_shareFairly_64 ?_
  refine r_pI X B hf fX1_8 (Or.inl rfl) m_524 dX2_shareFairly_65 (fun h7 H locs B hf => ?_)
  refine lv_iload hx hb dX2_shareFairly_68 (lv_at hl 4 rfl) ?_
  refine r_aload hx hb dX2_shareFairly_70 (lv_at hl 5 rfl) ?_
  refine r_gI X B hf fX1_7 (fun _ _ => rfl) m_510 dX2_shareFairly_72 (fun v8 hf => ?_)
  refine lv_isub hx hb dX2_shareFairly_75 ?_
  refine r_bd hf (fun v9 hf => ?_)
  refine lv_istore (i := 4) (lv' := [(4, .int v9), (0, va_rf l0), (1, .int l1), (2, .int l2), (3, .int l3), (5, va_rf l5), (6, .int l6)]) hx hb dX2_shareFairly_76 hl (by decide) (by first | rfl | simp [va_cat, cat_i, cat_r, cat_l]) (fun ls hl => ?_)
  refine r_aload hx hb dX2_shareFairly_78 (lv_at hl 5 rfl) ?_
  refine r_gR X B hf fX1_6 (fun _ _ => rfl) m_512 dX2_shareFairly_80 (fun v10 hf => ?_)
  refine r_astore (i := 5) (lv' := [(5, va_rf v10), (4, .int v9), (0, va_rf l0), (1, .int l1), (2, .int l2), (3, .int l3), (6, .int l6)]) hx hb dX2_shareFairly_83 hl (by decide) (by first | rfl | simp [va_cat, cat_i, cat_r, cat_l]) (fun ls hl => ?_)
  refine lv_goto (tgt := 9) hx hb dX2_shareFairly_85 (by decide) ?_
  exact r_9 _ _ _ _ _ _ _ _ _ _ B (lv_sub hl [2, 3, 4, 5, 1, 0] rfl) hf
set_option maxRecDepth 100000 in
set_option maxHeartbeats 4000000 in
theorem t_X2_shareFairly_34 {p : Program} {l : Launch} {e : Env} {s : State} {m : MethodId} {args : Array Value} {below : List Frame} {meth : Method} {c : Code} {D : RG} {b : Nat} {vv : Unit} {hh : AH} (X : r_C p c cX2_shareFairly 7 s m args RX2 D b) (hr : meth.sig.returnType = none) (hk : meth.locks = false) (hn : meth.name = "shareFairly") {k_9 : AH → Option Nat → Int32 → Int32 → Int32 → Int32 → Option Nat → Option (Unit × AH)} (r_9 : ∀ (h : AH) (H : Heap) (locs : List Loc) (ls : Array Slot) (l0 : Option Nat) (l1 : Int32) (l2 : Int32) (l3 : Int32) (l4 : Int32) (l5 : Option Nat), r_B D b s h H locs → lv_has ls 7 [(0, va_rf l0), (1, .int l1), (2, .int l2), (3, .int l3), (4, .int l4), (5, va_rf l5)] → k_9 h l0 l1 l2 l3 l4 l5 = some (vv, hh) → W p l e ({ frames := 1, cells := 0, slots := 0, locals := 23 } : Room) s m args below meth c H locs 0 0 (MQ below (r_Q D b none hh) args s 0 0 (fun q => b ≤ q)) (F0 m 9 ls [])) {h : AH} {H : Heap} {locs : List Loc} {ls : Array Slot} {l0 : Option Nat} {l1 : Int32} {l2 : Int32} {l3 : Int32} {l4 : Int32} {l5 : Option Nat} {s0 : Int32} (B : r_B D b s h H locs) (hl : lv_has ls 7 [(0, va_rf l0), (1, .int l1), (2, .int l2), (3, .int l3), (4, .int l4), (5, va_rf l5)]) (hf : f_X2_shareFairly_34 k_9 h l0 l1 l2 l3 l4 l5 s0 = some (vv, hh)) : W p l e ({ frames := 1, cells := 0, slots := 0, locals := 23 } : Room) s m args below meth c H locs 0 0 (MQ below (r_Q D b none hh) args s 0 0 (fun q => b ≤ q)) (F0 m 34 ls [.int s0]) := by
  obtain ⟨⟨hx, hb, hml, hown, hts⟩, -⟩ := id X
  unfold f_X2_shareFairly_34 at hf
  refine lv_istore (i := 6) (lv' := [(6, .int s0), (0, va_rf l0), (1, .int l1), (2, .int l2), (3, .int l3), (4, .int l4), (5, va_rf l5)]) hx hb dX2_shareFairly_34 hl (by decide) (by first | rfl | simp [va_cat, cat_i, cat_r, cat_l]) (fun ls hl => ?_)
  refine r_aload hx hb dX2_shareFairly_36 (lv_at hl 6 rfl) ?_
  refine lv_iload_n hx hb dX2_shareFairly_38 rfl (lv_at hl 4 rfl) ?_
  refine lv_if_le (tgt := 49) hx hb dX2_shareFairly_39 (by decide) (fun q_ => ?_) (fun q_ => ?_)
  · have hf := (r_ite hf).1 q_
    refine lv_iconst (v := 0) hx hb dX2_shareFairly_49 (by decide) ?_
    exact t_X2_shareFairly_50 X hr hk hn r_9 B (lv_sub hl [1, 2, 3, 4, 5, 6, 0] rfl) hf
  · have hf := (r_ite hf).2 q_
    refine lv_iload hx hb dX2_shareFairly_42 (lv_at hl 0 rfl) ?_
    refine lv_iload_n hx hb dX2_shareFairly_44 rfl (lv_at hl 4 rfl) ?_
    refine r_div hx hb hf dX2_shareFairly_45 (fun v11 hf => ?_)
    refine lv_goto (tgt := 50) hx hb dX2_shareFairly_46 (by decide) ?_
    exact t_X2_shareFairly_50 X hr hk hn r_9 B (lv_sub hl [1, 2, 3, 4, 5, 6, 0] rfl) hf
set_option maxRecDepth 100000 in
set_option maxHeartbeats 4000000 in
theorem t_X2_shareFairly_9 {p : Program} {l : Launch} {e : Env} {s : State} {m : MethodId} {args : Array Value} {below : List Frame} {meth : Method} {c : Code} {D : RG} {b : Nat} {vv : Unit} {hh : AH} (X : r_C p c cX2_shareFairly 7 s m args RX2 D b) (hr : meth.sig.returnType = none) (hk : meth.locks = false) (hn : meth.name = "shareFairly") : ∀ (n : Nat) (h : AH) (H : Heap) (locs : List Loc) (ls : Array Slot) (l0 : Option Nat) (l1 : Int32) (l2 : Int32) (l3 : Int32) (l4 : Int32) (l5 : Option Nat), r_B D b s h H locs → lv_has ls 7 [(0, va_rf l0), (1, .int l1), (2, .int l2), (3, .int l3), (4, .int l4), (5, va_rf l5)] → f_X2_shareFairly_9 n h l0 l1 l2 l3 l4 l5 = some (vv, hh) → W p l e ({ frames := 1, cells := 0, slots := 0, locals := 23 } : Room) s m args below meth c H locs 0 0 (MQ below (r_Q D b none hh) args s 0 0 (fun q => b ≤ q)) (F0 m 9 ls []) := by
  obtain ⟨⟨hx, hb, hml, hown, hts⟩, -⟩ := id X
  intro n
  induction n with
  | zero =>
    intro h H locs ls l0 l1 l2 l3 l4 l5 B hl hf
    cases hf
  | succ n ih =>
    intro h H locs ls l0 l1 l2 l3 l4 l5 B hl hf
    unfold f_X2_shareFairly_9 at hf
    refine r_aload hx hb dX2_shareFairly_9 (lv_at hl 5 rfl) ?_
    refine r_ifnull (tgt := 88) hx hb hf dX2_shareFairly_11 (by decide) (fun hf e_ => ?_) (fun hf e_ => ?_)
    · exact t_X2_shareFairly_88 X hr hk hn  _ _ _ _ _ _ _ B (lv_sub hl [0, 4] rfl) hf
    · refine r_aload hx hb dX2_shareFairly_14 (lv_at hl 5 rfl) ?_
      refine r_gI X B hf fX1_2 (fun _ _ => rfl) m_520 dX2_shareFairly_16 (fun v12 hf => ?_)
      refine lv_iload_n hx hb dX2_shareFairly_19 rfl (lv_at hl 1 rfl) ?_
      refine lv_icmp_gt (tgt := 33) hx hb dX2_shareFairly_20 (by decide) (fun q_ => ?_) (fun q_ => ?_)
      · have hf := (r_ite hf).1 q_
        refine lv_iconst (v := 0) hx hb dX2_shareFairly_33 (by decide) ?_
        exact t_X2_shareFairly_34 X hr hk hn ih B (lv_sub hl [0, 1, 2, 3, 4, 5] rfl) hf
      · have hf := (r_ite hf).2 q_
        refine lv_iload_n hx hb dX2_shareFairly_23 rfl (lv_at hl 2 rfl) ?_
        refine r_aload hx hb dX2_shareFairly_24 (lv_at hl 5 rfl) ?_
        refine r_gI X B hf fX1_3 (fun _ _ => rfl) m_511 dX2_shareFairly_26 (fun v13 hf => ?_)
        refine lv_imul hx hb dX2_shareFairly_29 ?_
        refine lv_goto (tgt := 34) hx hb dX2_shareFairly_30 (by decide) ?_
        exact t_X2_shareFairly_34 X hr hk hn ih B (lv_sub hl [0, 1, 2, 3, 4, 5] rfl) hf
set_option maxRecDepth 100000 in
set_option maxHeartbeats 4000000 in
theorem c_X2_shareFairly {l : Launch} {D : RG} {b : Nat} {h : AH} {l0 : Option Nat} {l1 : Int32} {l2 : Int32} {l3 : Int32} {vv : Unit} {hh : AH} (hf : f_X2_shareFairly h l0 l1 l2 l3 = some (vv, hh)) : Met l yX2_shareFairly (Cond.code yX2_shareFairly cX2_shareFairly 7 none :: wsL_law) ({ frames := 1, cells := 0, slots := 0, locals := 23 } : Room) (va_Pc [va_rf l0, .int l1, .int l2, .int l3] (r_I D b h)) (r_Q D b none hh) 0 0 (fun q => b ≤ q) := by
  refine r_ofW (own := RX2) rfl (by decide +kernel) (by simp [lg_sl, va_cat, cat_i, cat_r, cat_l]) ?_
  intro p e s m args below meth c ls X B hr hk hn hl
  have hl : lv_has ls 7 [(0, va_rf l0), (1, .int l1), (2, .int l2), (3, .int l3)] := by simpa [lv_args, va_cat, cat_i, cat_r, cat_l] using hl
  have hl : lv_has ls 7 [(0, va_rf l0), (1, .int l1), (2, .int l2), (3, .int l3)] := hl
  obtain ⟨⟨hx, hb, hml, hown, hts⟩, -⟩ := id X
  generalize s.heap = H at B ⊢
  generalize ([] : List Loc) = locs at B ⊢
  unfold f_X2_shareFairly at hf
  refine lv_iload_n hx hb dX2_shareFairly_0 rfl (lv_at hl 2 rfl) ?_
  refine lv_istore (i := 4) (lv' := [(4, .int l2), (0, va_rf l0), (1, .int l1), (2, .int l2), (3, .int l3)]) hx hb dX2_shareFairly_1 hl (by decide) (by first | rfl | simp [va_cat, cat_i, cat_r, cat_l]) (fun ls hl => ?_)
  refine r_aload_n hx hb dX2_shareFairly_3 rfl (lv_at hl 1 rfl) ?_
  refine r_gR X B hf fX5_9 (fun _ _ => rfl) m_509 dX2_shareFairly_4 (fun v14 hf => ?_)
  refine r_astore (i := 5) (lv' := [(5, va_rf v14), (4, .int l2), (0, va_rf l0), (1, .int l1), (2, .int l2), (3, .int l3)]) hx hb dX2_shareFairly_7 hl (by decide) (by first | rfl | simp [va_cat, cat_i, cat_r, cat_l]) (fun ls hl => ?_)
  exact t_X2_shareFairly_9 X hr hk hn  _ _ _ _ _ _ _ _ _ _ _ B (lv_sub hl [2, 3, 4, 5, 1, 0] rfl) hf
