def f_X7_init_123 : Nat → AH → Nat → Option Nat → Int32 → Option (Unit × AH)
  | 0, _, _, _, _ => none
  | n + 1, h, l0, l3, l4 => if l4 < 0 then nO h 2 (fun a1 h2 => gR h2 (some l0) 7 3 (fun v3 => rcv h2 (some a1) 2 (fun a7 => cal (f_X2_init h2 a7 l3 v3) (fun v4 h5 => pR h5 (some l0) 7 5 (some a1) (fun h10 => some ((), h10)))))) else nO h 5 (fun a11 h12 => rcv h12 (some a11) 5 (fun a16 => cal (f_X5_init h12 a16 l4 l3) (fun v13 h14 => gR h14 (some l0) 7 0 (fun v19 => sR (.object RX5) 5 h14 v19 l4 (some a11) (fun h20 => bd (l4 + (-1)) (fun v21 => f_X7_init_123 n h20 l0 (some a11) v21))))))
def f_X7_init (h : AH) (l0 : Nat) (l1 : Int32) : Option (Unit × AH) := nA h (.object RX1) 40 40 (fun a22 h23 => pR h23 (some l0) 7 1 (some a22) (fun h24 => nO h24 6 (fun a25 h26 => rcv h26 (some a25) 6 (fun a30 => cal (f_X6_init h26 a30) (fun v27 h28 => pR h28 (some l0) 7 2 (some a25) (fun h33 => nO h33 0 (fun a34 h35 => rcv h35 (some a34) 0 (fun a39 => cal (f_X0_init h35 a39) (fun v36 h37 => pR h37 (some l0) 7 3 (some a34) (fun h42 => nO h42 0 (fun a43 h44 => rcv h44 (some a43) 0 (fun a48 => cal (f_X0_init h44 a48) (fun v45 h46 => pR h46 (some l0) 7 4 (some a43) (fun h51 => nO h51 4 (fun a52 h53 => rcv h53 (some a52) 4 (fun a57 => cal (f_X4_init h53 a57) (fun v54 h55 => pR h55 (some l0) 7 6 (some a52) (fun h60 => pI h60 (some l0) 7 7 0 (fun h61 => pI h61 (some l0) 7 8 0 (fun h62 => pI h62 (some l0) 7 9 0 (fun h63 => pI h63 (some l0) 7 10 0 (fun h64 => pI h64 (some l0) 7 11 (-1) (fun h65 => pI h65 (some l0) 7 12 (-1) (fun h66 => pI h66 (some l0) 7 13 (-1) (fun h67 => pI h67 (some l0) 7 14 (-1) (fun h68 => bd (mn 11 l1) (fun v69 => bd (mx 2 v69) (fun v70 => nA h68 (.object RX5) v70 11 (fun a71 h72 => pR h72 (some l0) 7 0 (some a71) (fun h73 => bd (v70 - 1) (fun v74 => f_X7_init_123 12 h73 l0 none v74)))))))))))))))))))))))))))))))
set_option maxRecDepth 100000 in
set_option maxHeartbeats 4000000 in
theorem t_X7_init_123 {p : Program} {l : Launch} {e : Env} {s : State} {m : MethodId} {args : Array Value} {below : List Frame} {meth : Method} {c : Code} {D : RG} {b : Nat} {vv : Unit} {hh : AH} (X : r_C p c cX7_init 5 s m args RX7 D b) (hr : meth.sig.returnType = none) (hk : meth.locks = false) (hn : meth.name = "<init>") : ∀ (n : Nat) (_ : n ≤ 12) (h : AH) (H : Heap) (locs : List Loc) (ls : Array Slot) (l0 : Nat) (l3 : Option Nat) (l4 : Int32), r_B D b s h H locs → lv_has ls 5 [(0, va_rf (some l0)), (3, va_rf l3), (4, .int l4)] → f_X7_init_123 n h l0 l3 l4 = some (vv, hh) → W p l e ({ frames := 3, cells := 47, slots := 641, locals := 54 } : Room) s m args below meth c H locs (9 + 3 * (12 - n)) (393 + 20 * (12 - n)) (MQ below (r_Q D b none hh) args s 47 641 (fun q => b ≤ q)) (F0 m 123 ls []) := by
  obtain ⟨⟨hx, hb, hml, hown, hts⟩, -⟩ := id X
  intro n
  induction n with
  | zero =>
    intro hle h H locs ls l0 l3 l4 B hl hf
    cases hf
  | succ n ih =>
    intro hle h H locs ls l0 l3 l4 B hl hf
    unfold f_X7_init_123 at hf
    refine W.cs (cells' := ((9 + 3 * (12 - (n + 1))) + 0)) (slots' := ((393 + 20 * (12 - (n + 1))) + 0)) rfl rfl ?_
    refine lv_iload hx hb dX7_init_123 (lv_at hl 2 rfl) ?_
    refine lv_if_lt (tgt := 153) hx hb dX7_init_125 (by decide) (fun q_ => ?_) (fun q_ => ?_)
    · have hf := (r_ite hf).1 q_
      refine W.widen (k := 45) (n := 633) (by omega) (by omega) ?_
      refine r_aload_n hx hb dX7_init_153 rfl (lv_at hl 0 rfl) ?_
      refine r_new X B hf rfl inlX2 tyX2_ok m_50 m_51 m_52 (by decide) (by decide) dX7_init_154 (by decide) (fun a1 h2 H B hf => ?_)
      refine W.cs (cells' := 46) (slots' := 637) rfl rfl ?_
      refine lv_dup hx hb dX7_init_157 (va_cat _) ?_
      refine r_aload_n hx hb dX7_init_158 rfl (lv_at hl 1 rfl) ?_
      refine r_aload_n hx hb dX7_init_159 rfl (lv_at hl 0 rfl) ?_
      refine r_gR X B hf fX7_3 (fun _ _ => rfl) m_25 dX7_init_160 (fun v3 hf => ?_)
      refine rcv_inv hf ?_
      intro a7 e8 s9 hf
      refine cal_inv hf ?_
      intro v4 h5 e6 hf
      refine r_call B (va_runI (b := a7) (As := [va_rf l3, va_rf v3]) (rest := [va_rf (some a1), va_rf (some l0)]) X.1 (c_X2_init (l := l) (D := D) (b := b) e6) (r_cwI X rfl m_106 m_107 m_52 m_108 rfl rfl hd_X2_init ⟨Nat.le_of_ble_eq_true rfl, Nat.le_of_ble_eq_true rfl⟩) (r_preS X B (.ref a7 :: [va_rf l3, va_rf v3])) rfl rfl hl.1 (by rw [e8]; rfl) (lv_room (by simp [va_cat, cat_i, cat_r, cat_l])) dX7_init_163 ⟨(by decide), (by decide)⟩) ?_
      intro H locs B
      refine W.cs (cells' := 47) (slots' := 641) rfl rfl (W.eq (g2 := F0 m 166 ls [va_rf (some a1), va_rf (some l0)]) rfl ?_)
      refine r_pR X B hf fX7_5 rfl (Or.inr ⟨rfl, hn, rfl⟩) m_53 dX7_init_166 (fun h10 H locs B hf => ?_)
      exact r_vret X B hr hk hf dX7_init_169
    · have hf := (r_ite hf).2 q_
      refine r_new X B hf rfl inlX5 tyX5_ok m_46 m_48 m_49 (by simp only []; omega) (by simp only []; omega) dX7_init_128 (by decide) (fun a11 h12 H B hf => ?_)
      refine W.cs (cells' := ((9 + 3 * (12 - (n + 1))) + 1)) (slots' := ((393 + 20 * (12 - (n + 1))) + 10)) rfl rfl ?_
      refine lv_dup hx hb dX7_init_131 (va_cat _) ?_
      refine lv_iload hx hb dX7_init_132 (lv_at hl 2 rfl) ?_
      refine r_aload_n hx hb dX7_init_134 rfl (lv_at hl 1 rfl) ?_
      refine rcv_inv hf ?_
      intro a16 e17 s18 hf
      refine cal_inv hf ?_
      intro v13 h14 e15 hf
      refine r_call B (va_runI (b := a16) (As := [.int l4, va_rf l3]) (rest := [va_rf (some a11)]) X.1 (c_X5_init (l := l) (D := D) (b := b) e15) (r_cwI X rfl m_81 m_82 m_49 m_83 rfl rfl hd_X5_init ⟨Nat.le_of_ble_eq_true rfl, Nat.le_of_ble_eq_true rfl⟩) (r_preS X B (.ref a16 :: [.int l4, va_rf l3])) rfl rfl hl.1 (by rw [e17]; rfl) (lv_room (by simp [va_cat, cat_i, cat_r, cat_l])) dX7_init_135 ⟨(by simp only []; omega), (by simp only []; omega)⟩) ?_
      intro H locs B
      refine W.cs (cells' := ((9 + 3 * (12 - (n + 1))) + 3)) (slots' := ((393 + 20 * (12 - (n + 1))) + 20)) rfl rfl (W.eq (g2 := F0 m 138 ls [va_rf (some a11)]) rfl ?_)
      refine r_astore_n (i := 3) (lv' := [(3, va_rf (some a11)), (0, va_rf (some l0)), (4, .int l4)]) hx hb dX7_init_138 rfl hl (by decide) (by first | rfl | simp [va_cat, cat_i, cat_r, cat_l]) (fun ls hl => ?_)
      refine r_aload_n hx hb dX7_init_139 rfl (lv_at hl 1 rfl) ?_
      refine r_gR X B hf fX7_0 (fun _ _ => rfl) m_47 dX7_init_140 (fun v19 hf => ?_)
      refine lv_iload hx hb dX7_init_143 (lv_at hl 2 rfl) ?_
      refine r_aload_n hx hb dX7_init_145 rfl (lv_at hl 0 rfl) ?_
      refine r_sR X B hf (by decide) rfl dX7_init_146 (fun h20 H locs B hf => ?_)
      refine r_iinc (lv' := fun v21 => [(4, .int v21), (3, va_rf (some a11)), (0, va_rf (some l0))]) hx hb hf dX7_init_147 hl (k := 2) rfl (by decide) (by decide) (fun v => by first | rfl | simp [va_cat, cat_i, cat_r, cat_l]) (fun v21 ls hl hf => ?_)
      refine lv_goto (tgt := 123) hx hb dX7_init_150 (by decide) ?_
      refine W.widen (k := 9 + 3 * (12 - n)) (n := 393 + 20 * (12 - n)) (by omega) (by omega) ?_
      exact ih (by omega) _ _ _ _ _ _ _ B (lv_sub hl [2, 1, 0] rfl) hf
set_option maxRecDepth 100000 in
set_option maxHeartbeats 4000000 in
theorem c_X7_init {l : Launch} {D : RG} {b : Nat} {h : AH} {l0 : Nat} {l1 : Int32} {vv : Unit} {hh : AH} (hf : f_X7_init h l0 l1 = some (vv, hh)) : Met l yX7_init (Cond.code yX7_init cX7_init 5 none :: wsL_law) ({ frames := 3, cells := 47, slots := 641, locals := 54 } : Room) (va_Pc [.ref l0, .int l1] (r_I D b h)) (r_Q D b none hh) 47 641 (fun q => b ≤ q) := by
  refine r_ofW (own := RX7) rfl (by decide +kernel) (by simp [lg_sl, va_cat, cat_i, cat_r, cat_l]) ?_
  intro p e s m args below meth c ls X B hr hk hn hl
  have hl : lv_has ls 5 [(0, .ref l0), (1, .int l1)] := by simpa [lv_args, va_cat, cat_i, cat_r, cat_l] using hl
  have hl : lv_has ls 5 [(0, va_rf (some l0)), (1, .int l1)] := hl
  obtain ⟨⟨hx, hb, hml, hown, hts⟩, -⟩ := id X
  generalize s.heap = H at B ⊢
  generalize ([] : List Loc) = locs at B ⊢
  unfold f_X7_init at hf
  refine r_aload_n hx hb dX7_init_0 rfl (lv_at hl 0 rfl) ?_
  refine W.objInit hx hb hown (hts _ m_13) (hts _ m_14) (hts _ m_15) rfl (by rw [hml]; exact hl.1) rfl dX7_init_1 (Nat.le_of_ble_eq_true rfl) (Nat.le_of_ble_eq_true rfl) ?_
  refine W.eq (g2 := F0 m 4 ls []) rfl ?_
  refine r_aload_n hx hb dX7_init_4 rfl (lv_at hl 0 rfl) ?_
  refine lv_bipush (v := 40) hx hb dX7_init_5 (by decide) ?_
  refine r_newQ X B hf (by decide) m_16 (X.2.1.2.2.2.2.2) (Nat.le_of_ble_eq_true rfl) (by decide) (by decide) dX7_init_7 (fun a22 h23 H B hf => ?_)
  refine W.cs (cells' := 1) (slots' := 40) rfl rfl ?_
  refine r_pR X B hf fX7_1 rfl (Or.inr ⟨rfl, hn, rfl⟩) m_17 dX7_init_10 (fun h24 H locs B hf => ?_)
  refine r_aload_n hx hb dX7_init_13 rfl (lv_at hl 0 rfl) ?_
  refine r_new X B hf rfl inlX6 tyX6_ok m_18 m_19 m_20 (by decide) (by decide) dX7_init_14 (by decide) (fun a25 h26 H B hf => ?_)
  refine W.cs (cells' := 2) (slots' := 46) rfl rfl ?_
  refine lv_dup hx hb dX7_init_17 (va_cat _) ?_
  refine rcv_inv hf ?_
  intro a30 e31 s32 hf
  refine cal_inv hf ?_
  intro v27 h28 e29 hf
  refine r_call B (va_runIN (b := a30) (As := []) (rest := [va_rf (some a25), va_rf (some l0)]) X.1 (c_X6_init (l := l) (D := D) (b := b) e29) (r_cwN (host := RX7) X rfl (by simp [r_nw]) m_54 m_20 m_55 rfl rfl hd_X6_init ⟨Nat.le_of_ble_eq_true rfl, Nat.le_of_ble_eq_true rfl⟩) (r_preS X B (.ref a30 :: [])) rfl rfl hl.1 (by rw [e31]; rfl) (lv_room (by simp [va_cat, cat_i, cat_r, cat_l])) dX7_init_18 ⟨(by decide), (by decide)⟩) ?_
  intro H locs B
  refine W.cs (cells' := 3) (slots' := 346) rfl rfl (W.eq (g2 := F0 m 21 ls [va_rf (some a25), va_rf (some l0)]) rfl ?_)
  refine r_pR X B hf fX7_2 rfl (Or.inr ⟨rfl, hn, rfl⟩) m_21 dX7_init_21 (fun h33 H locs B hf => ?_)
  refine r_aload_n hx hb dX7_init_24 rfl (lv_at hl 0 rfl) ?_
  refine r_new X B hf rfl inlX0 tyX0_ok m_22 m_23 m_24 (by decide) (by decide) dX7_init_25 (by decide) (fun a34 h35 H B hf => ?_)
  refine W.cs (cells' := 4) (slots' := 352) rfl rfl ?_
  refine lv_dup hx hb dX7_init_28 (va_cat _) ?_
  refine rcv_inv hf ?_
  intro a39 e40 s41 hf
  refine cal_inv hf ?_
  intro v36 h37 e38 hf
  refine r_call B (va_runIN (b := a39) (As := []) (rest := [va_rf (some a34), va_rf (some l0)]) X.1 (c_X0_init (l := l) (D := D) (b := b) e38) (r_cwN (host := RX7) X rfl (by simp [r_nw]) m_64 m_24 m_65 rfl rfl hd_X0_init ⟨Nat.le_of_ble_eq_true rfl, Nat.le_of_ble_eq_true rfl⟩) (r_preS X B (.ref a39 :: [])) rfl rfl hl.1 (by rw [e40]; rfl) (lv_room (by simp [va_cat, cat_i, cat_r, cat_l])) dX7_init_29 ⟨(by decide), (by decide)⟩) ?_
  intro H locs B
  refine W.cs (cells' := 5) (slots' := 362) rfl rfl (W.eq (g2 := F0 m 32 ls [va_rf (some a34), va_rf (some l0)]) rfl ?_)
  refine r_pR X B hf fX7_3 rfl (Or.inr ⟨rfl, hn, rfl⟩) m_25 dX7_init_32 (fun h42 H locs B hf => ?_)
  refine r_aload_n hx hb dX7_init_35 rfl (lv_at hl 0 rfl) ?_
  refine r_new X B hf rfl inlX0 tyX0_ok m_22 m_23 m_24 (by decide) (by decide) dX7_init_36 (by decide) (fun a43 h44 H B hf => ?_)
  refine W.cs (cells' := 6) (slots' := 368) rfl rfl ?_
  refine lv_dup hx hb dX7_init_39 (va_cat _) ?_
  refine rcv_inv hf ?_
  intro a48 e49 s50 hf
  refine cal_inv hf ?_
  intro v45 h46 e47 hf
  refine r_call B (va_runIN (b := a48) (As := []) (rest := [va_rf (some a43), va_rf (some l0)]) X.1 (c_X0_init (l := l) (D := D) (b := b) e47) (r_cwN (host := RX7) X rfl (by simp [r_nw]) m_64 m_24 m_65 rfl rfl hd_X0_init ⟨Nat.le_of_ble_eq_true rfl, Nat.le_of_ble_eq_true rfl⟩) (r_preS X B (.ref a48 :: [])) rfl rfl hl.1 (by rw [e49]; rfl) (lv_room (by simp [va_cat, cat_i, cat_r, cat_l])) dX7_init_40 ⟨(by decide), (by decide)⟩) ?_
  intro H locs B
  refine W.cs (cells' := 7) (slots' := 378) rfl rfl (W.eq (g2 := F0 m 43 ls [va_rf (some a43), va_rf (some l0)]) rfl ?_)
  refine r_pR X B hf fX7_4 rfl (Or.inr ⟨rfl, hn, rfl⟩) m_26 dX7_init_43 (fun h51 H locs B hf => ?_)
  refine r_aload_n hx hb dX7_init_46 rfl (lv_at hl 0 rfl) ?_
  refine r_new X B hf rfl inlX4 tyX4_ok m_27 m_28 m_29 (by decide) (by decide) dX7_init_47 (by decide) (fun a52 h53 H B hf => ?_)
  refine W.cs (cells' := 8) (slots' := 382) rfl rfl ?_
  refine lv_dup hx hb dX7_init_50 (va_cat _) ?_
  refine rcv_inv hf ?_
  intro a57 e58 s59 hf
  refine cal_inv hf ?_
  intro v54 h55 e56 hf
  refine r_call B (va_runIN (b := a57) (As := []) (rest := [va_rf (some a52), va_rf (some l0)]) X.1 (c_X4_init (l := l) (D := D) (b := b) e56) (r_cwN (host := RX7) X rfl (by simp [r_nw]) m_74 m_29 m_75 rfl rfl hd_X4_init ⟨Nat.le_of_ble_eq_true rfl, Nat.le_of_ble_eq_true rfl⟩) (r_preS X B (.ref a57 :: [])) rfl rfl hl.1 (by rw [e58]; rfl) (lv_room (by simp [va_cat, cat_i, cat_r, cat_l])) dX7_init_51 ⟨(by decide), (by decide)⟩) ?_
  intro H locs B
  refine W.cs (cells' := 8) (slots' := 382) rfl rfl (W.eq (g2 := F0 m 54 ls [va_rf (some a52), va_rf (some l0)]) rfl ?_)
  refine r_pR X B hf fX7_6 rfl (Or.inr ⟨rfl, hn, rfl⟩) m_30 dX7_init_54 (fun h60 H locs B hf => ?_)
  refine r_aload_n hx hb dX7_init_57 rfl (lv_at hl 0 rfl) ?_
  refine lv_iconst (v := 0) hx hb dX7_init_58 (by decide) ?_
  refine r_pI X B hf fX7_7 (Or.inl rfl) m_31 dX7_init_59 (fun h61 H locs B hf => ?_)
  refine r_aload_n hx hb dX7_init_62 rfl (lv_at hl 0 rfl) ?_
  refine lv_iconst (v := 0) hx hb dX7_init_63 (by decide) ?_
  refine r_pI X B hf fX7_8 (Or.inl rfl) m_32 dX7_init_64 (fun h62 H locs B hf => ?_)
  refine r_aload_n hx hb dX7_init_67 rfl (lv_at hl 0 rfl) ?_
  refine lv_iconst (v := 0) hx hb dX7_init_68 (by decide) ?_
  refine r_pI X B hf fX7_9 (Or.inl rfl) m_33 dX7_init_69 (fun h63 H locs B hf => ?_)
  refine r_aload_n hx hb dX7_init_72 rfl (lv_at hl 0 rfl) ?_
  refine lv_iconst (v := 0) hx hb dX7_init_73 (by decide) ?_
  refine r_pI X B hf fX7_10 (Or.inl rfl) m_34 dX7_init_74 (fun h64 H locs B hf => ?_)
  refine r_aload_n hx hb dX7_init_77 rfl (lv_at hl 0 rfl) ?_
  refine lv_iconst (v := (-1)) hx hb dX7_init_78 (by decide) ?_
  refine r_pI X B hf fX7_11 (Or.inl rfl) m_35 dX7_init_79 (fun h65 H locs B hf => ?_)
  refine r_aload_n hx hb dX7_init_82 rfl (lv_at hl 0 rfl) ?_
  refine lv_iconst (v := (-1)) hx hb dX7_init_83 (by decide) ?_
  refine r_pI X B hf fX7_12 (Or.inl rfl) m_36 dX7_init_84 (fun h66 H locs B hf => ?_)
  refine r_aload_n hx hb dX7_init_87 rfl (lv_at hl 0 rfl) ?_
  refine lv_iconst (v := (-1)) hx hb dX7_init_88 (by decide) ?_
  refine r_pI X B hf fX7_13 (Or.inl rfl) m_37 dX7_init_89 (fun h67 H locs B hf => ?_)
  refine r_aload_n hx hb dX7_init_92 rfl (lv_at hl 0 rfl) ?_
  refine lv_iconst (v := (-1)) hx hb dX7_init_93 (by decide) ?_
  refine r_pI X B hf fX7_14 (Or.inl rfl) m_38 dX7_init_94 (fun h68 H locs B hf => ?_)
  refine lv_iconst (v := 2) hx hb dX7_init_97 (by decide) ?_
  refine lv_bipush (v := 11) hx hb dX7_init_98 (by decide) ?_
  refine lv_iload_n hx hb dX7_init_100 rfl (lv_at hl 1 rfl) ?_
  refine va_mmin hx hb (by rw [hml]; exact hl.1.symm) hown (hts _ m_39) (hts _ m_40) (hts _ m_41) (hts _ m_42) (Nat.le_of_ble_eq_true rfl) (by simp [va_cat, cat_i, cat_r, cat_l]) (by decide) (by decide) dX7_init_101 ?_
  refine r_bd hf (fun v69 hf => ?_)
  refine va_mmax hx hb (by rw [hml]; exact hl.1.symm) hown (hts _ m_43) (hts _ m_44) (hts _ m_41) (hts _ m_45) (Nat.le_of_ble_eq_true rfl) (by simp [va_cat, cat_i, cat_r, cat_l]) (by decide) (by decide) dX7_init_104 ?_
  refine r_bd hf (fun v70 hf => ?_)
  refine lv_istore_n (i := 2) (lv' := [(2, .int v70), (0, va_rf (some l0)), (1, .int l1)]) hx hb dX7_init_107 rfl hl (by decide) (by first | rfl | simp [va_cat, cat_i, cat_r, cat_l]) (fun ls hl => ?_)
  refine r_aload_n hx hb dX7_init_108 rfl (lv_at hl 1 rfl) ?_
  refine lv_iload_n hx hb dX7_init_109 rfl (lv_at hl 0 rfl) ?_
  refine r_newQ X B hf (by decide) m_46 (X.2.1.2.2.2.2.1) (Nat.le_of_ble_eq_true rfl) (by decide) (by decide) dX7_init_110 (fun a71 h72 H B hf => ?_)
  refine W.cs (cells' := 9) (slots' := 393) rfl rfl ?_
  refine r_pR X B hf fX7_0 rfl (Or.inr ⟨rfl, hn, rfl⟩) m_47 dX7_init_113 (fun h73 H locs B hf => ?_)
  refine r_null hx hb dX7_init_116 ?_
  refine r_astore_n (i := 3) (lv' := [(3, va_rf none), (2, .int v70), (0, va_rf (some l0)), (1, .int l1)]) hx hb dX7_init_117 rfl hl (by decide) (by first | rfl | simp [va_cat, cat_i, cat_r, cat_l]) (fun ls hl => ?_)
  refine lv_iload_n hx hb dX7_init_118 rfl (lv_at hl 1 rfl) ?_
  refine lv_iconst (v := 1) hx hb dX7_init_119 (by decide) ?_
  refine lv_isub hx hb dX7_init_120 ?_
  refine r_bd hf (fun v74 hf => ?_)
  refine lv_istore (i := 4) (lv' := [(4, .int v74), (3, va_rf none), (2, .int v70), (0, va_rf (some l0)), (1, .int l1)]) hx hb dX7_init_121 hl (by decide) (by first | rfl | simp [va_cat, cat_i, cat_r, cat_l]) (fun ls hl => ?_)
  exact t_X7_init_123 X hr hk hn  12 (by decide) _ _ _ _ _ _ _ B (lv_sub hl [3, 1, 0] rfl) hf
def f_X7_tankAt_23 (h : AH) (s0 : Option Nat) : Option (Option Nat × AH) := some (s0, h)
def f_X7_tankAt_22 (h : AH)  : Option (Option Nat × AH) := f_X7_tankAt_23 h none
def f_X7_tankAt (h : AH) (l0 : Nat) (l1 : Int32) : Option (Option Nat × AH) := if l1 < 0 then f_X7_tankAt_22 h else gR h (some l0) 7 0 (fun v1 => aL (.object RX5) h v1 (fun v2 => if v2 ≤ l1 then f_X7_tankAt_22 h else gR h (some l0) 7 0 (fun v3 => aR (.object RX5) h v3 l1 (fun v4 => f_X7_tankAt_23 h v4))))
set_option maxRecDepth 100000 in
set_option maxHeartbeats 4000000 in
theorem t_X7_tankAt_23 {p : Program} {l : Launch} {e : Env} {s : State} {m : MethodId} {args : Array Value} {below : List Frame} {meth : Method} {c : Code} {D : RG} {b : Nat} {vv : Option Nat} {hh : AH} (X : r_C p c cX7_tankAt 2 s m args RX7 D b) (hr : meth.sig.returnType = (some (.object RX5))) (hk : meth.locks = false) (hn : meth.name = "tankAt") {h : AH} {H : Heap} {locs : List Loc} {ls : Array Slot} {s0 : Option Nat} (B : r_B D b s h H locs) (hl : lv_has ls 2 []) (hf : f_X7_tankAt_23 h s0 = some (vv, hh)) : W p l e ({ frames := 0, cells := 0, slots := 0, locals := 0 } : Room) s m args below meth c H locs 0 0 (MQ below (r_Q D b (some (va_rf vv)) hh) args s 0 0 (fun q => b ≤ q)) (F0 m 23 ls [va_rf s0]) := by
  obtain ⟨⟨hx, hb, hml, hown, hts⟩, -⟩ := id X
  unfold f_X7_tankAt_23 at hf
  exact r_aret X B hr hk hf dX7_tankAt_23
set_option maxRecDepth 100000 in
set_option maxHeartbeats 4000000 in
theorem t_X7_tankAt_22 {p : Program} {l : Launch} {e : Env} {s : State} {m : MethodId} {args : Array Value} {below : List Frame} {meth : Method} {c : Code} {D : RG} {b : Nat} {vv : Option Nat} {hh : AH} (X : r_C p c cX7_tankAt 2 s m args RX7 D b) (hr : meth.sig.returnType = (some (.object RX5))) (hk : meth.locks = false) (hn : meth.name = "tankAt") {h : AH} {H : Heap} {locs : List Loc} {ls : Array Slot}  (B : r_B D b s h H locs) (hl : lv_has ls 2 []) (hf : f_X7_tankAt_22 h  = some (vv, hh)) : W p l e ({ frames := 0, cells := 0, slots := 0, locals := 0 } : Room) s m args below meth c H locs 0 0 (MQ below (r_Q D b (some (va_rf vv)) hh) args s 0 0 (fun q => b ≤ q)) (F0 m 22 ls []) := by
  obtain ⟨⟨hx, hb, hml, hown, hts⟩, -⟩ := id X
  unfold f_X7_tankAt_22 at hf
  refine r_null hx hb dX7_tankAt_22 ?_
  exact t_X7_tankAt_23 X hr hk hn  B (lv_sub hl [] rfl) hf
set_option maxRecDepth 100000 in
set_option maxHeartbeats 4000000 in
theorem c_X7_tankAt {l : Launch} {D : RG} {b : Nat} {h : AH} {l0 : Nat} {l1 : Int32} {vv : Option Nat} {hh : AH} (hf : f_X7_tankAt h l0 l1 = some (vv, hh)) : Met l yX7_tankAt (Cond.code yX7_tankAt cX7_tankAt 2 (some (.object RX5)) :: wsL_law) ({ frames := 0, cells := 0, slots := 0, locals := 0 } : Room) (va_Pc [.ref l0, .int l1] (r_I D b h)) (r_Q D b (some (va_rf vv)) hh) 0 0 (fun q => b ≤ q) := by
  refine r_ofW (own := RX7) rfl (by decide +kernel) (by simp [lg_sl, va_cat, cat_i, cat_r, cat_l]) ?_
  intro p e s m args below meth c ls X B hr hk hn hl
  have hl : lv_has ls 2 [(0, .ref l0), (1, .int l1)] := by simpa [lv_args, va_cat, cat_i, cat_r, cat_l] using hl
  have hl : lv_has ls 2 [(0, va_rf (some l0)), (1, .int l1)] := hl
  obtain ⟨⟨hx, hb, hml, hown, hts⟩, -⟩ := id X
  generalize s.heap = H at B ⊢
  generalize ([] : List Loc) = locs at B ⊢
  unfold f_X7_tankAt at hf
  refine lv_iload_n hx hb dX7_tankAt_0 rfl (lv_at hl 1 rfl) ?_
  refine lv_if_lt (tgt := 22) hx hb dX7_tankAt_1 (by decide) (fun q_ => ?_) (fun q_ => ?_)
  · have hf := (r_ite hf).1 q_
    exact t_X7_tankAt_22 X hr hk hn  B (lv_sub hl [] rfl) hf
  · have hf := (r_ite hf).2 q_
    refine lv_iload_n hx hb dX7_tankAt_4 rfl (lv_at hl 1 rfl) ?_
    refine r_aload_n hx hb dX7_tankAt_5 rfl (lv_at hl 0 rfl) ?_
    refine r_gR X B hf fX7_0 (fun _ _ => rfl) m_47 dX7_tankAt_6 (fun v1 hf => ?_)
    refine r_aL X B hf (by decide) dX7_tankAt_9 (fun v2 hf => ?_)
    refine lv_icmp_ge (tgt := 22) hx hb dX7_tankAt_10 (by decide) (fun q_ => ?_) (fun q_ => ?_)
    · have hf := (r_ite hf).1 q_
      exact t_X7_tankAt_22 X hr hk hn  B (lv_sub hl [] rfl) hf
    · have hf := (r_ite hf).2 q_
      refine r_aload_n hx hb dX7_tankAt_13 rfl (lv_at hl 0 rfl) ?_
      refine r_gR X B hf fX7_0 (fun _ _ => rfl) m_47 dX7_tankAt_14 (fun v3 hf => ?_)
      refine lv_iload_n hx hb dX7_tankAt_17 rfl (lv_at hl 1 rfl) ?_
      refine r_aR X B hf (by decide) dX7_tankAt_18 (fun v4 hf => ?_)
      refine lv_goto (tgt := 23) hx hb dX7_tankAt_19 (by decide) ?_
      exact t_X7_tankAt_23 X hr hk hn  B (lv_sub hl [] rfl) hf
def f_X7_isWithin_15 (h : AH) (s0 : Int32) : Option (Int32 × AH) := rZ s0 h
def f_X7_isWithin_14 (h : AH)  : Option (Int32 × AH) := f_X7_isWithin_15 h 0
def f_X7_isWithin (h : AH) (l0 : Int32) (l1 : Int32) (l2 : Int32) : Option (Int32 × AH) := if l0 < l1 then f_X7_isWithin_14 h else if l2 < l0 then f_X7_isWithin_14 h else f_X7_isWithin_15 h 1
set_option maxRecDepth 100000 in
set_option maxHeartbeats 4000000 in
theorem t_X7_isWithin_15 {p : Program} {l : Launch} {e : Env} {s : State} {m : MethodId} {args : Array Value} {below : List Frame} {meth : Method} {c : Code} {D : RG} {b : Nat} {vv : Int32} {hh : AH} (X : r_C p c cX7_isWithin 3 s m args RX7 D b) (hr : meth.sig.returnType = (some .boolean)) (hk : meth.locks = false) (hn : meth.name = "isWithin") {h : AH} {H : Heap} {locs : List Loc} {ls : Array Slot} {s0 : Int32} (B : r_B D b s h H locs) (hl : lv_has ls 3 []) (hf : f_X7_isWithin_15 h s0 = some (vv, hh)) : W p l e ({ frames := 0, cells := 0, slots := 0, locals := 0 } : Room) s m args below meth c H locs 0 0 (MQ below (r_Q D b (some (.int vv)) hh) args s 0 0 (fun q => b ≤ q)) (F0 m 15 ls [.int s0]) := by
  obtain ⟨⟨hx, hb, hml, hown, hts⟩, -⟩ := id X
  unfold f_X7_isWithin_15 at hf
  exact r_zret X B hr hk hf dX7_isWithin_15
set_option maxRecDepth 100000 in
set_option maxHeartbeats 4000000 in
theorem t_X7_isWithin_14 {p : Program} {l : Launch} {e : Env} {s : State} {m : MethodId} {args : Array Value} {below : List Frame} {meth : Method} {c : Code} {D : RG} {b : Nat} {vv : Int32} {hh : AH} (X : r_C p c cX7_isWithin 3 s m args RX7 D b) (hr : meth.sig.returnType = (some .boolean)) (hk : meth.locks = false) (hn : meth.name = "isWithin") {h : AH} {H : Heap} {locs : List Loc} {ls : Array Slot}  (B : r_B D b s h H locs) (hl : lv_has ls 3 []) (hf : f_X7_isWithin_14 h  = some (vv, hh)) : W p l e ({ frames := 0, cells := 0, slots := 0, locals := 0 } : Room) s m args below meth c H locs 0 0 (MQ below (r_Q D b (some (.int vv)) hh) args s 0 0 (fun q => b ≤ q)) (F0 m 14 ls []) := by
  obtain ⟨⟨hx, hb, hml, hown, hts⟩, -⟩ := id X
  unfold f_X7_isWithin_14 at hf
  refine lv_iconst (v := 0) hx hb dX7_isWithin_14 (by decide) ?_
  exact t_X7_isWithin_15 X hr hk hn  B (lv_sub hl [] rfl) hf
set_option maxRecDepth 100000 in
set_option maxHeartbeats 4000000 in
theorem c_X7_isWithin {l : Launch} {D : RG} {b : Nat} {h : AH} {l0 : Int32} {l1 : Int32} {l2 : Int32} {vv : Int32} {hh : AH} (hf : f_X7_isWithin h l0 l1 l2 = some (vv, hh)) : Met l yX7_isWithin (Cond.code yX7_isWithin cX7_isWithin 3 (some .boolean) :: wsL_law) ({ frames := 0, cells := 0, slots := 0, locals := 0 } : Room) (va_Pc [.int l0, .int l1, .int l2] (r_I D b h)) (r_Q D b (some (.int vv)) hh) 0 0 (fun q => b ≤ q) := by
  refine r_ofW (own := RX7) rfl (by decide +kernel) (by simp [lg_sl, va_cat, cat_i, cat_r, cat_l]) ?_
  intro p e s m args below meth c ls X B hr hk hn hl
  have hl : lv_has ls 3 [(0, .int l0), (1, .int l1), (2, .int l2)] := by simpa [lv_args, va_cat, cat_i, cat_r, cat_l] using hl
  have hl : lv_has ls 3 [(0, .int l0), (1, .int l1), (2, .int l2)] := hl
  obtain ⟨⟨hx, hb, hml, hown, hts⟩, -⟩ := id X
  generalize s.heap = H at B ⊢
  generalize ([] : List Loc) = locs at B ⊢
  unfold f_X7_isWithin at hf
  refine lv_iload_n hx hb dX7_isWithin_0 rfl (lv_at hl 0 rfl) ?_
  refine lv_iload_n hx hb dX7_isWithin_1 rfl (lv_at hl 1 rfl) ?_
  refine lv_icmp_lt (tgt := 14) hx hb dX7_isWithin_2 (by decide) (fun q_ => ?_) (fun q_ => ?_)
  · have hf := (r_ite hf).1 q_
    exact t_X7_isWithin_14 X hr hk hn  B (lv_sub hl [] rfl) hf
  · have hf := (r_ite hf).2 q_
    refine lv_iload_n hx hb dX7_isWithin_5 rfl (lv_at hl 0 rfl) ?_
    refine lv_iload_n hx hb dX7_isWithin_6 rfl (lv_at hl 2 rfl) ?_
    refine lv_icmp_gt (tgt := 14) hx hb dX7_isWithin_7 (by decide) (fun q_ => ?_) (fun q_ => ?_)
    · have hf := (r_ite hf).1 q_
      exact t_X7_isWithin_14 X hr hk hn  B (lv_sub hl [] rfl) hf
    · have hf := (r_ite hf).2 q_
      refine lv_iconst (v := 1) hx hb dX7_isWithin_10 (by decide) ?_
      refine lv_goto (tgt := 15) hx hb dX7_isWithin_11 (by decide) ?_
      exact t_X7_isWithin_15 X hr hk hn  B (lv_sub hl [] rfl) hf
def f_X7_tank_65 (h : AH)  : Option (Int32 × AH) := rZ 0 h
def f_X7_tank_51 (h : AH) (l0 : Nat) (l2 : Int32) (l3 : Int32) (l4 : Int32) (l5 : Option Nat) (s0 : Int32) : Option (Int32 × AH) := if s0 = 0 then f_X7_tank_65 h else gI h (some l0) 7 8 (fun v1 => if v1 ≤ 0 then pI h l5 5 4 l2 (fun h2 => pI h2 l5 5 5 l3 (fun h3 => pI h3 l5 5 6 l4 (fun h4 => rZ 1 h4))) else f_X7_tank_65 h)
def f_X7_tank_50 (h : AH) (l0 : Nat) (l2 : Int32) (l3 : Int32) (l4 : Int32) (l5 : Option Nat) : Option (Int32 × AH) := f_X7_tank_51 h l0 l2 l3 l4 l5 0
def f_X7_tank (h : AH) (l0 : Nat) (l1 : Int32) (l2 : Int32) (l3 : Int32) (l4 : Int32) : Option (Int32 × AH) := rcv h (some l0) 7 (fun a8 => cal (f_X7_tankAt h a8 l1) (fun v5 h6 => nul v5 (f_X7_tank_50 h6 l0 l2 l3 l4 v5) (cal (f_X7_isWithin h6 l2 0 20) (fun v11 h12 => if v11 = 0 then f_X7_tank_50 h12 l0 l2 l3 l4 v5 else cal (f_X7_isWithin h12 l3 10 1000) (fun v14 h15 => if v14 = 0 then f_X7_tank_50 h15 l0 l2 l3 l4 v5 else cal (f_X7_isWithin h15 l4 0 500) (fun v17 h18 => if v17 = 0 then f_X7_tank_50 h18 l0 l2 l3 l4 v5 else f_X7_tank_51 h18 l0 l2 l3 l4 v5 1))))))
set_option maxRecDepth 100000 in
set_option maxHeartbeats 4000000 in
theorem t_X7_tank_65 {p : Program} {l : Launch} {e : Env} {s : State} {m : MethodId} {args : Array Value} {below : List Frame} {meth : Method} {c : Code} {D : RG} {b : Nat} {vv : Int32} {hh : AH} (X : r_C p c cX7_tank 7 s m args RX7 D b) (hr : meth.sig.returnType = (some .boolean)) (hk : meth.locks = false) (hn : meth.name = "tank") {h : AH} {H : Heap} {locs : List Loc} {ls : Array Slot}  (B : r_B D b s h H locs) (hl : lv_has ls 7 []) (hf : f_X7_tank_65 h  = some (vv, hh)) : W p l e ({ frames := 1, cells := 0, slots := 0, locals := 22 } : Room) s m args below meth c H locs 0 0 (MQ below (r_Q D b (some (.int vv)) hh) args s 0 0 (fun q => b ≤ q)) (F0 m 65 ls []) := by
  obtain ⟨⟨hx, hb, hml, hown, hts⟩, -⟩ := id X
  unfold f_X7_tank_65 at hf
  refine lv_iconst (v := 0) hx hb dX7_tank_65 (by decide) ?_
  exact r_zret X B hr hk hf dX7_tank_66
set_option maxRecDepth 100000 in
set_option maxHeartbeats 4000000 in
theorem t_X7_tank_51 {p : Program} {l : Launch} {e : Env} {s : State} {m : MethodId} {args : Array Value} {below : List Frame} {meth : Method} {c : Code} {D : RG} {b : Nat} {vv : Int32} {hh : AH} (X : r_C p c cX7_tank 7 s m args RX7 D b) (hr : meth.sig.returnType = (some .boolean)) (hk : meth.locks = false) (hn : meth.name = "tank") {h : AH} {H : Heap} {locs : List Loc} {ls : Array Slot} {l0 : Nat} {l2 : Int32} {l3 : Int32} {l4 : Int32} {l5 : Option Nat} {s0 : Int32} (B : r_B D b s h H locs) (hl : lv_has ls 7 [(0, va_rf (some l0)), (2, .int l2), (3, .int l3), (4, .int l4), (5, va_rf l5)]) (hf : f_X7_tank_51 h l0 l2 l3 l4 l5 s0 = some (vv, hh)) : W p l e ({ frames := 1, cells := 0, slots := 0, locals := 22 } : Room) s m args below meth c H locs 0 0 (MQ below (r_Q D b (some (.int vv)) hh) args s 0 0 (fun q => b ≤ q)) (F0 m 51 ls [.int s0]) := by
  obtain ⟨⟨hx, hb, hml, hown, hts⟩, -⟩ := id X
  unfold f_X7_tank_51 at hf
  refine lv_istore (i := 6) (lv' := [(6, .int s0), (0, va_rf (some l0)), (2, .int l2), (3, .int l3), (4, .int l4), (5, va_rf l5)]) hx hb dX7_tank_51 hl (by decide) (by first | rfl | simp [va_cat, cat_i, cat_r, cat_l]) (fun ls hl => ?_)
  refine lv_iload hx hb dX7_tank_53 (lv_at hl 0 rfl) ?_
  refine lv_if_eq (tgt := 65) hx hb dX7_tank_55 (by decide) (fun q_ => ?_) (fun q_ => ?_)
  · have hf := (r_ite hf).1 q_
    exact t_X7_tank_65 X hr hk hn  B (lv_sub hl [] rfl) hf
  · have hf := (r_ite hf).2 q_
    refine r_aload_n hx hb dX7_tank_58 rfl (lv_at hl 1 rfl) ?_
    refine r_gI X B hf fX7_8 (fun _ _ => rfl) m_32 dX7_tank_59 (fun v1 hf => ?_)
    refine lv_if_le (tgt := 67) hx hb dX7_tank_62 (by decide) (fun q_ => ?_) (fun q_ => ?_)
    · have hf := (r_ite hf).1 q_
      refine r_aload hx hb dX7_tank_67 (lv_at hl 5 rfl) ?_
      refine lv_iload_n hx hb dX7_tank_69 rfl (lv_at hl 2 rfl) ?_
      refine r_pI X B hf fX5_4 (Or.inl rfl) m_159 dX7_tank_70 (fun h2 H locs B hf => ?_)
      refine r_aload hx hb dX7_tank_73 (lv_at hl 5 rfl) ?_
      refine lv_iload_n hx hb dX7_tank_75 rfl (lv_at hl 3 rfl) ?_
      refine r_pI X B hf fX5_5 (Or.inl rfl) m_160 dX7_tank_76 (fun h3 H locs B hf => ?_)
      refine r_aload hx hb dX7_tank_79 (lv_at hl 5 rfl) ?_
      refine lv_iload hx hb dX7_tank_81 (lv_at hl 4 rfl) ?_
      refine r_pI X B hf fX5_6 (Or.inl rfl) m_161 dX7_tank_83 (fun h4 H locs B hf => ?_)
      refine lv_iconst (v := 1) hx hb dX7_tank_86 (by decide) ?_
      exact r_zret X B hr hk hf dX7_tank_87
    · have hf := (r_ite hf).2 q_
      exact t_X7_tank_65 X hr hk hn  B (lv_sub hl [] rfl) hf
set_option maxRecDepth 100000 in
set_option maxHeartbeats 4000000 in
theorem t_X7_tank_50 {p : Program} {l : Launch} {e : Env} {s : State} {m : MethodId} {args : Array Value} {below : List Frame} {meth : Method} {c : Code} {D : RG} {b : Nat} {vv : Int32} {hh : AH} (X : r_C p c cX7_tank 7 s m args RX7 D b) (hr : meth.sig.returnType = (some .boolean)) (hk : meth.locks = false) (hn : meth.name = "tank") {h : AH} {H : Heap} {locs : List Loc} {ls : Array Slot} {l0 : Nat} {l2 : Int32} {l3 : Int32} {l4 : Int32} {l5 : Option Nat} (B : r_B D b s h H locs) (hl : lv_has ls 7 [(0, va_rf (some l0)), (2, .int l2), (3, .int l3), (4, .int l4), (5, va_rf l5)]) (hf : f_X7_tank_50 h l0 l2 l3 l4 l5 = some (vv, hh)) : W p l e ({ frames := 1, cells := 0, slots := 0, locals := 22 } : Room) s m args below meth c H locs 0 0 (MQ below (r_Q D b (some (.int vv)) hh) args s 0 0 (fun q => b ≤ q)) (F0 m 50 ls []) := by
  obtain ⟨⟨hx, hb, hml, hown, hts⟩, -⟩ := id X
  unfold f_X7_tank_50 at hf
  refine lv_iconst (v := 0) hx hb dX7_tank_50 (by decide) ?_
  exact t_X7_tank_51 X hr hk hn  B (lv_sub hl [0, 1, 2, 3, 4] rfl) hf
set_option maxRecDepth 100000 in
set_option maxHeartbeats 4000000 in
theorem c_X7_tank {l : Launch} {D : RG} {b : Nat} {h : AH} {l0 : Nat} {l1 : Int32} {l2 : Int32} {l3 : Int32} {l4 : Int32} {vv : Int32} {hh : AH} (hf : f_X7_tank h l0 l1 l2 l3 l4 = some (vv, hh)) : Met l yX7_tank (Cond.code yX7_tank cX7_tank 7 (some .boolean) :: wsL_law) ({ frames := 1, cells := 0, slots := 0, locals := 22 } : Room) (va_Pc [.ref l0, .int l1, .int l2, .int l3, .int l4] (r_I D b h)) (r_Q D b (some (.int vv)) hh) 0 0 (fun q => b ≤ q) := by
  refine r_ofW (own := RX7) rfl (by decide +kernel) (by simp [lg_sl, va_cat, cat_i, cat_r, cat_l]) ?_
  intro p e s m args below meth c ls X B hr hk hn hl
  have hl : lv_has ls 7 [(0, .ref l0), (1, .int l1), (2, .int l2), (3, .int l3), (4, .int l4)] := by simpa [lv_args, va_cat, cat_i, cat_r, cat_l] using hl
  have hl : lv_has ls 7 [(0, va_rf (some l0)), (1, .int l1), (2, .int l2), (3, .int l3), (4, .int l4)] := hl
  obtain ⟨⟨hx, hb, hml, hown, hts⟩, -⟩ := id X
  generalize s.heap = H at B ⊢
  generalize ([] : List Loc) = locs at B ⊢
  unfold f_X7_tank at hf
  refine r_aload_n hx hb dX7_tank_0 rfl (lv_at hl 0 rfl) ?_
  refine lv_iload_n hx hb dX7_tank_1 rfl (lv_at hl 1 rfl) ?_
  refine rcv_inv hf ?_
  intro a8 e9 s10 hf
  refine cal_inv hf ?_
  intro v5 h6 e7 hf
  refine r_call B (va_runV (As := [.int l1]) (rest := []) X.1 (c_X7_tankAt (l := l) (D := D) (b := b) e7) (r_cwV X rfl m_162 m_163 m_164 m_2 m_165 rfl rfl hd_X7_tankAt ⟨Nat.le_of_ble_eq_true rfl, Nat.le_of_ble_eq_true rfl⟩) (r_preV X B s10 rfl [.int l1]) rfl rfl hl.1 (by rw [e9]; rfl) (lv_room (by simp [va_cat, cat_i, cat_r, cat_l])) dX7_tank_2 ⟨Nat.zero_le _, Nat.zero_le _⟩) ?_
  intro H locs B
  refine W.cs (cells' := 0) (slots' := 0) rfl rfl (W.eq (g2 := F0 m 5 ls [va_rf v5]) rfl ?_)
  refine r_astore (i := 5) (lv' := [(5, va_rf v5), (0, va_rf (some l0)), (1, .int l1), (2, .int l2), (3, .int l3), (4, .int l4)]) hx hb dX7_tank_5 hl (by decide) (by first | rfl | simp [va_cat, cat_i, cat_r, cat_l]) (fun ls hl => ?_)
  refine r_aload hx hb dX7_tank_7 (lv_at hl 0 rfl) ?_
  refine r_ifnull (tgt := 50) hx hb hf dX7_tank_9 (by decide) (fun hf e_ => ?_) (fun hf e_ => ?_)
  · exact t_X7_tank_50 X hr hk hn  B (lv_sub hl [1, 3, 4, 5, 0] rfl) hf
  · refine lv_iload_n hx hb dX7_tank_12 rfl (lv_at hl 3 rfl) ?_
    refine lv_iconst (v := 0) hx hb dX7_tank_13 (by decide) ?_
    refine lv_bipush (v := 20) hx hb dX7_tank_14 (by decide) ?_
    refine cal_inv hf ?_
    intro v11 h12 e13 hf
    refine r_call B (va_runS (As := [.int l2, .int 0, .int 20]) (rest := []) X.1 (c_X7_isWithin (l := l) (D := D) (b := b) e13) (r_cwS X m_166 m_167 m_2 m_168 rfl rfl hd_X7_isWithin ⟨Nat.le_of_ble_eq_true rfl, Nat.le_of_ble_eq_true rfl⟩) (r_preS X B [.int l2, .int 0, .int 20]) rfl rfl hl.1 rfl (lv_room (by simp [va_cat, cat_i, cat_r, cat_l])) dX7_tank_16 ⟨Nat.zero_le _, Nat.zero_le _⟩) ?_
    intro H locs B
    refine W.cs (cells' := 0) (slots' := 0) rfl rfl (W.eq (g2 := F0 m 19 ls [.int v11]) rfl ?_)
    refine lv_if_eq (tgt := 50) hx hb dX7_tank_19 (by decide) (fun q_ => ?_) (fun q_ => ?_)
    · have hf := (r_ite hf).1 q_
      exact t_X7_tank_50 X hr hk hn  B (lv_sub hl [1, 3, 4, 5, 0] rfl) hf
    · have hf := (r_ite hf).2 q_
      refine lv_iload_n hx hb dX7_tank_22 rfl (lv_at hl 4 rfl) ?_
      refine lv_bipush (v := 10) hx hb dX7_tank_23 (by decide) ?_
      refine lv_sipush (v := 1000) hx hb dX7_tank_25 (by decide) ?_
      refine cal_inv hf ?_
      intro v14 h15 e16 hf
      refine r_call B (va_runS (As := [.int l3, .int 10, .int 1000]) (rest := []) X.1 (c_X7_isWithin (l := l) (D := D) (b := b) e16) (r_cwS X m_166 m_167 m_2 m_168 rfl rfl hd_X7_isWithin ⟨Nat.le_of_ble_eq_true rfl, Nat.le_of_ble_eq_true rfl⟩) (r_preS X B [.int l3, .int 10, .int 1000]) rfl rfl hl.1 rfl (lv_room (by simp [va_cat, cat_i, cat_r, cat_l])) dX7_tank_28 ⟨Nat.zero_le _, Nat.zero_le _⟩) ?_
      intro H locs B
      refine W.cs (cells' := 0) (slots' := 0) rfl rfl (W.eq (g2 := F0 m 31 ls [.int v14]) rfl ?_)
      refine lv_if_eq (tgt := 50) hx hb dX7_tank_31 (by decide) (fun q_ => ?_) (fun q_ => ?_)
      · have hf := (r_ite hf).1 q_
        exact t_X7_tank_50 X hr hk hn  B (lv_sub hl [1, 3, 4, 5, 0] rfl) hf
      · have hf := (r_ite hf).2 q_
        refine lv_iload hx hb dX7_tank_34 (lv_at hl 5 rfl) ?_
        refine lv_iconst (v := 0) hx hb dX7_tank_36 (by decide) ?_
        refine lv_sipush (v := 500) hx hb dX7_tank_37 (by decide) ?_
        refine cal_inv hf ?_
        intro v17 h18 e19 hf
        refine r_call B (va_runS (As := [.int l4, .int 0, .int 500]) (rest := []) X.1 (c_X7_isWithin (l := l) (D := D) (b := b) e19) (r_cwS X m_166 m_167 m_2 m_168 rfl rfl hd_X7_isWithin ⟨Nat.le_of_ble_eq_true rfl, Nat.le_of_ble_eq_true rfl⟩) (r_preS X B [.int l4, .int 0, .int 500]) rfl rfl hl.1 rfl (lv_room (by simp [va_cat, cat_i, cat_r, cat_l])) dX7_tank_40 ⟨Nat.zero_le _, Nat.zero_le _⟩) ?_
        intro H locs B
        refine W.cs (cells' := 0) (slots' := 0) rfl rfl (W.eq (g2 := F0 m 43 ls [.int v17]) rfl ?_)
        refine lv_if_eq (tgt := 50) hx hb dX7_tank_43 (by decide) (fun q_ => ?_) (fun q_ => ?_)
        · have hf := (r_ite hf).1 q_
          exact t_X7_tank_50 X hr hk hn  B (lv_sub hl [1, 3, 4, 5, 0] rfl) hf
        · have hf := (r_ite hf).2 q_
          refine lv_iconst (v := 1) hx hb dX7_tank_46 (by decide) ?_
          refine lv_goto (tgt := 51) hx hb dX7_tank_47 (by decide) ?_
          exact t_X7_tank_51 X hr hk hn  B (lv_sub hl [1, 3, 4, 5, 0] rfl) hf
def f_X7_water_29 (h : AH)  : Option (Int32 × AH) := rZ 0 h
def f_X7_water (h : AH) (l0 : Nat) (l1 : Int32) (l2 : Int32) : Option (Int32 × AH) := rcv h (some l0) 7 (fun a4 => cal (f_X7_tankAt h a4 l1) (fun v1 h2 => nul v1 (f_X7_water_29 h2) (gR h2 v1 5 2 (fun v7 => gI h2 v7 3 2 (fun v8 => rcv h2 v1 5 (fun a12 => cal (f_X5_roomIf h2 a12 v8) (fun v9 h10 => cal (f_X7_isWithin h10 l2 0 v9) (fun v15 h16 => if v15 = 0 then f_X7_water_29 h16 else gI h16 (some l0) 7 10 (fun v18 => gR h16 v1 5 2 (fun v19 => gI h16 v19 3 0 (fun v20 => pI h16 (some l0) 7 10 (v18 + (l2 - v20)) (fun h21 => gR h21 v1 5 2 (fun v22 => pI h21 v22 3 0 l2 (fun h23 => rZ 1 h23))))))))))))))
set_option maxRecDepth 100000 in
set_option maxHeartbeats 4000000 in
theorem t_X7_water_29 {p : Program} {l : Launch} {e : Env} {s : State} {m : MethodId} {args : Array Value} {below : List Frame} {meth : Method} {c : Code} {D : RG} {b : Nat} {vv : Int32} {hh : AH} (X : r_C p c cX7_water 4 s m args RX7 D b) (hr : meth.sig.returnType = (some .boolean)) (hk : meth.locks = false) (hn : meth.name = "water") {h : AH} {H : Heap} {locs : List Loc} {ls : Array Slot}  (B : r_B D b s h H locs) (hl : lv_has ls 4 []) (hf : f_X7_water_29 h  = some (vv, hh)) : W p l e ({ frames := 1, cells := 0, slots := 0, locals := 22 } : Room) s m args below meth c H locs 0 0 (MQ below (r_Q D b (some (.int vv)) hh) args s 0 0 (fun q => b ≤ q)) (F0 m 29 ls []) := by
  obtain ⟨⟨hx, hb, hml, hown, hts⟩, -⟩ := id X
  unfold f_X7_water_29 at hf
  refine lv_iconst (v := 0) hx hb dX7_water_29 (by decide) ?_
  exact r_zret X B hr hk hf dX7_water_30
set_option maxRecDepth 100000 in
set_option maxHeartbeats 4000000 in
theorem c_X7_water {l : Launch} {D : RG} {b : Nat} {h : AH} {l0 : Nat} {l1 : Int32} {l2 : Int32} {vv : Int32} {hh : AH} (hf : f_X7_water h l0 l1 l2 = some (vv, hh)) : Met l yX7_water (Cond.code yX7_water cX7_water 4 (some .boolean) :: wsL_law) ({ frames := 1, cells := 0, slots := 0, locals := 22 } : Room) (va_Pc [.ref l0, .int l1, .int l2] (r_I D b h)) (r_Q D b (some (.int vv)) hh) 0 0 (fun q => b ≤ q) := by
  refine r_ofW (own := RX7) rfl (by decide +kernel) (by simp [lg_sl, va_cat, cat_i, cat_r, cat_l]) ?_
  intro p e s m args below meth c ls X B hr hk hn hl
  have hl : lv_has ls 4 [(0, .ref l0), (1, .int l1), (2, .int l2)] := by simpa [lv_args, va_cat, cat_i, cat_r, cat_l] using hl
  have hl : lv_has ls 4 [(0, va_rf (some l0)), (1, .int l1), (2, .int l2)] := hl
  obtain ⟨⟨hx, hb, hml, hown, hts⟩, -⟩ := id X
  generalize s.heap = H at B ⊢
  generalize ([] : List Loc) = locs at B ⊢
  unfold f_X7_water at hf
  refine r_aload_n hx hb dX7_water_0 rfl (lv_at hl 0 rfl) ?_
  refine lv_iload_n hx hb dX7_water_1 rfl (lv_at hl 1 rfl) ?_
  refine rcv_inv hf ?_
  intro a4 e5 s6 hf
  refine cal_inv hf ?_
  intro v1 h2 e3 hf
  refine r_call B (va_runV (As := [.int l1]) (rest := []) X.1 (c_X7_tankAt (l := l) (D := D) (b := b) e3) (r_cwV X rfl m_162 m_163 m_164 m_2 m_165 rfl rfl hd_X7_tankAt ⟨Nat.le_of_ble_eq_true rfl, Nat.le_of_ble_eq_true rfl⟩) (r_preV X B s6 rfl [.int l1]) rfl rfl hl.1 (by rw [e5]; rfl) (lv_room (by simp [va_cat, cat_i, cat_r, cat_l])) dX7_water_2 ⟨Nat.zero_le _, Nat.zero_le _⟩) ?_
  intro H locs B
  refine W.cs (cells' := 0) (slots' := 0) rfl rfl (W.eq (g2 := F0 m 5 ls [va_rf v1]) rfl ?_)
  refine r_astore_n (i := 3) (lv' := [(3, va_rf v1), (0, va_rf (some l0)), (1, .int l1), (2, .int l2)]) hx hb dX7_water_5 rfl hl (by decide) (by first | rfl | simp [va_cat, cat_i, cat_r, cat_l]) (fun ls hl => ?_)
  refine r_aload_n hx hb dX7_water_6 rfl (lv_at hl 0 rfl) ?_
  refine r_ifnull (tgt := 29) hx hb hf dX7_water_7 (by decide) (fun hf e_ => ?_) (fun hf e_ => ?_)
  · exact t_X7_water_29 X hr hk hn  B (lv_sub hl [] rfl) hf
  · refine lv_iload_n hx hb dX7_water_10 rfl (lv_at hl 3 rfl) ?_
    refine lv_iconst (v := 0) hx hb dX7_water_11 (by decide) ?_
    refine r_aload_n hx hb dX7_water_12 rfl (lv_at hl 0 rfl) ?_
    refine r_aload_n hx hb dX7_water_13 rfl (lv_at hl 0 rfl) ?_
    refine r_gR X B hf fX5_2 (fun _ _ => rfl) m_185 dX7_water_14 (fun v7 hf => ?_)
    refine r_gI X B hf fX3_2 (fun _ _ => rfl) m_186 dX7_water_17 (fun v8 hf => ?_)
    refine rcv_inv hf ?_
    intro a12 e13 s14 hf
    refine cal_inv hf ?_
    intro v9 h10 e11 hf
    refine r_call B (va_runV (As := [.int v8]) (rest := [.int 0, .int l2]) X.1 (c_X5_roomIf (l := l) (D := D) (b := b) e11) (r_cwV X rfl m_188 m_189 m_190 m_49 m_191 rfl rfl hd_X5_roomIf ⟨Nat.le_of_ble_eq_true rfl, Nat.le_of_ble_eq_true rfl⟩) (r_preV X B s14 rfl [.int v8]) rfl rfl hl.1 (by rw [e13]; rfl) (lv_room (by simp [va_cat, cat_i, cat_r, cat_l])) dX7_water_20 ⟨Nat.zero_le _, Nat.zero_le _⟩) ?_
    intro H locs B
    refine W.cs (cells' := 0) (slots' := 0) rfl rfl (W.eq (g2 := F0 m 23 ls [.int v9, .int 0, .int l2]) rfl ?_)
    refine cal_inv hf ?_
    intro v15 h16 e17 hf
    refine r_call B (va_runS (As := [.int l2, .int 0, .int v9]) (rest := []) X.1 (c_X7_isWithin (l := l) (D := D) (b := b) e17) (r_cwS X m_166 m_167 m_2 m_168 rfl rfl hd_X7_isWithin ⟨Nat.le_of_ble_eq_true rfl, Nat.le_of_ble_eq_true rfl⟩) (r_preS X B [.int l2, .int 0, .int v9]) rfl rfl hl.1 rfl (lv_room (by simp [va_cat, cat_i, cat_r, cat_l])) dX7_water_23 ⟨Nat.zero_le _, Nat.zero_le _⟩) ?_
    intro H locs B
    refine W.cs (cells' := 0) (slots' := 0) rfl rfl (W.eq (g2 := F0 m 26 ls [.int v15]) rfl ?_)
    refine lv_if_ne (tgt := 31) hx hb dX7_water_26 (by decide) (fun q_ => ?_) (fun q_ => ?_)
    · have hf := (r_ite hf).2 q_
      refine r_aload_n hx hb dX7_water_31 rfl (lv_at hl 1 rfl) ?_
      refine lv_dup hx hb dX7_water_32 (va_cat _) ?_
      refine r_gI X B hf fX7_10 (fun _ _ => rfl) m_34 dX7_water_33 (fun v18 hf => ?_)
      refine lv_iload_n hx hb dX7_water_36 rfl (lv_at hl 3 rfl) ?_
      refine r_aload_n hx hb dX7_water_37 rfl (lv_at hl 0 rfl) ?_
      refine r_gR X B hf fX5_2 (fun _ _ => rfl) m_185 dX7_water_38 (fun v19 hf => ?_)
      refine r_gI X B hf fX3_0 (fun _ _ => rfl) m_187 dX7_water_41 (fun v20 hf => ?_)
      refine lv_isub hx hb dX7_water_44 ?_
      refine lv_iadd hx hb dX7_water_45 ?_
      refine r_pI X B hf fX7_10 (Or.inl rfl) m_34 dX7_water_46 (fun h21 H locs B hf => ?_)
      refine r_aload_n hx hb dX7_water_49 rfl (lv_at hl 0 rfl) ?_
      refine r_gR X B hf fX5_2 (fun _ _ => rfl) m_185 dX7_water_50 (fun v22 hf => ?_)
      refine lv_iload_n hx hb dX7_water_53 rfl (lv_at hl 3 rfl) ?_
      refine r_pI X B hf fX3_0 (Or.inl rfl) m_187 dX7_water_54 (fun h23 H locs B hf => ?_)
      refine lv_iconst (v := 1) hx hb dX7_water_57 (by decide) ?_
      exact r_zret X B hr hk hf dX7_water_58
    · have hf := (r_ite hf).1 q_
      exact t_X7_water_29 X hr hk hn  B (lv_sub hl [] rfl) hf
def f_X7_field_71 (h : AH)  : Option (Int32 × AH) := some ((-1), h)
def f_X7_field_48 (h : AH) (l0 : Nat) (l1 : Int32) (l2 : Int32) (l3 : Int32) (l4 : Int32) (l5 : Int32) (l6 : Option Nat) (s0 : Int32) : Option (Int32 × AH) := gI h (some l0) 7 7 (fun v1 => if s0 = 0 then f_X7_field_71 h else gR h (some l0) 7 1 (fun v2 => aL (.object RX1) h v2 (fun v3 => if v1 < v3 then nO h 1 (fun a4 h5 => rcv h5 (some a4) 1 (fun a9 => cal (f_X1_init h5 a9 v1 l1 l2 l3 l4 l5) (fun v6 h7 => gR h7 (some l0) 7 1 (fun v12 => sR (.object RX1) 1 h7 v12 v1 (some a4) (fun h13 => pI h13 (some l0) 7 7 (v1 + 1) (fun h14 => gR h14 (some l0) 7 3 (fun v15 => rcv h14 l6 5 (fun a19 => cal (f_X5_putInOrder h14 a19 (some a4) v15) (fun v16 h17 => some (v1, h17)))))))))) else f_X7_field_71 h)))
def f_X7_field_47 (h : AH) (l0 : Nat) (l1 : Int32) (l2 : Int32) (l3 : Int32) (l4 : Int32) (l5 : Int32) (l6 : Option Nat) : Option (Int32 × AH) := f_X7_field_48 h l0 l1 l2 l3 l4 l5 l6 0
def f_X7_field (h : AH) (l0 : Nat) (l1 : Int32) (l2 : Int32) (l3 : Int32) (l4 : Int32) (l5 : Int32) : Option (Int32 × AH) := rcv h (some l0) 7 (fun a25 => cal (f_X7_tankAt h a25 l1) (fun v22 h23 => nul v22 (f_X7_field_47 h23 l0 l1 l2 l3 l4 l5 v22) (cal (f_X7_isWithin h23 l2 0 9) (fun v28 h29 => if v28 = 0 then f_X7_field_47 h29 l0 l1 l2 l3 l4 l5 v22 else cal (f_X7_isWithin h29 l3 1 20) (fun v31 h32 => if v31 = 0 then f_X7_field_47 h32 l0 l1 l2 l3 l4 l5 v22 else cal (f_X7_isWithin h32 l4 0 9) (fun v34 h35 => if v34 = 0 then f_X7_field_47 h35 l0 l1 l2 l3 l4 l5 v22 else f_X7_field_48 h35 l0 l1 l2 l3 l4 l5 v22 1))))))
set_option maxRecDepth 100000 in
set_option maxHeartbeats 4000000 in
theorem t_X7_field_71 {p : Program} {l : Launch} {e : Env} {s : State} {m : MethodId} {args : Array Value} {below : List Frame} {meth : Method} {c : Code} {D : RG} {b : Nat} {vv : Int32} {hh : AH} (X : r_C p c cX7_field 10 s m args RX7 D b) (hr : meth.sig.returnType = (some .int)) (hk : meth.locks = false) (hn : meth.name = "field") {h : AH} {H : Heap} {locs : List Loc} {ls : Array Slot}  (B : r_B D b s h H locs) (hl : lv_has ls 10 []) (hf : f_X7_field_71 h  = some (vv, hh)) : W p l e ({ frames := 3, cells := 1, slots := 12, locals := 69 } : Room) s m args below meth c H locs 0 0 (MQ below (r_Q D b (some (.int vv)) hh) args s 1 12 (fun q => b ≤ q)) (F0 m 71 ls []) := by
  obtain ⟨⟨hx, hb, hml, hown, hts⟩, -⟩ := id X
  unfold f_X7_field_71 at hf
  refine lv_iconst (v := (-1)) hx hb dX7_field_71 (by decide) ?_
  refine W.widen (k := 1) (n := 12) (by decide) (by decide) ?_
  exact r_iret X B hr hk hf dX7_field_72
set_option maxRecDepth 100000 in
set_option maxHeartbeats 4000000 in
theorem t_X7_field_48 {p : Program} {l : Launch} {e : Env} {s : State} {m : MethodId} {args : Array Value} {below : List Frame} {meth : Method} {c : Code} {D : RG} {b : Nat} {vv : Int32} {hh : AH} (X : r_C p c cX7_field 10 s m args RX7 D b) (hr : meth.sig.returnType = (some .int)) (hk : meth.locks = false) (hn : meth.name = "field") {h : AH} {H : Heap} {locs : List Loc} {ls : Array Slot} {l0 : Nat} {l1 : Int32} {l2 : Int32} {l3 : Int32} {l4 : Int32} {l5 : Int32} {l6 : Option Nat} {s0 : Int32} (B : r_B D b s h H locs) (hl : lv_has ls 10 [(0, va_rf (some l0)), (1, .int l1), (2, .int l2), (3, .int l3), (4, .int l4), (5, .int l5), (6, va_rf l6)]) (hf : f_X7_field_48 h l0 l1 l2 l3 l4 l5 l6 s0 = some (vv, hh)) : W p l e ({ frames := 3, cells := 1, slots := 12, locals := 69 } : Room) s m args below meth c H locs 0 0 (MQ below (r_Q D b (some (.int vv)) hh) args s 1 12 (fun q => b ≤ q)) (F0 m 48 ls [.int s0]) := by
  obtain ⟨⟨hx, hb, hml, hown, hts⟩, -⟩ := id X
  unfold f_X7_field_48 at hf
  refine lv_istore (i := 7) (lv' := [(7, .int s0), (0, va_rf (some l0)), (1, .int l1), (2, .int l2), (3, .int l3), (4, .int l4), (5, .int l5), (6, va_rf l6)]) hx hb dX7_field_48 hl (by decide) (by first | rfl | simp [va_cat, cat_i, cat_r, cat_l]) (fun ls hl => ?_)
  refine r_aload_n hx hb dX7_field_50 rfl (lv_at hl 1 rfl) ?_
  refine r_gI X B hf fX7_7 (fun _ _ => rfl) m_31 dX7_field_51 (fun v1 hf => ?_)
  refine lv_istore (i := 8) (lv' := [(8, .int v1), (7, .int s0), (0, va_rf (some l0)), (1, .int l1), (2, .int l2), (3, .int l3), (4, .int l4), (5, .int l5), (6, va_rf l6)]) hx hb dX7_field_54 hl (by decide) (by first | rfl | simp [va_cat, cat_i, cat_r, cat_l]) (fun ls hl => ?_)
  refine lv_iload hx hb dX7_field_56 (lv_at hl 1 rfl) ?_
  refine lv_if_eq (tgt := 71) hx hb dX7_field_58 (by decide) (fun q_ => ?_) (fun q_ => ?_)
  · have hf := (r_ite hf).1 q_
    exact t_X7_field_71 X hr hk hn  B (lv_sub hl [] rfl) hf
  · have hf := (r_ite hf).2 q_
    refine lv_iload hx hb dX7_field_61 (lv_at hl 0 rfl) ?_
    refine r_aload_n hx hb dX7_field_63 rfl (lv_at hl 2 rfl) ?_
    refine r_gR X B hf fX7_1 (fun _ _ => rfl) m_17 dX7_field_64 (fun v2 hf => ?_)
    refine r_aL X B hf (by decide) dX7_field_67 (fun v3 hf => ?_)
    refine lv_icmp_lt (tgt := 73) hx hb dX7_field_68 (by decide) (fun q_ => ?_) (fun q_ => ?_)
    · have hf := (r_ite hf).1 q_
      refine r_new X B hf rfl inlX1 tyX1_ok m_16 m_205 m_206 (by decide) (by decide) dX7_field_73 (by decide) (fun a4 h5 H B hf => ?_)
      refine W.cs (cells' := 1) (slots' := 12) rfl rfl ?_
      refine lv_dup hx hb dX7_field_76 (va_cat _) ?_
      refine lv_iload hx hb dX7_field_77 (lv_at hl 0 rfl) ?_
      refine lv_iload_n hx hb dX7_field_79 rfl (lv_at hl 3 rfl) ?_
      refine lv_iload_n hx hb dX7_field_80 rfl (lv_at hl 4 rfl) ?_
      refine lv_iload_n hx hb dX7_field_81 rfl (lv_at hl 5 rfl) ?_
      refine lv_iload hx hb dX7_field_82 (lv_at hl 6 rfl) ?_
      refine lv_iload hx hb dX7_field_84 (lv_at hl 7 rfl) ?_
      refine rcv_inv hf ?_
      intro a9 e10 s11 hf
      refine cal_inv hf ?_
      intro v6 h7 e8 hf
      refine r_call B (va_runI (b := a9) (As := [.int v1, .int l1, .int l2, .int l3, .int l4, .int l5]) (rest := [va_rf (some a4)]) X.1 (c_X1_init (l := l) (D := D) (b := b) e8) (r_cwI X rfl m_207 m_208 m_206 m_209 rfl rfl hd_X1_init ⟨Nat.le_of_ble_eq_true rfl, Nat.le_of_ble_eq_true rfl⟩) (r_preS X B (.ref a9 :: [.int v1, .int l1, .int l2, .int l3, .int l4, .int l5])) rfl rfl hl.1 (by rw [e10]; rfl) (lv_room (by simp [va_cat, cat_i, cat_r, cat_l])) dX7_field_86 ⟨(by decide), (by decide)⟩) ?_
      intro H locs B
      refine W.cs (cells' := 1) (slots' := 12) rfl rfl (W.eq (g2 := F0 m 89 ls [va_rf (some a4)]) rfl ?_)
      refine r_astore (i := 9) (lv' := [(9, va_rf (some a4)), (8, .int v1), (7, .int s0), (0, va_rf (some l0)), (1, .int l1), (2, .int l2), (3, .int l3), (4, .int l4), (5, .int l5), (6, va_rf l6)]) hx hb dX7_field_89 hl (by decide) (by first | rfl | simp [va_cat, cat_i, cat_r, cat_l]) (fun ls hl => ?_)
      refine r_aload_n hx hb dX7_field_91 rfl (lv_at hl 3 rfl) ?_
      refine r_gR X B hf fX7_1 (fun _ _ => rfl) m_17 dX7_field_92 (fun v12 hf => ?_)
      refine lv_iload hx hb dX7_field_95 (lv_at hl 1 rfl) ?_
      refine r_aload hx hb dX7_field_97 (lv_at hl 0 rfl) ?_
      refine r_sR X B hf (by decide) rfl dX7_field_99 (fun h13 H locs B hf => ?_)
      refine r_aload_n hx hb dX7_field_100 rfl (lv_at hl 3 rfl) ?_
      refine lv_iload hx hb dX7_field_101 (lv_at hl 1 rfl) ?_
      refine lv_iconst (v := 1) hx hb dX7_field_103 (by decide) ?_
      refine lv_iadd hx hb dX7_field_104 ?_
      refine r_pI X B hf fX7_7 (Or.inl rfl) m_31 dX7_field_105 (fun h14 H locs B hf => ?_)
      refine r_aload hx hb dX7_field_108 (lv_at hl 9 rfl) ?_
      refine r_aload hx hb dX7_field_110 (lv_at hl 0 rfl) ?_
      refine r_aload_n hx hb dX7_field_112 rfl (lv_at hl 3 rfl) ?_
      refine r_gR X B hf fX7_3 (fun _ _ => rfl) m_25 dX7_field_113 (fun v15 hf => ?_)
      refine rcv_inv hf ?_
      intro a19 e20 s21 hf
      refine cal_inv hf ?_
      intro v16 h17 e18 hf
      refine r_call B (va_runV (As := [va_rf (some a4), va_rf v15]) (rest := []) X.1 (c_X5_putInOrder (l := l) (D := D) (b := b) e18) (r_cwV X rfl m_223 m_224 m_225 m_49 m_226 rfl rfl hd_X5_putInOrder ⟨Nat.le_of_ble_eq_true rfl, Nat.le_of_ble_eq_true rfl⟩) (r_preV X B s21 rfl [va_rf (some a4), va_rf v15]) rfl rfl hl.1 (by rw [e20]; rfl) (lv_room (by simp [va_cat, cat_i, cat_r, cat_l])) dX7_field_116 ⟨(by decide), (by decide)⟩) ?_
      intro H locs B
      refine W.cs (cells' := 1) (slots' := 12) rfl rfl (W.eq (g2 := F0 m 119 ls []) rfl ?_)
      refine lv_iload hx hb dX7_field_119 (lv_at hl 1 rfl) ?_
      exact r_iret X B hr hk hf dX7_field_121
    · have hf := (r_ite hf).2 q_
      exact t_X7_field_71 X hr hk hn  B (lv_sub hl [] rfl) hf
set_option maxRecDepth 100000 in
set_option maxHeartbeats 4000000 in
theorem t_X7_field_47 {p : Program} {l : Launch} {e : Env} {s : State} {m : MethodId} {args : Array Value} {below : List Frame} {meth : Method} {c : Code} {D : RG} {b : Nat} {vv : Int32} {hh : AH} (X : r_C p c cX7_field 10 s m args RX7 D b) (hr : meth.sig.returnType = (some .int)) (hk : meth.locks = false) (hn : meth.name = "field") {h : AH} {H : Heap} {locs : List Loc} {ls : Array Slot} {l0 : Nat} {l1 : Int32} {l2 : Int32} {l3 : Int32} {l4 : Int32} {l5 : Int32} {l6 : Option Nat} (B : r_B D b s h H locs) (hl : lv_has ls 10 [(0, va_rf (some l0)), (1, .int l1), (2, .int l2), (3, .int l3), (4, .int l4), (5, .int l5), (6, va_rf l6)]) (hf : f_X7_field_47 h l0 l1 l2 l3 l4 l5 l6 = some (vv, hh)) : W p l e ({ frames := 3, cells := 1, slots := 12, locals := 69 } : Room) s m args below meth c H locs 0 0 (MQ below (r_Q D b (some (.int vv)) hh) args s 1 12 (fun q => b ≤ q)) (F0 m 47 ls []) := by
  obtain ⟨⟨hx, hb, hml, hown, hts⟩, -⟩ := id X
  unfold f_X7_field_47 at hf
  refine lv_iconst (v := 0) hx hb dX7_field_47 (by decide) ?_
  exact t_X7_field_48 X hr hk hn  B (lv_sub hl [0, 1, 2, 3, 4, 5, 6] rfl) hf
set_option maxRecDepth 100000 in
set_option maxHeartbeats 4000000 in
theorem c_X7_field {l : Launch} {D : RG} {b : Nat} {h : AH} {l0 : Nat} {l1 : Int32} {l2 : Int32} {l3 : Int32} {l4 : Int32} {l5 : Int32} {vv : Int32} {hh : AH} (hf : f_X7_field h l0 l1 l2 l3 l4 l5 = some (vv, hh)) : Met l yX7_field (Cond.code yX7_field cX7_field 10 (some .int) :: wsL_law) ({ frames := 3, cells := 1, slots := 12, locals := 69 } : Room) (va_Pc [.ref l0, .int l1, .int l2, .int l3, .int l4, .int l5] (r_I D b h)) (r_Q D b (some (.int vv)) hh) 1 12 (fun q => b ≤ q) := by
  refine r_ofW (own := RX7) rfl (by decide +kernel) (by simp [lg_sl, va_cat, cat_i, cat_r, cat_l]) ?_
  intro p e s m args below meth c ls X B hr hk hn hl
  have hl : lv_has ls 10 [(0, .ref l0), (1, .int l1), (2, .int l2), (3, .int l3), (4, .int l4), (5, .int l5)] := by simpa [lv_args, va_cat, cat_i, cat_r, cat_l] using hl
  have hl : lv_has ls 10 [(0, va_rf (some l0)), (1, .int l1), (2, .int l2), (3, .int l3), (4, .int l4), (5, .int l5)] := hl
  obtain ⟨⟨hx, hb, hml, hown, hts⟩, -⟩ := id X
  generalize s.heap = H at B ⊢
  generalize ([] : List Loc) = locs at B ⊢
  unfold f_X7_field at hf
  refine r_aload_n hx hb dX7_field_0 rfl (lv_at hl 0 rfl) ?_
  refine lv_iload_n hx hb dX7_field_1 rfl (lv_at hl 1 rfl) ?_
  refine rcv_inv hf ?_
  intro a25 e26 s27 hf
  refine cal_inv hf ?_
  intro v22 h23 e24 hf
  refine r_call B (va_runV (As := [.int l1]) (rest := []) X.1 (c_X7_tankAt (l := l) (D := D) (b := b) e24) (r_cwV X rfl m_162 m_163 m_164 m_2 m_165 rfl rfl hd_X7_tankAt ⟨Nat.le_of_ble_eq_true rfl, Nat.le_of_ble_eq_true rfl⟩) (r_preV X B s27 rfl [.int l1]) rfl rfl hl.1 (by rw [e26]; rfl) (lv_room (by simp [va_cat, cat_i, cat_r, cat_l])) dX7_field_2 ⟨(by decide), (by decide)⟩) ?_
  intro H locs B
  refine W.cs (cells' := 0) (slots' := 0) rfl rfl (W.eq (g2 := F0 m 5 ls [va_rf v22]) rfl ?_)
  refine r_astore (i := 6) (lv' := [(6, va_rf v22), (0, va_rf (some l0)), (1, .int l1), (2, .int l2), (3, .int l3), (4, .int l4), (5, .int l5)]) hx hb dX7_field_5 hl (by decide) (by first | rfl | simp [va_cat, cat_i, cat_r, cat_l]) (fun ls hl => ?_)
  refine r_aload hx hb dX7_field_7 (lv_at hl 0 rfl) ?_
  refine r_ifnull (tgt := 47) hx hb hf dX7_field_9 (by decide) (fun hf e_ => ?_) (fun hf e_ => ?_)
  · exact t_X7_field_47 X hr hk hn  B (lv_sub hl [1, 2, 3, 4, 5, 6, 0] rfl) hf
  · refine lv_iload_n hx hb dX7_field_12 rfl (lv_at hl 3 rfl) ?_
    refine lv_iconst (v := 0) hx hb dX7_field_13 (by decide) ?_
    refine lv_bipush (v := 9) hx hb dX7_field_14 (by decide) ?_
    refine cal_inv hf ?_
    intro v28 h29 e30 hf
    refine r_call B (va_runS (As := [.int l2, .int 0, .int 9]) (rest := []) X.1 (c_X7_isWithin (l := l) (D := D) (b := b) e30) (r_cwS X m_166 m_167 m_2 m_168 rfl rfl hd_X7_isWithin ⟨Nat.le_of_ble_eq_true rfl, Nat.le_of_ble_eq_true rfl⟩) (r_preS X B [.int l2, .int 0, .int 9]) rfl rfl hl.1 rfl (lv_room (by simp [va_cat, cat_i, cat_r, cat_l])) dX7_field_16 ⟨(by decide), (by decide)⟩) ?_
    intro H locs B
    refine W.cs (cells' := 0) (slots' := 0) rfl rfl (W.eq (g2 := F0 m 19 ls [.int v28]) rfl ?_)
    refine lv_if_eq (tgt := 47) hx hb dX7_field_19 (by decide) (fun q_ => ?_) (fun q_ => ?_)
    · have hf := (r_ite hf).1 q_
      exact t_X7_field_47 X hr hk hn  B (lv_sub hl [1, 2, 3, 4, 5, 6, 0] rfl) hf
    · have hf := (r_ite hf).2 q_
      refine lv_iload_n hx hb dX7_field_22 rfl (lv_at hl 4 rfl) ?_
      refine lv_iconst (v := 1) hx hb dX7_field_23 (by decide) ?_
      refine lv_bipush (v := 20) hx hb dX7_field_24 (by decide) ?_
      refine cal_inv hf ?_
      intro v31 h32 e33 hf
      refine r_call B (va_runS (As := [.int l3, .int 1, .int 20]) (rest := []) X.1 (c_X7_isWithin (l := l) (D := D) (b := b) e33) (r_cwS X m_166 m_167 m_2 m_168 rfl rfl hd_X7_isWithin ⟨Nat.le_of_ble_eq_true rfl, Nat.le_of_ble_eq_true rfl⟩) (r_preS X B [.int l3, .int 1, .int 20]) rfl rfl hl.1 rfl (lv_room (by simp [va_cat, cat_i, cat_r, cat_l])) dX7_field_26 ⟨(by decide), (by decide)⟩) ?_
      intro H locs B
      refine W.cs (cells' := 0) (slots' := 0) rfl rfl (W.eq (g2 := F0 m 29 ls [.int v31]) rfl ?_)
      refine lv_if_eq (tgt := 47) hx hb dX7_field_29 (by decide) (fun q_ => ?_) (fun q_ => ?_)
      · have hf := (r_ite hf).1 q_
        exact t_X7_field_47 X hr hk hn  B (lv_sub hl [1, 2, 3, 4, 5, 6, 0] rfl) hf
      · have hf := (r_ite hf).2 q_
        refine lv_iload hx hb dX7_field_32 (lv_at hl 5 rfl) ?_
        refine lv_iconst (v := 0) hx hb dX7_field_34 (by decide) ?_
        refine lv_bipush (v := 9) hx hb dX7_field_35 (by decide) ?_
        refine cal_inv hf ?_
        intro v34 h35 e36 hf
        refine r_call B (va_runS (As := [.int l4, .int 0, .int 9]) (rest := []) X.1 (c_X7_isWithin (l := l) (D := D) (b := b) e36) (r_cwS X m_166 m_167 m_2 m_168 rfl rfl hd_X7_isWithin ⟨Nat.le_of_ble_eq_true rfl, Nat.le_of_ble_eq_true rfl⟩) (r_preS X B [.int l4, .int 0, .int 9]) rfl rfl hl.1 rfl (lv_room (by simp [va_cat, cat_i, cat_r, cat_l])) dX7_field_37 ⟨(by decide), (by decide)⟩) ?_
        intro H locs B
        refine W.cs (cells' := 0) (slots' := 0) rfl rfl (W.eq (g2 := F0 m 40 ls [.int v34]) rfl ?_)
        refine lv_if_eq (tgt := 47) hx hb dX7_field_40 (by decide) (fun q_ => ?_) (fun q_ => ?_)
        · have hf := (r_ite hf).1 q_
          exact t_X7_field_47 X hr hk hn  B (lv_sub hl [1, 2, 3, 4, 5, 6, 0] rfl) hf
        · have hf := (r_ite hf).2 q_
          refine lv_iconst (v := 1) hx hb dX7_field_43 (by decide) ?_
          refine lv_goto (tgt := 48) hx hb dX7_field_44 (by decide) ?_
          exact t_X7_field_48 X hr hk hn  B (lv_sub hl [1, 2, 3, 4, 5, 6, 0] rfl) hf
def f_X7_open_20 (h : AH)  : Option (Int32 × AH) := rZ 0 h
def f_X7_open (h : AH) (l0 : Nat) (l1 : Int32) (l2 : Int32) : Option (Int32 × AH) := rcv h (some l0) 7 (fun a4 => cal (f_X7_tankAt h a4 l1) (fun v1 h2 => nul v1 (f_X7_open_20 h2) (cal (f_X7_isWithin h2 l2 0 20) (fun v7 h8 => if v7 = 0 then f_X7_open_20 h8 else gR h8 v1 5 2 (fun v10 => pI h8 v10 3 1 l2 (fun h11 => rZ 1 h11))))))
set_option maxRecDepth 100000 in
set_option maxHeartbeats 4000000 in
theorem t_X7_open_20 {p : Program} {l : Launch} {e : Env} {s : State} {m : MethodId} {args : Array Value} {below : List Frame} {meth : Method} {c : Code} {D : RG} {b : Nat} {vv : Int32} {hh : AH} (X : r_C p c cX7_open 4 s m args RX7 D b) (hr : meth.sig.returnType = (some .boolean)) (hk : meth.locks = false) (hn : meth.name = "open") {h : AH} {H : Heap} {locs : List Loc} {ls : Array Slot}  (B : r_B D b s h H locs) (hl : lv_has ls 4 []) (hf : f_X7_open_20 h  = some (vv, hh)) : W p l e ({ frames := 1, cells := 0, slots := 0, locals := 22 } : Room) s m args below meth c H locs 0 0 (MQ below (r_Q D b (some (.int vv)) hh) args s 0 0 (fun q => b ≤ q)) (F0 m 20 ls []) := by
  obtain ⟨⟨hx, hb, hml, hown, hts⟩, -⟩ := id X
  unfold f_X7_open_20 at hf
  refine lv_iconst (v := 0) hx hb dX7_open_20 (by decide) ?_
  exact r_zret X B hr hk hf dX7_open_21
set_option maxRecDepth 100000 in
set_option maxHeartbeats 4000000 in
theorem c_X7_open {l : Launch} {D : RG} {b : Nat} {h : AH} {l0 : Nat} {l1 : Int32} {l2 : Int32} {vv : Int32} {hh : AH} (hf : f_X7_open h l0 l1 l2 = some (vv, hh)) : Met l yX7_open (Cond.code yX7_open cX7_open 4 (some .boolean) :: wsL_law) ({ frames := 1, cells := 0, slots := 0, locals := 22 } : Room) (va_Pc [.ref l0, .int l1, .int l2] (r_I D b h)) (r_Q D b (some (.int vv)) hh) 0 0 (fun q => b ≤ q) := by
  refine r_ofW (own := RX7) rfl (by decide +kernel) (by simp [lg_sl, va_cat, cat_i, cat_r, cat_l]) ?_
  intro p e s m args below meth c ls X B hr hk hn hl
  have hl : lv_has ls 4 [(0, .ref l0), (1, .int l1), (2, .int l2)] := by simpa [lv_args, va_cat, cat_i, cat_r, cat_l] using hl
  have hl : lv_has ls 4 [(0, va_rf (some l0)), (1, .int l1), (2, .int l2)] := hl
  obtain ⟨⟨hx, hb, hml, hown, hts⟩, -⟩ := id X
  generalize s.heap = H at B ⊢
  generalize ([] : List Loc) = locs at B ⊢
  unfold f_X7_open at hf
  refine r_aload_n hx hb dX7_open_0 rfl (lv_at hl 0 rfl) ?_
  refine lv_iload_n hx hb dX7_open_1 rfl (lv_at hl 1 rfl) ?_
  refine rcv_inv hf ?_
  intro a4 e5 s6 hf
  refine cal_inv hf ?_
  intro v1 h2 e3 hf
  refine r_call B (va_runV (As := [.int l1]) (rest := []) X.1 (c_X7_tankAt (l := l) (D := D) (b := b) e3) (r_cwV X rfl m_162 m_163 m_164 m_2 m_165 rfl rfl hd_X7_tankAt ⟨Nat.le_of_ble_eq_true rfl, Nat.le_of_ble_eq_true rfl⟩) (r_preV X B s6 rfl [.int l1]) rfl rfl hl.1 (by rw [e5]; rfl) (lv_room (by simp [va_cat, cat_i, cat_r, cat_l])) dX7_open_2 ⟨Nat.zero_le _, Nat.zero_le _⟩) ?_
  intro H locs B
  refine W.cs (cells' := 0) (slots' := 0) rfl rfl (W.eq (g2 := F0 m 5 ls [va_rf v1]) rfl ?_)
  refine r_astore_n (i := 3) (lv' := [(3, va_rf v1), (0, va_rf (some l0)), (1, .int l1), (2, .int l2)]) hx hb dX7_open_5 rfl hl (by decide) (by first | rfl | simp [va_cat, cat_i, cat_r, cat_l]) (fun ls hl => ?_)
  refine r_aload_n hx hb dX7_open_6 rfl (lv_at hl 0 rfl) ?_
  refine r_ifnull (tgt := 20) hx hb hf dX7_open_7 (by decide) (fun hf e_ => ?_) (fun hf e_ => ?_)
  · exact t_X7_open_20 X hr hk hn  B (lv_sub hl [] rfl) hf
  · refine lv_iload_n hx hb dX7_open_10 rfl (lv_at hl 3 rfl) ?_
    refine lv_iconst (v := 0) hx hb dX7_open_11 (by decide) ?_
    refine lv_bipush (v := 20) hx hb dX7_open_12 (by decide) ?_
    refine cal_inv hf ?_
    intro v7 h8 e9 hf
    refine r_call B (va_runS (As := [.int l2, .int 0, .int 20]) (rest := []) X.1 (c_X7_isWithin (l := l) (D := D) (b := b) e9) (r_cwS X m_166 m_167 m_2 m_168 rfl rfl hd_X7_isWithin ⟨Nat.le_of_ble_eq_true rfl, Nat.le_of_ble_eq_true rfl⟩) (r_preS X B [.int l2, .int 0, .int 20]) rfl rfl hl.1 rfl (lv_room (by simp [va_cat, cat_i, cat_r, cat_l])) dX7_open_14 ⟨Nat.zero_le _, Nat.zero_le _⟩) ?_
    intro H locs B
    refine W.cs (cells' := 0) (slots' := 0) rfl rfl (W.eq (g2 := F0 m 17 ls [.int v7]) rfl ?_)
    refine lv_if_ne (tgt := 22) hx hb dX7_open_17 (by decide) (fun q_ => ?_) (fun q_ => ?_)
    · have hf := (r_ite hf).2 q_
      refine r_aload_n hx hb dX7_open_22 rfl (lv_at hl 0 rfl) ?_
      refine r_gR X B hf fX5_2 (fun _ _ => rfl) m_185 dX7_open_23 (fun v10 hf => ?_)
      refine lv_iload_n hx hb dX7_open_26 rfl (lv_at hl 3 rfl) ?_
      refine r_pI X B hf fX3_1 (Or.inl rfl) m_248 dX7_open_27 (fun h11 H locs B hf => ?_)
      refine lv_iconst (v := 1) hx hb dX7_open_30 (by decide) ?_
      exact r_zret X B hr hk hf dX7_open_31
    · have hf := (r_ite hf).1 q_
      exact t_X7_open_20 X hr hk hn  B (lv_sub hl [] rfl) hf
def f_X7_mend_21 (h : AH)  : Option (Int32 × AH) := rZ 0 h
def f_X7_mend (h : AH) (l0 : Nat) (l1 : Int32) (l2 : Int32) : Option (Int32 × AH) := rcv h (some l0) 7 (fun a4 => cal (f_X7_tankAt h a4 l1) (fun v1 h2 => nul v1 (f_X7_mend_21 h2) (cal (f_X7_isWithin h2 l2 0 500) (fun v7 h8 => if v7 = 0 then f_X7_mend_21 h8 else gR h8 v1 5 2 (fun v10 => pZ h8 v10 3 2 0 (fun h11 => pI h11 v1 5 6 l2 (fun h12 => rZ 1 h12)))))))
set_option maxRecDepth 100000 in
set_option maxHeartbeats 4000000 in
theorem t_X7_mend_21 {p : Program} {l : Launch} {e : Env} {s : State} {m : MethodId} {args : Array Value} {below : List Frame} {meth : Method} {c : Code} {D : RG} {b : Nat} {vv : Int32} {hh : AH} (X : r_C p c cX7_mend 4 s m args RX7 D b) (hr : meth.sig.returnType = (some .boolean)) (hk : meth.locks = false) (hn : meth.name = "mend") {h : AH} {H : Heap} {locs : List Loc} {ls : Array Slot}  (B : r_B D b s h H locs) (hl : lv_has ls 4 []) (hf : f_X7_mend_21 h  = some (vv, hh)) : W p l e ({ frames := 1, cells := 0, slots := 0, locals := 22 } : Room) s m args below meth c H locs 0 0 (MQ below (r_Q D b (some (.int vv)) hh) args s 0 0 (fun q => b ≤ q)) (F0 m 21 ls []) := by
  obtain ⟨⟨hx, hb, hml, hown, hts⟩, -⟩ := id X
  unfold f_X7_mend_21 at hf
  refine lv_iconst (v := 0) hx hb dX7_mend_21 (by decide) ?_
  exact r_zret X B hr hk hf dX7_mend_22
set_option maxRecDepth 100000 in
set_option maxHeartbeats 4000000 in
theorem c_X7_mend {l : Launch} {D : RG} {b : Nat} {h : AH} {l0 : Nat} {l1 : Int32} {l2 : Int32} {vv : Int32} {hh : AH} (hf : f_X7_mend h l0 l1 l2 = some (vv, hh)) : Met l yX7_mend (Cond.code yX7_mend cX7_mend 4 (some .boolean) :: wsL_law) ({ frames := 1, cells := 0, slots := 0, locals := 22 } : Room) (va_Pc [.ref l0, .int l1, .int l2] (r_I D b h)) (r_Q D b (some (.int vv)) hh) 0 0 (fun q => b ≤ q) := by
  refine r_ofW (own := RX7) rfl (by decide +kernel) (by simp [lg_sl, va_cat, cat_i, cat_r, cat_l]) ?_
  intro p e s m args below meth c ls X B hr hk hn hl
  have hl : lv_has ls 4 [(0, .ref l0), (1, .int l1), (2, .int l2)] := by simpa [lv_args, va_cat, cat_i, cat_r, cat_l] using hl
  have hl : lv_has ls 4 [(0, va_rf (some l0)), (1, .int l1), (2, .int l2)] := hl
  obtain ⟨⟨hx, hb, hml, hown, hts⟩, -⟩ := id X
  generalize s.heap = H at B ⊢
  generalize ([] : List Loc) = locs at B ⊢
  unfold f_X7_mend at hf
  refine r_aload_n hx hb dX7_mend_0 rfl (lv_at hl 0 rfl) ?_
  refine lv_iload_n hx hb dX7_mend_1 rfl (lv_at hl 1 rfl) ?_
  refine rcv_inv hf ?_
  intro a4 e5 s6 hf
  refine cal_inv hf ?_
  intro v1 h2 e3 hf
  refine r_call B (va_runV (As := [.int l1]) (rest := []) X.1 (c_X7_tankAt (l := l) (D := D) (b := b) e3) (r_cwV X rfl m_162 m_163 m_164 m_2 m_165 rfl rfl hd_X7_tankAt ⟨Nat.le_of_ble_eq_true rfl, Nat.le_of_ble_eq_true rfl⟩) (r_preV X B s6 rfl [.int l1]) rfl rfl hl.1 (by rw [e5]; rfl) (lv_room (by simp [va_cat, cat_i, cat_r, cat_l])) dX7_mend_2 ⟨Nat.zero_le _, Nat.zero_le _⟩) ?_
  intro H locs B
  refine W.cs (cells' := 0) (slots' := 0) rfl rfl (W.eq (g2 := F0 m 5 ls [va_rf v1]) rfl ?_)
  refine r_astore_n (i := 3) (lv' := [(3, va_rf v1), (0, va_rf (some l0)), (1, .int l1), (2, .int l2)]) hx hb dX7_mend_5 rfl hl (by decide) (by first | rfl | simp [va_cat, cat_i, cat_r, cat_l]) (fun ls hl => ?_)
  refine r_aload_n hx hb dX7_mend_6 rfl (lv_at hl 0 rfl) ?_
  refine r_ifnull (tgt := 21) hx hb hf dX7_mend_7 (by decide) (fun hf e_ => ?_) (fun hf e_ => ?_)
  · exact t_X7_mend_21 X hr hk hn  B (lv_sub hl [] rfl) hf
  · refine lv_iload_n hx hb dX7_mend_10 rfl (lv_at hl 3 rfl) ?_
    refine lv_iconst (v := 0) hx hb dX7_mend_11 (by decide) ?_
    refine lv_sipush (v := 500) hx hb dX7_mend_12 (by decide) ?_
    refine cal_inv hf ?_
    intro v7 h8 e9 hf
    refine r_call B (va_runS (As := [.int l2, .int 0, .int 500]) (rest := []) X.1 (c_X7_isWithin (l := l) (D := D) (b := b) e9) (r_cwS X m_166 m_167 m_2 m_168 rfl rfl hd_X7_isWithin ⟨Nat.le_of_ble_eq_true rfl, Nat.le_of_ble_eq_true rfl⟩) (r_preS X B [.int l2, .int 0, .int 500]) rfl rfl hl.1 rfl (lv_room (by simp [va_cat, cat_i, cat_r, cat_l])) dX7_mend_15 ⟨Nat.zero_le _, Nat.zero_le _⟩) ?_
    intro H locs B
    refine W.cs (cells' := 0) (slots' := 0) rfl rfl (W.eq (g2 := F0 m 18 ls [.int v7]) rfl ?_)
    refine lv_if_ne (tgt := 23) hx hb dX7_mend_18 (by decide) (fun q_ => ?_) (fun q_ => ?_)
    · have hf := (r_ite hf).2 q_
      refine r_aload_n hx hb dX7_mend_23 rfl (lv_at hl 0 rfl) ?_
      refine r_gR X B hf fX5_2 (fun _ _ => rfl) m_185 dX7_mend_24 (fun v10 hf => ?_)
      refine lv_iconst (v := 0) hx hb dX7_mend_27 (by decide) ?_
      refine r_pZ X B hf fX3_2 (Or.inl rfl) m_186 dX7_mend_28 (fun h11 H locs B hf => ?_)
      refine r_aload_n hx hb dX7_mend_31 rfl (lv_at hl 0 rfl) ?_
      refine lv_iload_n hx hb dX7_mend_32 rfl (lv_at hl 3 rfl) ?_
      refine r_pI X B hf fX5_6 (Or.inl rfl) m_161 dX7_mend_33 (fun h12 H locs B hf => ?_)
      refine lv_iconst (v := 1) hx hb dX7_mend_36 (by decide) ?_
      exact r_zret X B hr hk hf dX7_mend_37
    · have hf := (r_ite hf).1 q_
      exact t_X7_mend_21 X hr hk hn  B (lv_sub hl [] rfl) hf
def f_X7_dredge_22 (h : AH)  : Option (Int32 × AH) := some ((-1), h)
def f_X7_dredge (h : AH) (l0 : Nat) (l1 : Int32) (l2 : Int32) : Option (Int32 × AH) := rcv h (some l0) 7 (fun a4 => cal (f_X7_tankAt h a4 l1) (fun v1 h2 => nul v1 (f_X7_dredge_22 h2) (gI h2 v1 5 7 (fun v7 => cal (f_X7_isWithin h2 l2 1 v7) (fun v8 h9 => if v8 = 0 then f_X7_dredge_22 h9 else gI h9 v1 5 7 (fun v11 => pI h9 v1 5 7 (v11 - l2) (fun h12 => gI h12 v1 5 7 (fun v13 => some (v13, h12)))))))))
set_option maxRecDepth 100000 in
set_option maxHeartbeats 4000000 in
theorem t_X7_dredge_22 {p : Program} {l : Launch} {e : Env} {s : State} {m : MethodId} {args : Array Value} {below : List Frame} {meth : Method} {c : Code} {D : RG} {b : Nat} {vv : Int32} {hh : AH} (X : r_C p c cX7_dredge 4 s m args RX7 D b) (hr : meth.sig.returnType = (some .int)) (hk : meth.locks = false) (hn : meth.name = "dredge") {h : AH} {H : Heap} {locs : List Loc} {ls : Array Slot}  (B : r_B D b s h H locs) (hl : lv_has ls 4 []) (hf : f_X7_dredge_22 h  = some (vv, hh)) : W p l e ({ frames := 1, cells := 0, slots := 0, locals := 22 } : Room) s m args below meth c H locs 0 0 (MQ below (r_Q D b (some (.int vv)) hh) args s 0 0 (fun q => b ≤ q)) (F0 m 22 ls []) := by
  obtain ⟨⟨hx, hb, hml, hown, hts⟩, -⟩ := id X
  unfold f_X7_dredge_22 at hf
  refine lv_iconst (v := (-1)) hx hb dX7_dredge_22 (by decide) ?_
  exact r_iret X B hr hk hf dX7_dredge_23
set_option maxRecDepth 100000 in
set_option maxHeartbeats 4000000 in
theorem c_X7_dredge {l : Launch} {D : RG} {b : Nat} {h : AH} {l0 : Nat} {l1 : Int32} {l2 : Int32} {vv : Int32} {hh : AH} (hf : f_X7_dredge h l0 l1 l2 = some (vv, hh)) : Met l yX7_dredge (Cond.code yX7_dredge cX7_dredge 4 (some .int) :: wsL_law) ({ frames := 1, cells := 0, slots := 0, locals := 22 } : Room) (va_Pc [.ref l0, .int l1, .int l2] (r_I D b h)) (r_Q D b (some (.int vv)) hh) 0 0 (fun q => b ≤ q) := by
  refine r_ofW (own := RX7) rfl (by decide +kernel) (by simp [lg_sl, va_cat, cat_i, cat_r, cat_l]) ?_
  intro p e s m args below meth c ls X B hr hk hn hl
  have hl : lv_has ls 4 [(0, .ref l0), (1, .int l1), (2, .int l2)] := by simpa [lv_args, va_cat, cat_i, cat_r, cat_l] using hl
  have hl : lv_has ls 4 [(0, va_rf (some l0)), (1, .int l1), (2, .int l2)] := hl
  obtain ⟨⟨hx, hb, hml, hown, hts⟩, -⟩ := id X
  generalize s.heap = H at B ⊢
  generalize ([] : List Loc) = locs at B ⊢
  unfold f_X7_dredge at hf
  refine r_aload_n hx hb dX7_dredge_0 rfl (lv_at hl 0 rfl) ?_
  refine lv_iload_n hx hb dX7_dredge_1 rfl (lv_at hl 1 rfl) ?_
  refine rcv_inv hf ?_
  intro a4 e5 s6 hf
  refine cal_inv hf ?_
  intro v1 h2 e3 hf
  refine r_call B (va_runV (As := [.int l1]) (rest := []) X.1 (c_X7_tankAt (l := l) (D := D) (b := b) e3) (r_cwV X rfl m_162 m_163 m_164 m_2 m_165 rfl rfl hd_X7_tankAt ⟨Nat.le_of_ble_eq_true rfl, Nat.le_of_ble_eq_true rfl⟩) (r_preV X B s6 rfl [.int l1]) rfl rfl hl.1 (by rw [e5]; rfl) (lv_room (by simp [va_cat, cat_i, cat_r, cat_l])) dX7_dredge_2 ⟨Nat.zero_le _, Nat.zero_le _⟩) ?_
  intro H locs B
  refine W.cs (cells' := 0) (slots' := 0) rfl rfl (W.eq (g2 := F0 m 5 ls [va_rf v1]) rfl ?_)
  refine r_astore_n (i := 3) (lv' := [(3, va_rf v1), (0, va_rf (some l0)), (1, .int l1), (2, .int l2)]) hx hb dX7_dredge_5 rfl hl (by decide) (by first | rfl | simp [va_cat, cat_i, cat_r, cat_l]) (fun ls hl => ?_)
  refine r_aload_n hx hb dX7_dredge_6 rfl (lv_at hl 0 rfl) ?_
  refine r_ifnull (tgt := 22) hx hb hf dX7_dredge_7 (by decide) (fun hf e_ => ?_) (fun hf e_ => ?_)
  · exact t_X7_dredge_22 X hr hk hn  B (lv_sub hl [] rfl) hf
  · refine lv_iload_n hx hb dX7_dredge_10 rfl (lv_at hl 3 rfl) ?_
    refine lv_iconst (v := 1) hx hb dX7_dredge_11 (by decide) ?_
    refine r_aload_n hx hb dX7_dredge_12 rfl (lv_at hl 0 rfl) ?_
    refine r_gI X B hf fX5_7 (fun _ _ => rfl) m_265 dX7_dredge_13 (fun v7 hf => ?_)
    refine cal_inv hf ?_
    intro v8 h9 e10 hf
    refine r_call B (va_runS (As := [.int l2, .int 1, .int v7]) (rest := []) X.1 (c_X7_isWithin (l := l) (D := D) (b := b) e10) (r_cwS X m_166 m_167 m_2 m_168 rfl rfl hd_X7_isWithin ⟨Nat.le_of_ble_eq_true rfl, Nat.le_of_ble_eq_true rfl⟩) (r_preS X B [.int l2, .int 1, .int v7]) rfl rfl hl.1 rfl (lv_room (by simp [va_cat, cat_i, cat_r, cat_l])) dX7_dredge_16 ⟨Nat.zero_le _, Nat.zero_le _⟩) ?_
    intro H locs B
    refine W.cs (cells' := 0) (slots' := 0) rfl rfl (W.eq (g2 := F0 m 19 ls [.int v8]) rfl ?_)
    refine lv_if_ne (tgt := 24) hx hb dX7_dredge_19 (by decide) (fun q_ => ?_) (fun q_ => ?_)
    · have hf := (r_ite hf).2 q_
      refine r_aload_n hx hb dX7_dredge_24 rfl (lv_at hl 0 rfl) ?_
      refine lv_dup hx hb dX7_dredge_25 (va_cat _) ?_
      refine r_gI X B hf fX5_7 (fun _ _ => rfl) m_265 dX7_dredge_26 (fun v11 hf => ?_)
      refine lv_iload_n hx hb dX7_dredge_29 rfl (lv_at hl 3 rfl) ?_
      refine lv_isub hx hb dX7_dredge_30 ?_
      refine r_pI X B hf fX5_7 (Or.inl rfl) m_265 dX7_dredge_31 (fun h12 H locs B hf => ?_)
      refine r_aload_n hx hb dX7_dredge_34 rfl (lv_at hl 0 rfl) ?_
      refine r_gI X B hf fX5_7 (fun _ _ => rfl) m_265 dX7_dredge_35 (fun v13 hf => ?_)
      exact r_iret X B hr hk hf dX7_dredge_38
    · have hf := (r_ite hf).1 q_
      exact t_X7_dredge_22 X hr hk hn  B (lv_sub hl [] rfl) hf
def f_X7_feed (h : AH) (l0 : Nat) (l1 : Int32) (l2 : Int32) (l3 : Int32) (l4 : Int32) (l5 : Int32) : Option (Int32 × AH) := gR h (some l0) 7 2 (fun v1 => gI h v1 6 1 (fun v2 => if (v2 + 20) ≤ 300 then gR h (some l0) 7 2 (fun v3 => rcv h v3 6 (fun a7 => cal (f_X6_putFour h a7 l1) (fun v4 h5 => gR h5 (some l0) 7 2 (fun v10 => rcv h5 v10 6 (fun a14 => cal (f_X6_putFour h5 a14 l2) (fun v11 h12 => gR h12 (some l0) 7 2 (fun v17 => rcv h12 v17 6 (fun a21 => cal (f_X6_putFour h12 a21 l3) (fun v18 h19 => gR h19 (some l0) 7 2 (fun v24 => rcv h19 v24 6 (fun a28 => cal (f_X6_putFour h19 a28 l4) (fun v25 h26 => gR h26 (some l0) 7 2 (fun v31 => rcv h26 v31 6 (fun a35 => cal (f_X6_putFour h26 a35 l5) (fun v32 h33 => gR h33 (some l0) 7 2 (fun v38 => gI h33 v38 6 1 (fun v39 => some (v39, h33)))))))))))))))))) else some ((-1), h)))
set_option maxRecDepth 100000 in
set_option maxHeartbeats 4000000 in
theorem c_X7_feed {l : Launch} {D : RG} {b : Nat} {h : AH} {l0 : Nat} {l1 : Int32} {l2 : Int32} {l3 : Int32} {l4 : Int32} {l5 : Int32} {vv : Int32} {hh : AH} (hf : f_X7_feed h l0 l1 l2 l3 l4 l5 = some (vv, hh)) : Met l yX7_feed (Cond.code yX7_feed cX7_feed 6 (some .int) :: wsL_law) ({ frames := 2, cells := 0, slots := 0, locals := 42 } : Room) (va_Pc [.ref l0, .int l1, .int l2, .int l3, .int l4, .int l5] (r_I D b h)) (r_Q D b (some (.int vv)) hh) 0 0 (fun q => b ≤ q) := by
  refine r_ofW (own := RX7) rfl (by decide +kernel) (by simp [lg_sl, va_cat, cat_i, cat_r, cat_l]) ?_
  intro p e s m args below meth c ls X B hr hk hn hl
  have hl : lv_has ls 6 [(0, .ref l0), (1, .int l1), (2, .int l2), (3, .int l3), (4, .int l4), (5, .int l5)] := by simpa [lv_args, va_cat, cat_i, cat_r, cat_l] using hl
  have hl : lv_has ls 6 [(0, va_rf (some l0)), (1, .int l1), (2, .int l2), (3, .int l3), (4, .int l4), (5, .int l5)] := hl
  obtain ⟨⟨hx, hb, hml, hown, hts⟩, -⟩ := id X
  generalize s.heap = H at B ⊢
  generalize ([] : List Loc) = locs at B ⊢
  unfold f_X7_feed at hf
  refine r_aload_n hx hb dX7_feed_0 rfl (lv_at hl 0 rfl) ?_
  refine r_gR X B hf fX7_2 (fun _ _ => rfl) m_21 dX7_feed_1 (fun v1 hf => ?_)
  refine r_gI X B hf fX6_1 (fun _ _ => rfl) m_274 dX7_feed_4 (fun v2 hf => ?_)
  refine lv_bipush (v := 20) hx hb dX7_feed_7 (by decide) ?_
  refine lv_iadd hx hb dX7_feed_9 ?_
  refine lv_sipush (v := 300) hx hb dX7_feed_10 (by decide) ?_
  refine lv_icmp_le (tgt := 18) hx hb dX7_feed_13 (by decide) (fun q_ => ?_) (fun q_ => ?_)
  · have hf := (r_ite hf).1 q_
    refine r_aload_n hx hb dX7_feed_18 rfl (lv_at hl 0 rfl) ?_
    refine r_gR X B hf fX7_2 (fun _ _ => rfl) m_21 dX7_feed_19 (fun v3 hf => ?_)
    refine lv_iload_n hx hb dX7_feed_22 rfl (lv_at hl 1 rfl) ?_
    refine rcv_inv hf ?_
    intro a7 e8 s9 hf
    refine cal_inv hf ?_
    intro v4 h5 e6 hf
    refine r_call B (va_runV (As := [.int l1]) (rest := []) X.1 (c_X6_putFour (l := l) (D := D) (b := b) e6) (r_cwV X rfl m_275 m_276 m_277 m_20 m_278 rfl rfl hd_X6_putFour ⟨Nat.le_of_ble_eq_true rfl, Nat.le_of_ble_eq_true rfl⟩) (r_preV X B s9 rfl [.int l1]) rfl rfl hl.1 (by rw [e8]; rfl) (lv_room (by simp [va_cat, cat_i, cat_r, cat_l])) dX7_feed_23 ⟨Nat.zero_le _, Nat.zero_le _⟩) ?_
    intro H locs B
    refine W.cs (cells' := 0) (slots' := 0) rfl rfl (W.eq (g2 := F0 m 26 ls []) rfl ?_)
    refine r_aload_n hx hb dX7_feed_26 rfl (lv_at hl 0 rfl) ?_
    refine r_gR X B hf fX7_2 (fun _ _ => rfl) m_21 dX7_feed_27 (fun v10 hf => ?_)
    refine lv_iload_n hx hb dX7_feed_30 rfl (lv_at hl 2 rfl) ?_
    refine rcv_inv hf ?_
    intro a14 e15 s16 hf
    refine cal_inv hf ?_
    intro v11 h12 e13 hf
    refine r_call B (va_runV (As := [.int l2]) (rest := []) X.1 (c_X6_putFour (l := l) (D := D) (b := b) e13) (r_cwV X rfl m_275 m_276 m_277 m_20 m_278 rfl rfl hd_X6_putFour ⟨Nat.le_of_ble_eq_true rfl, Nat.le_of_ble_eq_true rfl⟩) (r_preV X B s16 rfl [.int l2]) rfl rfl hl.1 (by rw [e15]; rfl) (lv_room (by simp [va_cat, cat_i, cat_r, cat_l])) dX7_feed_31 ⟨Nat.zero_le _, Nat.zero_le _⟩) ?_
    intro H locs B
    refine W.cs (cells' := 0) (slots' := 0) rfl rfl (W.eq (g2 := F0 m 34 ls []) rfl ?_)
    refine r_aload_n hx hb dX7_feed_34 rfl (lv_at hl 0 rfl) ?_
    refine r_gR X B hf fX7_2 (fun _ _ => rfl) m_21 dX7_feed_35 (fun v17 hf => ?_)
    refine lv_iload_n hx hb dX7_feed_38 rfl (lv_at hl 3 rfl) ?_
    refine rcv_inv hf ?_
    intro a21 e22 s23 hf
    refine cal_inv hf ?_
    intro v18 h19 e20 hf
    refine r_call B (va_runV (As := [.int l3]) (rest := []) X.1 (c_X6_putFour (l := l) (D := D) (b := b) e20) (r_cwV X rfl m_275 m_276 m_277 m_20 m_278 rfl rfl hd_X6_putFour ⟨Nat.le_of_ble_eq_true rfl, Nat.le_of_ble_eq_true rfl⟩) (r_preV X B s23 rfl [.int l3]) rfl rfl hl.1 (by rw [e22]; rfl) (lv_room (by simp [va_cat, cat_i, cat_r, cat_l])) dX7_feed_39 ⟨Nat.zero_le _, Nat.zero_le _⟩) ?_
    intro H locs B
    refine W.cs (cells' := 0) (slots' := 0) rfl rfl (W.eq (g2 := F0 m 42 ls []) rfl ?_)
    refine r_aload_n hx hb dX7_feed_42 rfl (lv_at hl 0 rfl) ?_
    refine r_gR X B hf fX7_2 (fun _ _ => rfl) m_21 dX7_feed_43 (fun v24 hf => ?_)
    refine lv_iload hx hb dX7_feed_46 (lv_at hl 4 rfl) ?_
    refine rcv_inv hf ?_
    intro a28 e29 s30 hf
    refine cal_inv hf ?_
    intro v25 h26 e27 hf
    refine r_call B (va_runV (As := [.int l4]) (rest := []) X.1 (c_X6_putFour (l := l) (D := D) (b := b) e27) (r_cwV X rfl m_275 m_276 m_277 m_20 m_278 rfl rfl hd_X6_putFour ⟨Nat.le_of_ble_eq_true rfl, Nat.le_of_ble_eq_true rfl⟩) (r_preV X B s30 rfl [.int l4]) rfl rfl hl.1 (by rw [e29]; rfl) (lv_room (by simp [va_cat, cat_i, cat_r, cat_l])) dX7_feed_48 ⟨Nat.zero_le _, Nat.zero_le _⟩) ?_
    intro H locs B
    refine W.cs (cells' := 0) (slots' := 0) rfl rfl (W.eq (g2 := F0 m 51 ls []) rfl ?_)
    refine r_aload_n hx hb dX7_feed_51 rfl (lv_at hl 0 rfl) ?_
    refine r_gR X B hf fX7_2 (fun _ _ => rfl) m_21 dX7_feed_52 (fun v31 hf => ?_)
    refine lv_iload hx hb dX7_feed_55 (lv_at hl 5 rfl) ?_
    refine rcv_inv hf ?_
    intro a35 e36 s37 hf
    refine cal_inv hf ?_
    intro v32 h33 e34 hf
    refine r_call B (va_runV (As := [.int l5]) (rest := []) X.1 (c_X6_putFour (l := l) (D := D) (b := b) e34) (r_cwV X rfl m_275 m_276 m_277 m_20 m_278 rfl rfl hd_X6_putFour ⟨Nat.le_of_ble_eq_true rfl, Nat.le_of_ble_eq_true rfl⟩) (r_preV X B s37 rfl [.int l5]) rfl rfl hl.1 (by rw [e36]; rfl) (lv_room (by simp [va_cat, cat_i, cat_r, cat_l])) dX7_feed_57 ⟨Nat.zero_le _, Nat.zero_le _⟩) ?_
    intro H locs B
    refine W.cs (cells' := 0) (slots' := 0) rfl rfl (W.eq (g2 := F0 m 60 ls []) rfl ?_)
    refine r_aload_n hx hb dX7_feed_60 rfl (lv_at hl 0 rfl) ?_
    refine r_gR X B hf fX7_2 (fun _ _ => rfl) m_21 dX7_feed_61 (fun v38 hf => ?_)
    refine r_gI X B hf fX6_1 (fun _ _ => rfl) m_274 dX7_feed_64 (fun v39 hf => ?_)
    exact r_iret X B hr hk hf dX7_feed_67
  · have hf := (r_ite hf).2 q_
    refine lv_iconst (v := (-1)) hx hb dX7_feed_16 (by decide) ?_
    exact r_iret X B hr hk hf dX7_feed_17
def f_X7_fieldAt_23 (h : AH) (s0 : Option Nat) : Option (Option Nat × AH) := some (s0, h)
def f_X7_fieldAt_22 (h : AH)  : Option (Option Nat × AH) := f_X7_fieldAt_23 h none
def f_X7_fieldAt (h : AH) (l0 : Nat) (l1 : Int32) : Option (Option Nat × AH) := if l1 < 0 then f_X7_fieldAt_22 h else gR h (some l0) 7 1 (fun v1 => aL (.object RX1) h v1 (fun v2 => if v2 ≤ l1 then f_X7_fieldAt_22 h else gR h (some l0) 7 1 (fun v3 => aR (.object RX1) h v3 l1 (fun v4 => f_X7_fieldAt_23 h v4))))
set_option maxRecDepth 100000 in
set_option maxHeartbeats 4000000 in
theorem t_X7_fieldAt_23 {p : Program} {l : Launch} {e : Env} {s : State} {m : MethodId} {args : Array Value} {below : List Frame} {meth : Method} {c : Code} {D : RG} {b : Nat} {vv : Option Nat} {hh : AH} (X : r_C p c cX7_fieldAt 2 s m args RX7 D b) (hr : meth.sig.returnType = (some (.object RX1))) (hk : meth.locks = false) (hn : meth.name = "fieldAt") {h : AH} {H : Heap} {locs : List Loc} {ls : Array Slot} {s0 : Option Nat} (B : r_B D b s h H locs) (hl : lv_has ls 2 []) (hf : f_X7_fieldAt_23 h s0 = some (vv, hh)) : W p l e ({ frames := 0, cells := 0, slots := 0, locals := 0 } : Room) s m args below meth c H locs 0 0 (MQ below (r_Q D b (some (va_rf vv)) hh) args s 0 0 (fun q => b ≤ q)) (F0 m 23 ls [va_rf s0]) := by
  obtain ⟨⟨hx, hb, hml, hown, hts⟩, -⟩ := id X
  unfold f_X7_fieldAt_23 at hf
  exact r_aret X B hr hk hf dX7_fieldAt_23
set_option maxRecDepth 100000 in
set_option maxHeartbeats 4000000 in
theorem t_X7_fieldAt_22 {p : Program} {l : Launch} {e : Env} {s : State} {m : MethodId} {args : Array Value} {below : List Frame} {meth : Method} {c : Code} {D : RG} {b : Nat} {vv : Option Nat} {hh : AH} (X : r_C p c cX7_fieldAt 2 s m args RX7 D b) (hr : meth.sig.returnType = (some (.object RX1))) (hk : meth.locks = false) (hn : meth.name = "fieldAt") {h : AH} {H : Heap} {locs : List Loc} {ls : Array Slot}  (B : r_B D b s h H locs) (hl : lv_has ls 2 []) (hf : f_X7_fieldAt_22 h  = some (vv, hh)) : W p l e ({ frames := 0, cells := 0, slots := 0, locals := 0 } : Room) s m args below meth c H locs 0 0 (MQ below (r_Q D b (some (va_rf vv)) hh) args s 0 0 (fun q => b ≤ q)) (F0 m 22 ls []) := by
  obtain ⟨⟨hx, hb, hml, hown, hts⟩, -⟩ := id X
  unfold f_X7_fieldAt_22 at hf
  refine r_null hx hb dX7_fieldAt_22 ?_
  exact t_X7_fieldAt_23 X hr hk hn  B (lv_sub hl [] rfl) hf
set_option maxRecDepth 100000 in
set_option maxHeartbeats 4000000 in
theorem c_X7_fieldAt {l : Launch} {D : RG} {b : Nat} {h : AH} {l0 : Nat} {l1 : Int32} {vv : Option Nat} {hh : AH} (hf : f_X7_fieldAt h l0 l1 = some (vv, hh)) : Met l yX7_fieldAt (Cond.code yX7_fieldAt cX7_fieldAt 2 (some (.object RX1)) :: wsL_law) ({ frames := 0, cells := 0, slots := 0, locals := 0 } : Room) (va_Pc [.ref l0, .int l1] (r_I D b h)) (r_Q D b (some (va_rf vv)) hh) 0 0 (fun q => b ≤ q) := by
  refine r_ofW (own := RX7) rfl (by decide +kernel) (by simp [lg_sl, va_cat, cat_i, cat_r, cat_l]) ?_
  intro p e s m args below meth c ls X B hr hk hn hl
  have hl : lv_has ls 2 [(0, .ref l0), (1, .int l1)] := by simpa [lv_args, va_cat, cat_i, cat_r, cat_l] using hl
  have hl : lv_has ls 2 [(0, va_rf (some l0)), (1, .int l1)] := hl
  obtain ⟨⟨hx, hb, hml, hown, hts⟩, -⟩ := id X
  generalize s.heap = H at B ⊢
  generalize ([] : List Loc) = locs at B ⊢
  unfold f_X7_fieldAt at hf
  refine lv_iload_n hx hb dX7_fieldAt_0 rfl (lv_at hl 1 rfl) ?_
  refine lv_if_lt (tgt := 22) hx hb dX7_fieldAt_1 (by decide) (fun q_ => ?_) (fun q_ => ?_)
  · have hf := (r_ite hf).1 q_
    exact t_X7_fieldAt_22 X hr hk hn  B (lv_sub hl [] rfl) hf
  · have hf := (r_ite hf).2 q_
    refine lv_iload_n hx hb dX7_fieldAt_4 rfl (lv_at hl 1 rfl) ?_
    refine r_aload_n hx hb dX7_fieldAt_5 rfl (lv_at hl 0 rfl) ?_
    refine r_gR X B hf fX7_1 (fun _ _ => rfl) m_17 dX7_fieldAt_6 (fun v1 hf => ?_)
    refine r_aL X B hf (by decide) dX7_fieldAt_9 (fun v2 hf => ?_)
    refine lv_icmp_ge (tgt := 22) hx hb dX7_fieldAt_10 (by decide) (fun q_ => ?_) (fun q_ => ?_)
    · have hf := (r_ite hf).1 q_
      exact t_X7_fieldAt_22 X hr hk hn  B (lv_sub hl [] rfl) hf
    · have hf := (r_ite hf).2 q_
      refine r_aload_n hx hb dX7_fieldAt_13 rfl (lv_at hl 0 rfl) ?_
      refine r_gR X B hf fX7_1 (fun _ _ => rfl) m_17 dX7_fieldAt_14 (fun v3 hf => ?_)
      refine lv_iload_n hx hb dX7_fieldAt_17 rfl (lv_at hl 1 rfl) ?_
      refine r_aR X B hf (by decide) dX7_fieldAt_18 (fun v4 hf => ?_)
      refine lv_goto (tgt := 23) hx hb dX7_fieldAt_19 (by decide) ?_
      exact t_X7_fieldAt_23 X hr hk hn  B (lv_sub hl [] rfl) hf
def f_X7_orderAnew_71 (k_27 : AH → Nat → Int32 → Option (Unit × AH)) (h : AH) (l0 : Nat) (l1 : Int32) : Option (Unit × AH) := bd (l1 + 1) (fun v1 => k_27 h l0 v1)
def f_X7_orderAnew_57 (k_27 : AH → Nat → Int32 → Option (Unit × AH)) (h : AH) (l0 : Nat) (l1 : Int32) (l2 : Option Nat) (s0 : Option Nat) : Option (Unit × AH) := nul s0 (f_X7_orderAnew_71 k_27 h l0 l1) (gR h (some l0) 7 3 (fun v2 => rcv h s0 5 (fun a6 => cal (f_X5_putInOrder h a6 l2 v2) (fun v3 h4 => f_X7_orderAnew_71 k_27 h4 l0 l1))))
def f_X7_orderAnew_27 : Nat → AH → Nat → Int32 → Option (Unit × AH)
  | 0, _, _, _ => none
  | n + 1, h, l0, l1 => gI h (some l0) 7 7 (fun v9 => if v9 ≤ l1 then some ((), h) else rcv h (some l0) 7 (fun a13 => cal (f_X7_fieldAt h a13 l1) (fun v10 h11 => nul v10 (f_X7_orderAnew_57 (f_X7_orderAnew_27 n) h11 l0 l1 v10 none) (gI h11 v10 1 1 (fun v16 => rcv h11 (some l0) 7 (fun a20 => cal (f_X7_tankAt h11 a20 v16) (fun v17 h18 => f_X7_orderAnew_57 (f_X7_orderAnew_27 n) h18 l0 l1 v10 v17)))))))
def f_X7_orderAnew_8 : Nat → AH → Nat → Option Nat → Option (Unit × AH)
  | 0, _, _, _ => none
  | n + 1, h, l0, l1 => nul l1 (f_X7_orderAnew_27 FU h l0 0) (pR h l1 5 9 none (fun h23 => gR h23 l1 5 1 (fun v24 => f_X7_orderAnew_8 n h23 l0 v24)))
def f_X7_orderAnew (h : AH) (l0 : Nat) : Option (Unit × AH) := gR h (some l0) 7 5 (fun v25 => gR h v25 2 0 (fun v26 => f_X7_orderAnew_8 FU h l0 v26))
set_option maxRecDepth 100000 in
set_option maxHeartbeats 4000000 in
theorem t_X7_orderAnew_71 {p : Program} {l : Launch} {e : Env} {s : State} {m : MethodId} {args : Array Value} {below : List Frame} {meth : Method} {c : Code} {D : RG} {b : Nat} {vv : Unit} {hh : AH} (X : r_C p c cX7_orderAnew 4 s m args RX7 D b) (hr : meth.sig.returnType = none) (hk : meth.locks = false) (hn : meth.name = "orderAnew") {k_27 : AH → Nat → Int32 → Option (Unit × AH)} (r_27 : ∀ (h : AH) (H : Heap) (locs : List Loc) (ls : Array Slot) (l0 : Nat) (l1 : Int32), r_B D b s h H locs → lv_has ls 4 [(0, va_rf (some l0)), (1, .int l1)] → k_27 h l0 l1 = some (vv, hh) → W p l e ({ frames := 3, cells := 0, slots := 0, locals := 69 } : Room) s m args below meth c H locs 0 0 (MQ below (r_Q D b none hh) args s 0 0 (fun q => b ≤ q)) (F0 m 27 ls [])) {h : AH} {H : Heap} {locs : List Loc} {ls : Array Slot} {l0 : Nat} {l1 : Int32} (B : r_B D b s h H locs) (hl : lv_has ls 4 [(0, va_rf (some l0)), (1, .int l1)]) (hf : f_X7_orderAnew_71 k_27 h l0 l1 = some (vv, hh)) : W p l e ({ frames := 3, cells := 0, slots := 0, locals := 69 } : Room) s m args below meth c H locs 0 0 (MQ below (r_Q D b none hh) args s 0 0 (fun q => b ≤ q)) (F0 m 71 ls []) := by
  obtain ⟨⟨hx, hb, hml, hown, hts⟩, -⟩ := id X
  unfold f_X7_orderAnew_71 at hf
  refine r_iinc (lv' := fun v1 => [(1, .int v1), (0, va_rf (some l0))]) hx hb hf dX7_orderAnew_71 hl (k := 1) rfl (by decide) (by decide) (fun v => by first | rfl | simp [va_cat, cat_i, cat_r, cat_l]) (fun v1 ls hl hf => ?_)
  refine lv_goto (tgt := 27) hx hb dX7_orderAnew_74 (by decide) ?_
  exact r_27 _ _ _ _ _ _ B (lv_sub hl [1, 0] rfl) hf
set_option maxRecDepth 100000 in
set_option maxHeartbeats 4000000 in
theorem t_X7_orderAnew_57 {p : Program} {l : Launch} {e : Env} {s : State} {m : MethodId} {args : Array Value} {below : List Frame} {meth : Method} {c : Code} {D : RG} {b : Nat} {vv : Unit} {hh : AH} (X : r_C p c cX7_orderAnew 4 s m args RX7 D b) (hr : meth.sig.returnType = none) (hk : meth.locks = false) (hn : meth.name = "orderAnew") {k_27 : AH → Nat → Int32 → Option (Unit × AH)} (r_27 : ∀ (h : AH) (H : Heap) (locs : List Loc) (ls : Array Slot) (l0 : Nat) (l1 : Int32), r_B D b s h H locs → lv_has ls 4 [(0, va_rf (some l0)), (1, .int l1)] → k_27 h l0 l1 = some (vv, hh) → W p l e ({ frames := 3, cells := 0, slots := 0, locals := 69 } : Room) s m args below meth c H locs 0 0 (MQ below (r_Q D b none hh) args s 0 0 (fun q => b ≤ q)) (F0 m 27 ls [])) {h : AH} {H : Heap} {locs : List Loc} {ls : Array Slot} {l0 : Nat} {l1 : Int32} {l2 : Option Nat} {s0 : Option Nat} (B : r_B D b s h H locs) (hl : lv_has ls 4 [(0, va_rf (some l0)), (1, .int l1), (2, va_rf l2)]) (hf : f_X7_orderAnew_57 k_27 h l0 l1 l2 s0 = some (vv, hh)) : W p l e ({ frames := 3, cells := 0, slots := 0, locals := 69 } : Room) s m args below meth c H locs 0 0 (MQ below (r_Q D b none hh) args s 0 0 (fun q => b ≤ q)) (F0 m 57 ls [va_rf s0]) := by
  obtain ⟨⟨hx, hb, hml, hown, hts⟩, -⟩ := id X
  unfold f_X7_orderAnew_57 at hf
  refine r_astore_n (i := 3) (lv' := [(3, va_rf s0), (0, va_rf (some l0)), (1, .int l1), (2, va_rf l2)]) hx hb dX7_orderAnew_57 rfl hl (by decide) (by first | rfl | simp [va_cat, cat_i, cat_r, cat_l]) (fun ls hl => ?_)
  refine r_aload_n hx hb dX7_orderAnew_58 rfl (lv_at hl 0 rfl) ?_
  refine r_ifnull (tgt := 71) hx hb hf dX7_orderAnew_59 (by decide) (fun hf e_ => ?_) (fun hf e_ => ?_)
  · exact t_X7_orderAnew_71 X hr hk hn r_27 B (lv_sub hl [1, 2] rfl) hf
  · refine r_aload_n hx hb dX7_orderAnew_62 rfl (lv_at hl 0 rfl) ?_
    refine r_aload_n hx hb dX7_orderAnew_63 rfl (lv_at hl 3 rfl) ?_
    refine r_aload_n hx hb dX7_orderAnew_64 rfl (lv_at hl 1 rfl) ?_
    refine r_gR X B hf fX7_3 (fun _ _ => rfl) m_25 dX7_orderAnew_65 (fun v2 hf => ?_)
    refine rcv_inv hf ?_
    intro a6 e7 s8 hf
    refine cal_inv hf ?_
    intro v3 h4 e5 hf
    refine r_call B (va_runV (As := [va_rf l2, va_rf v2]) (rest := []) X.1 (c_X5_putInOrder (l := l) (D := D) (b := b) e5) (r_cwV X rfl m_223 m_224 m_225 m_49 m_226 rfl rfl hd_X5_putInOrder ⟨Nat.le_of_ble_eq_true rfl, Nat.le_of_ble_eq_true rfl⟩) (r_preV X B s8 rfl [va_rf l2, va_rf v2]) rfl rfl hl.1 (by rw [e7]; rfl) (lv_room (by simp [va_cat, cat_i, cat_r, cat_l])) dX7_orderAnew_68 ⟨Nat.zero_le _, Nat.zero_le _⟩) ?_
    intro H locs B
    refine W.cs (cells' := 0) (slots' := 0) rfl rfl (W.eq (g2 := F0 m 71 ls []) rfl ?_)
    exact t_X7_orderAnew_71 X hr hk hn r_27 B (lv_sub hl [1, 2] rfl) hf
set_option maxRecDepth 100000 in
set_option maxHeartbeats 4000000 in
theorem t_X7_orderAnew_27 {p : Program} {l : Launch} {e : Env} {s : State} {m : MethodId} {args : Array Value} {below : List Frame} {meth : Method} {c : Code} {D : RG} {b : Nat} {vv : Unit} {hh : AH} (X : r_C p c cX7_orderAnew 4 s m args RX7 D b) (hr : meth.sig.returnType = none) (hk : meth.locks = false) (hn : meth.name = "orderAnew") : ∀ (n : Nat) (h : AH) (H : Heap) (locs : List Loc) (ls : Array Slot) (l0 : Nat) (l1 : Int32), r_B D b s h H locs → lv_has ls 4 [(0, va_rf (some l0)), (1, .int l1)] → f_X7_orderAnew_27 n h l0 l1 = some (vv, hh) → W p l e ({ frames := 3, cells := 0, slots := 0, locals := 69 } : Room) s m args below meth c H locs 0 0 (MQ below (r_Q D b none hh) args s 0 0 (fun q => b ≤ q)) (F0 m 27 ls []) := by
  obtain ⟨⟨hx, hb, hml, hown, hts⟩, -⟩ := id X
  intro n
  induction n with
  | zero =>
    intro h H locs ls l0 l1 B hl hf
    cases hf
  | succ n ih =>
    intro h H locs ls l0 l1 B hl hf
    unfold f_X7_orderAnew_27 at hf
    refine lv_iload_n hx hb dX7_orderAnew_27 rfl (lv_at hl 1 rfl) ?_
    refine r_aload_n hx hb dX7_orderAnew_28 rfl (lv_at hl 0 rfl) ?_
    refine r_gI X B hf fX7_7 (fun _ _ => rfl) m_31 dX7_orderAnew_29 (fun v9 hf => ?_)
    refine lv_icmp_ge (tgt := 77) hx hb dX7_orderAnew_32 (by decide) (fun q_ => ?_) (fun q_ => ?_)
    · have hf := (r_ite hf).1 q_
      exact r_vret X B hr hk hf dX7_orderAnew_77
    · have hf := (r_ite hf).2 q_
      refine r_aload_n hx hb dX7_orderAnew_35 rfl (lv_at hl 0 rfl) ?_
      refine lv_iload_n hx hb dX7_orderAnew_36 rfl (lv_at hl 1 rfl) ?_
      refine rcv_inv hf ?_
      intro a13 e14 s15 hf
      refine cal_inv hf ?_
      intro v10 h11 e12 hf
      refine r_call B (va_runV (As := [.int l1]) (rest := []) X.1 (c_X7_fieldAt (l := l) (D := D) (b := b) e12) (r_cwV X rfl m_409 m_410 m_411 m_2 m_412 rfl rfl hd_X7_fieldAt ⟨Nat.le_of_ble_eq_true rfl, Nat.le_of_ble_eq_true rfl⟩) (r_preV X B s15 rfl [.int l1]) rfl rfl hl.1 (by rw [e14]; rfl) (lv_room (by simp [va_cat, cat_i, cat_r, cat_l])) dX7_orderAnew_37 ⟨Nat.zero_le _, Nat.zero_le _⟩) ?_
      intro H locs B
      refine W.cs (cells' := 0) (slots' := 0) rfl rfl (W.eq (g2 := F0 m 40 ls [va_rf v10]) rfl ?_)
      refine r_astore_n (i := 2) (lv' := [(2, va_rf v10), (0, va_rf (some l0)), (1, .int l1)]) hx hb dX7_orderAnew_40 rfl hl (by decide) (by first | rfl | simp [va_cat, cat_i, cat_r, cat_l]) (fun ls hl => ?_)
      refine r_aload_n hx hb dX7_orderAnew_41 rfl (lv_at hl 0 rfl) ?_
      refine r_ifnonnull (tgt := 49) hx hb hf dX7_orderAnew_42 (by decide) (fun hf e_ => ?_) (fun hf e_ => ?_)
      · refine r_null hx hb dX7_orderAnew_45 ?_
        refine lv_goto (tgt := 57) hx hb dX7_orderAnew_46 (by decide) ?_
        exact t_X7_orderAnew_57 X hr hk hn ih B (lv_sub hl [1, 2, 0] rfl) hf
      · refine r_aload_n hx hb dX7_orderAnew_49 rfl (lv_at hl 1 rfl) ?_
        refine r_aload_n hx hb dX7_orderAnew_50 rfl (lv_at hl 0 rfl) ?_
        refine r_gI X B hf fX1_1 (fun _ _ => rfl) m_408 dX7_orderAnew_51 (fun v16 hf => ?_)
        refine rcv_inv hf ?_
        intro a20 e21 s22 hf
        refine cal_inv hf ?_
        intro v17 h18 e19 hf
        refine r_call B (va_runV (As := [.int v16]) (rest := []) X.1 (c_X7_tankAt (l := l) (D := D) (b := b) e19) (r_cwV X rfl m_162 m_163 m_164 m_2 m_165 rfl rfl hd_X7_tankAt ⟨Nat.le_of_ble_eq_true rfl, Nat.le_of_ble_eq_true rfl⟩) (r_preV X B s22 rfl [.int v16]) rfl rfl hl.1 (by rw [e21]; rfl) (lv_room (by simp [va_cat, cat_i, cat_r, cat_l])) dX7_orderAnew_54 ⟨Nat.zero_le _, Nat.zero_le _⟩) ?_
        intro H locs B
        refine W.cs (cells' := 0) (slots' := 0) rfl rfl (W.eq (g2 := F0 m 57 ls [va_rf v17]) rfl ?_)
        exact t_X7_orderAnew_57 X hr hk hn ih B (lv_sub hl [1, 2, 0] rfl) hf
set_option maxRecDepth 100000 in
set_option maxHeartbeats 4000000 in
theorem t_X7_orderAnew_8 {p : Program} {l : Launch} {e : Env} {s : State} {m : MethodId} {args : Array Value} {below : List Frame} {meth : Method} {c : Code} {D : RG} {b : Nat} {vv : Unit} {hh : AH} (X : r_C p c cX7_orderAnew 4 s m args RX7 D b) (hr : meth.sig.returnType = none) (hk : meth.locks = false) (hn : meth.name = "orderAnew") : ∀ (n : Nat) (h : AH) (H : Heap) (locs : List Loc) (ls : Array Slot) (l0 : Nat) (l1 : Option Nat), r_B D b s h H locs → lv_has ls 4 [(0, va_rf (some l0)), (1, va_rf l1)] → f_X7_orderAnew_8 n h l0 l1 = some (vv, hh) → W p l e ({ frames := 3, cells := 0, slots := 0, locals := 69 } : Room) s m args below meth c H locs 0 0 (MQ below (r_Q D b none hh) args s 0 0 (fun q => b ≤ q)) (F0 m 8 ls []) := by
  obtain ⟨⟨hx, hb, hml, hown, hts⟩, -⟩ := id X
  intro n
  induction n with
  | zero =>
    intro h H locs ls l0 l1 B hl hf
    cases hf
  | succ n ih =>
    intro h H locs ls l0 l1 B hl hf
    unfold f_X7_orderAnew_8 at hf
    refine r_aload_n hx hb dX7_orderAnew_8 rfl (lv_at hl 1 rfl) ?_
    refine r_ifnull (tgt := 25) hx hb hf dX7_orderAnew_9 (by decide) (fun hf e_ => ?_) (fun hf e_ => ?_)
    · refine lv_iconst (v := 0) hx hb dX7_orderAnew_25 (by decide) ?_
      refine lv_istore_n (i := 1) (lv' := [(1, .int 0), (0, va_rf (some l0))]) hx hb dX7_orderAnew_26 rfl hl (by decide) (by first | rfl | simp [va_cat, cat_i, cat_r, cat_l]) (fun ls hl => ?_)
      exact t_X7_orderAnew_27 X hr hk hn  _ _ _ _ _ _ _ B (lv_sub hl [1, 0] rfl) hf
    · refine r_aload_n hx hb dX7_orderAnew_12 rfl (lv_at hl 1 rfl) ?_
      refine r_null hx hb dX7_orderAnew_13 ?_
      refine r_pR X B hf fX5_9 rfl (Or.inl rfl) m_406 dX7_orderAnew_14 (fun h23 H locs B hf => ?_)
      refine r_aload_n hx hb dX7_orderAnew_17 rfl (lv_at hl 1 rfl) ?_
      refine r_gR X B hf fX5_1 (fun _ _ => rfl) m_407 dX7_orderAnew_18 (fun v24 hf => ?_)
      refine r_astore_n (i := 1) (lv' := [(1, va_rf v24), (0, va_rf (some l0))]) hx hb dX7_orderAnew_21 rfl hl (by decide) (by first | rfl | simp [va_cat, cat_i, cat_r, cat_l]) (fun ls hl => ?_)
      refine lv_goto (tgt := 8) hx hb dX7_orderAnew_22 (by decide) ?_
      exact ih _ _ _ _ _ _ B (lv_sub hl [1, 0] rfl) hf
set_option maxRecDepth 100000 in
set_option maxHeartbeats 4000000 in
theorem c_X7_orderAnew {l : Launch} {D : RG} {b : Nat} {h : AH} {l0 : Nat} {vv : Unit} {hh : AH} (hf : f_X7_orderAnew h l0 = some (vv, hh)) : Met l yX7_orderAnew (Cond.code yX7_orderAnew cX7_orderAnew 4 none :: wsL_law) ({ frames := 3, cells := 0, slots := 0, locals := 69 } : Room) (va_Pc [.ref l0] (r_I D b h)) (r_Q D b none hh) 0 0 (fun q => b ≤ q) := by
  refine r_ofW (own := RX7) rfl (by decide +kernel) (by simp [lg_sl, va_cat, cat_i, cat_r, cat_l]) ?_
  intro p e s m args below meth c ls X B hr hk hn hl
  have hl : lv_has ls 4 [(0, .ref l0)] := by simpa [lv_args, va_cat, cat_i, cat_r, cat_l] using hl
  have hl : lv_has ls 4 [(0, va_rf (some l0))] := hl
  obtain ⟨⟨hx, hb, hml, hown, hts⟩, -⟩ := id X
  generalize s.heap = H at B ⊢
  generalize ([] : List Loc) = locs at B ⊢
  unfold f_X7_orderAnew at hf
  refine r_aload_n hx hb dX7_orderAnew_0 rfl (lv_at hl 0 rfl) ?_
  refine r_gR X B hf fX7_5 (fun _ _ => rfl) m_53 dX7_orderAnew_1 (fun v25 hf => ?_)
  refine r_gR X B hf fX2_0 (fun _ _ => rfl) m_405 dX7_orderAnew_4 (fun v26 hf => ?_)
  refine r_astore_n (i := 1) (lv' := [(1, va_rf v26), (0, va_rf (some l0))]) hx hb dX7_orderAnew_7 rfl hl (by decide) (by first | rfl | simp [va_cat, cat_i, cat_r, cat_l]) (fun ls hl => ?_)
  exact t_X7_orderAnew_8 X hr hk hn  _ _ _ _ _ _ _ B (lv_sub hl [1, 0] rfl) hf
