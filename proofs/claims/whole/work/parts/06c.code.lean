def f_X6_isLetter_17 (h : AH) (s0 : Int32) : Option (Int32 × AH) := rZ s0 h
def f_X6_isLetter_16 (h : AH)  : Option (Int32 × AH) := f_X6_isLetter_17 h 0
def f_X6_isLetter (h : AH) (l0 : Int32) : Option (Int32 × AH) := if l0 < 97 then f_X6_isLetter_16 h else if 122 < l0 then f_X6_isLetter_16 h else f_X6_isLetter_17 h 1
set_option maxRecDepth 100000 in
set_option maxHeartbeats 4000000 in
theorem t_X6_isLetter_17 {p : Program} {l : Launch} {e : Env} {s : State} {m : MethodId} {args : Array Value} {below : List Frame} {meth : Method} {c : Code} {D : RG} {b : Nat} {vv : Int32} {hh : AH} (X : r_C p c cX6_isLetter 1 s m args RX6 D b) (hr : meth.sig.returnType = (some .boolean)) (hk : meth.locks = false) (hn : meth.name = "isLetter") {h : AH} {H : Heap} {locs : List Loc} {ls : Array Slot} {s0 : Int32} (B : r_B D b s h H locs) (hl : lv_has ls 1 []) (hf : f_X6_isLetter_17 h s0 = some (vv, hh)) : W p l e ({ frames := 0, cells := 0, slots := 0, locals := 0 } : Room) s m args below meth c H locs 0 0 (MQ below (r_Q D b (some (.int vv)) hh) args s 0 0 (fun q => b ≤ q)) (F0 m 17 ls [.int s0]) := by
  obtain ⟨⟨hx, hb, hml, hown, hts⟩, -⟩ := id X
  unfold f_X6_isLetter_17 at hf
  exact r_zret X B hr hk hf dX6_isLetter_17
set_option maxRecDepth 100000 in
set_option maxHeartbeats 4000000 in
theorem t_X6_isLetter_16 {p : Program} {l : Launch} {e : Env} {s : State} {m : MethodId} {args : Array Value} {below : List Frame} {meth : Method} {c : Code} {D : RG} {b : Nat} {vv : Int32} {hh : AH} (X : r_C p c cX6_isLetter 1 s m args RX6 D b) (hr : meth.sig.returnType = (some .boolean)) (hk : meth.locks = false) (hn : meth.name = "isLetter") {h : AH} {H : Heap} {locs : List Loc} {ls : Array Slot}  (B : r_B D b s h H locs) (hl : lv_has ls 1 []) (hf : f_X6_isLetter_16 h  = some (vv, hh)) : W p l e ({ frames := 0, cells := 0, slots := 0, locals := 0 } : Room) s m args below meth c H locs 0 0 (MQ below (r_Q D b (some (.int vv)) hh) args s 0 0 (fun q => b ≤ q)) (F0 m 16 ls []) := by
  obtain ⟨⟨hx, hb, hml, hown, hts⟩, -⟩ := id X
  unfold f_X6_isLetter_16 at hf
  refine lv_iconst (v := 0) hx hb dX6_isLetter_16 (by decide) ?_
  exact t_X6_isLetter_17 X hr hk hn  B (lv_sub hl [] rfl) hf
set_option maxRecDepth 100000 in
set_option maxHeartbeats 4000000 in
theorem c_X6_isLetter {l : Launch} {D : RG} {b : Nat} {h : AH} {l0 : Int32} {vv : Int32} {hh : AH} (hf : f_X6_isLetter h l0 = some (vv, hh)) : Met l yX6_isLetter (Cond.code yX6_isLetter cX6_isLetter 1 (some .boolean) :: wsL_law) ({ frames := 0, cells := 0, slots := 0, locals := 0 } : Room) (va_Pc [.int l0] (r_I D b h)) (r_Q D b (some (.int vv)) hh) 0 0 (fun q => b ≤ q) := by
  refine r_ofW (own := RX6) rfl (by decide +kernel) (by simp [lg_sl, va_cat, cat_i, cat_r, cat_l]) ?_
  intro p e s m args below meth c ls X B hr hk hn hl
  have hl : lv_has ls 1 [(0, .int l0)] := by simpa [lv_args, va_cat, cat_i, cat_r, cat_l] using hl
  have hl : lv_has ls 1 [(0, .int l0)] := hl
  obtain ⟨⟨hx, hb, hml, hown, hts⟩, -⟩ := id X
  generalize s.heap = H at B ⊢
  generalize ([] : List Loc) = locs at B ⊢
  unfold f_X6_isLetter at hf
  refine lv_iload_n hx hb dX6_isLetter_0 rfl (lv_at hl 0 rfl) ?_
  refine lv_bipush (v := 97) hx hb dX6_isLetter_1 (by decide) ?_
  refine lv_icmp_lt (tgt := 16) hx hb dX6_isLetter_3 (by decide) (fun q_ => ?_) (fun q_ => ?_)
  · have hf := (r_ite hf).1 q_
    exact t_X6_isLetter_16 X hr hk hn  B (lv_sub hl [] rfl) hf
  · have hf := (r_ite hf).2 q_
    refine lv_iload_n hx hb dX6_isLetter_6 rfl (lv_at hl 0 rfl) ?_
    refine lv_bipush (v := 122) hx hb dX6_isLetter_7 (by decide) ?_
    refine lv_icmp_gt (tgt := 16) hx hb dX6_isLetter_9 (by decide) (fun q_ => ?_) (fun q_ => ?_)
    · have hf := (r_ite hf).1 q_
      exact t_X6_isLetter_16 X hr hk hn  B (lv_sub hl [] rfl) hf
    · have hf := (r_ite hf).2 q_
      refine lv_iconst (v := 1) hx hb dX6_isLetter_12 (by decide) ?_
      refine lv_goto (tgt := 17) hx hb dX6_isLetter_13 (by decide) ?_
      exact t_X6_isLetter_17 X hr hk hn  B (lv_sub hl [] rfl) hf
def f_X6_isDigit_17 (h : AH) (s0 : Int32) : Option (Int32 × AH) := rZ s0 h
def f_X6_isDigit_16 (h : AH)  : Option (Int32 × AH) := f_X6_isDigit_17 h 0
def f_X6_isDigit (h : AH) (l0 : Int32) : Option (Int32 × AH) := if l0 < 48 then f_X6_isDigit_16 h else if 57 < l0 then f_X6_isDigit_16 h else f_X6_isDigit_17 h 1
set_option maxRecDepth 100000 in
set_option maxHeartbeats 4000000 in
theorem t_X6_isDigit_17 {p : Program} {l : Launch} {e : Env} {s : State} {m : MethodId} {args : Array Value} {below : List Frame} {meth : Method} {c : Code} {D : RG} {b : Nat} {vv : Int32} {hh : AH} (X : r_C p c cX6_isDigit 1 s m args RX6 D b) (hr : meth.sig.returnType = (some .boolean)) (hk : meth.locks = false) (hn : meth.name = "isDigit") {h : AH} {H : Heap} {locs : List Loc} {ls : Array Slot} {s0 : Int32} (B : r_B D b s h H locs) (hl : lv_has ls 1 []) (hf : f_X6_isDigit_17 h s0 = some (vv, hh)) : W p l e ({ frames := 0, cells := 0, slots := 0, locals := 0 } : Room) s m args below meth c H locs 0 0 (MQ below (r_Q D b (some (.int vv)) hh) args s 0 0 (fun q => b ≤ q)) (F0 m 17 ls [.int s0]) := by
  obtain ⟨⟨hx, hb, hml, hown, hts⟩, -⟩ := id X
  unfold f_X6_isDigit_17 at hf
  exact r_zret X B hr hk hf dX6_isDigit_17
set_option maxRecDepth 100000 in
set_option maxHeartbeats 4000000 in
theorem t_X6_isDigit_16 {p : Program} {l : Launch} {e : Env} {s : State} {m : MethodId} {args : Array Value} {below : List Frame} {meth : Method} {c : Code} {D : RG} {b : Nat} {vv : Int32} {hh : AH} (X : r_C p c cX6_isDigit 1 s m args RX6 D b) (hr : meth.sig.returnType = (some .boolean)) (hk : meth.locks = false) (hn : meth.name = "isDigit") {h : AH} {H : Heap} {locs : List Loc} {ls : Array Slot}  (B : r_B D b s h H locs) (hl : lv_has ls 1 []) (hf : f_X6_isDigit_16 h  = some (vv, hh)) : W p l e ({ frames := 0, cells := 0, slots := 0, locals := 0 } : Room) s m args below meth c H locs 0 0 (MQ below (r_Q D b (some (.int vv)) hh) args s 0 0 (fun q => b ≤ q)) (F0 m 16 ls []) := by
  obtain ⟨⟨hx, hb, hml, hown, hts⟩, -⟩ := id X
  unfold f_X6_isDigit_16 at hf
  refine lv_iconst (v := 0) hx hb dX6_isDigit_16 (by decide) ?_
  exact t_X6_isDigit_17 X hr hk hn  B (lv_sub hl [] rfl) hf
set_option maxRecDepth 100000 in
set_option maxHeartbeats 4000000 in
theorem c_X6_isDigit {l : Launch} {D : RG} {b : Nat} {h : AH} {l0 : Int32} {vv : Int32} {hh : AH} (hf : f_X6_isDigit h l0 = some (vv, hh)) : Met l yX6_isDigit (Cond.code yX6_isDigit cX6_isDigit 1 (some .boolean) :: wsL_law) ({ frames := 0, cells := 0, slots := 0, locals := 0 } : Room) (va_Pc [.int l0] (r_I D b h)) (r_Q D b (some (.int vv)) hh) 0 0 (fun q => b ≤ q) := by
  refine r_ofW (own := RX6) rfl (by decide +kernel) (by simp [lg_sl, va_cat, cat_i, cat_r, cat_l]) ?_
  intro p e s m args below meth c ls X B hr hk hn hl
  have hl : lv_has ls 1 [(0, .int l0)] := by simpa [lv_args, va_cat, cat_i, cat_r, cat_l] using hl
  have hl : lv_has ls 1 [(0, .int l0)] := hl
  obtain ⟨⟨hx, hb, hml, hown, hts⟩, -⟩ := id X
  generalize s.heap = H at B ⊢
  generalize ([] : List Loc) = locs at B ⊢
  unfold f_X6_isDigit at hf
  refine lv_iload_n hx hb dX6_isDigit_0 rfl (lv_at hl 0 rfl) ?_
  refine lv_bipush (v := 48) hx hb dX6_isDigit_1 (by decide) ?_
  refine lv_icmp_lt (tgt := 16) hx hb dX6_isDigit_3 (by decide) (fun q_ => ?_) (fun q_ => ?_)
  · have hf := (r_ite hf).1 q_
    exact t_X6_isDigit_16 X hr hk hn  B (lv_sub hl [] rfl) hf
  · have hf := (r_ite hf).2 q_
    refine lv_iload_n hx hb dX6_isDigit_6 rfl (lv_at hl 0 rfl) ?_
    refine lv_bipush (v := 57) hx hb dX6_isDigit_7 (by decide) ?_
    refine lv_icmp_gt (tgt := 16) hx hb dX6_isDigit_9 (by decide) (fun q_ => ?_) (fun q_ => ?_)
    · have hf := (r_ite hf).1 q_
      exact t_X6_isDigit_16 X hr hk hn  B (lv_sub hl [] rfl) hf
    · have hf := (r_ite hf).2 q_
      refine lv_iconst (v := 1) hx hb dX6_isDigit_12 (by decide) ?_
      refine lv_goto (tgt := 17) hx hb dX6_isDigit_13 (by decide) ?_
      exact t_X6_isDigit_17 X hr hk hn  B (lv_sub hl [] rfl) hf
def f_X6_nextToken_219 (h : AH)  : Option (Unit × AH) := some ((), h)
def f_X6_nextToken_206 (h : AH) (l0 : Nat) (s0 : Nat) (s1 : Int32) : Option (Unit × AH) := pI h (some s0) 6 3 s1 (fun h1 => gI h1 (some l0) 6 5 (fun v2 => pI h1 (some l0) 6 5 (v2 + 1) (fun h3 => f_X6_nextToken_219 h3)))
def f_X6_nextToken_149 : Nat → AH → Nat → Option (Unit × AH)
  | 0, _, _ => none
  | n + 1, h, l0 => gI h (some l0) 6 5 (fun v4 => gI h (some l0) 6 2 (fun v5 => if v5 ≤ v4 then f_X6_nextToken_219 h else gI h (some l0) 6 5 (fun v6 => rcv h (some l0) 6 (fun a10 => cal (f_X6_byteAt h a10 v6) (fun v7 h8 => cal (f_X6_isDigit h8 v7) (fun v13 h14 => if v13 = 0 then f_X6_nextToken_219 h14 else gI h14 (some l0) 6 5 (fun v16 => pI h14 (some l0) 6 5 (v16 + 1) (fun h17 => f_X6_nextToken_149 n h17 l0))))))))
def f_X6_nextToken_92 : Nat → AH → Nat → Option (Unit × AH)
  | 0, _, _ => none
  | n + 1, h, l0 => gI h (some l0) 6 5 (fun v18 => gI h (some l0) 6 2 (fun v19 => if v19 ≤ v18 then f_X6_nextToken_219 h else gI h (some l0) 6 5 (fun v20 => rcv h (some l0) 6 (fun a24 => cal (f_X6_byteAt h a24 v20) (fun v21 h22 => cal (f_X6_isLetter h22 v21) (fun v27 h28 => if v27 = 0 then f_X6_nextToken_219 h28 else gI h28 (some l0) 6 5 (fun v30 => pI h28 (some l0) 6 5 (v30 + 1) (fun h31 => f_X6_nextToken_92 n h31 l0))))))))
def f_X6_nextToken_46 (h : AH) (l0 : Nat) : Option (Unit × AH) := gI h (some l0) 6 4 (fun v32 => pI h (some l0) 6 5 v32 (fun h33 => gI h33 (some l0) 6 4 (fun v34 => gI h33 (some l0) 6 2 (fun v35 => if v34 < v35 then gI h33 (some l0) 6 4 (fun v36 => rcv h33 (some l0) 6 (fun a40 => cal (f_X6_byteAt h33 a40 v36) (fun v37 h38 => cal (f_X6_isLetter h38 v37) (fun v43 h44 => if v43 = 0 then gI h44 (some l0) 6 4 (fun v46 => rcv h44 (some l0) 6 (fun a50 => cal (f_X6_byteAt h44 a50 v46) (fun v47 h48 => cal (f_X6_isDigit h48 v47) (fun v53 h54 => if v53 = 0 then gI h54 (some l0) 6 4 (fun v56 => rcv h54 (some l0) 6 (fun a60 => cal (f_X6_byteAt h54 a60 v56) (fun v57 h58 => if v57 = 59 then f_X6_nextToken_206 h58 l0 l0 3 else f_X6_nextToken_206 h58 l0 l0 4))) else pI h54 (some l0) 6 3 2 (fun h63 => f_X6_nextToken_149 FU h63 l0))))) else pI h44 (some l0) 6 3 1 (fun h64 => f_X6_nextToken_92 FU h64 l0))))) else pI h33 (some l0) 6 3 0 (fun h65 => f_X6_nextToken_219 h65)))))
def f_X6_nextToken_8 : Nat → AH → Nat → Option (Unit × AH)
  | 0, _, _ => none
  | n + 1, h, l0 => gI h (some l0) 6 4 (fun v66 => gI h (some l0) 6 2 (fun v67 => if v67 ≤ v66 then f_X6_nextToken_46 h l0 else gI h (some l0) 6 4 (fun v68 => rcv h (some l0) 6 (fun a72 => cal (f_X6_byteAt h a72 v68) (fun v69 h70 => cal (f_X6_isBlank h70 v69) (fun v75 h76 => if v75 = 0 then f_X6_nextToken_46 h76 l0 else gI h76 (some l0) 6 4 (fun v78 => pI h76 (some l0) 6 4 (v78 + 1) (fun h79 => f_X6_nextToken_8 n h79 l0))))))))
def f_X6_nextToken (h : AH) (l0 : Nat) : Option (Unit × AH) := gI h (some l0) 6 5 (fun v80 => pI h (some l0) 6 4 v80 (fun h81 => f_X6_nextToken_8 FU h81 l0))
set_option maxRecDepth 100000 in
set_option maxHeartbeats 4000000 in
theorem t_X6_nextToken_219 {p : Program} {l : Launch} {e : Env} {s : State} {m : MethodId} {args : Array Value} {below : List Frame} {meth : Method} {c : Code} {D : RG} {b : Nat} {vv : Unit} {hh : AH} (X : r_C p c cX6_nextToken 1 s m args RX6 D b) (hr : meth.sig.returnType = none) (hk : meth.locks = false) (hn : meth.name = "nextToken") {h : AH} {H : Heap} {locs : List Loc} {ls : Array Slot}  (B : r_B D b s h H locs) (hl : lv_has ls 1 []) (hf : f_X6_nextToken_219 h  = some (vv, hh)) : W p l e ({ frames := 1, cells := 0, slots := 0, locals := 21 } : Room) s m args below meth c H locs 0 0 (MQ below (r_Q D b none hh) args s 0 0 (fun q => b ≤ q)) (F0 m 219 ls []) := by
  obtain ⟨⟨hx, hb, hml, hown, hts⟩, -⟩ := id X
  unfold f_X6_nextToken_219 at hf
  exact r_vret X B hr hk hf dX6_nextToken_219
set_option maxRecDepth 100000 in
set_option maxHeartbeats 4000000 in
theorem t_X6_nextToken_206 {p : Program} {l : Launch} {e : Env} {s : State} {m : MethodId} {args : Array Value} {below : List Frame} {meth : Method} {c : Code} {D : RG} {b : Nat} {vv : Unit} {hh : AH} (X : r_C p c cX6_nextToken 1 s m args RX6 D b) (hr : meth.sig.returnType = none) (hk : meth.locks = false) (hn : meth.name = "nextToken") {h : AH} {H : Heap} {locs : List Loc} {ls : Array Slot} {l0 : Nat} {s0 : Nat} {s1 : Int32} (B : r_B D b s h H locs) (hl : lv_has ls 1 [(0, va_rf (some l0))]) (hf : f_X6_nextToken_206 h l0 s0 s1 = some (vv, hh)) : W p l e ({ frames := 1, cells := 0, slots := 0, locals := 21 } : Room) s m args below meth c H locs 0 0 (MQ below (r_Q D b none hh) args s 0 0 (fun q => b ≤ q)) (F0 m 206 ls [.int s1, va_rf (some s0)]) := by
  obtain ⟨⟨hx, hb, hml, hown, hts⟩, -⟩ := id X
  unfold f_X6_nextToken_206 at hf
  refine r_pI X B hf fX6_3 (Or.inl rfl) m_61 dX6_nextToken_206 (fun h1 H locs B hf => ?_)
  refine r_aload_n hx hb dX6_nextToken_209 rfl (lv_at hl 0 rfl) ?_
  refine lv_dup hx hb dX6_nextToken_210 (va_cat _) ?_
  refine r_gI X B hf fX6_5 (fun _ _ => rfl) m_63 dX6_nextToken_211 (fun v2 hf => ?_)
  refine lv_iconst (v := 1) hx hb dX6_nextToken_214 (by decide) ?_
  refine lv_iadd hx hb dX6_nextToken_215 ?_
  refine r_pI X B hf fX6_5 (Or.inl rfl) m_63 dX6_nextToken_216 (fun h3 H locs B hf => ?_)
  exact t_X6_nextToken_219 X hr hk hn  B (lv_sub hl [] rfl) hf
set_option maxRecDepth 100000 in
set_option maxHeartbeats 4000000 in
theorem t_X6_nextToken_149 {p : Program} {l : Launch} {e : Env} {s : State} {m : MethodId} {args : Array Value} {below : List Frame} {meth : Method} {c : Code} {D : RG} {b : Nat} {vv : Unit} {hh : AH} (X : r_C p c cX6_nextToken 1 s m args RX6 D b) (hr : meth.sig.returnType = none) (hk : meth.locks = false) (hn : meth.name = "nextToken") : ∀ (n : Nat) (h : AH) (H : Heap) (locs : List Loc) (ls : Array Slot) (l0 : Nat), r_B D b s h H locs → lv_has ls 1 [(0, va_rf (some l0))] → f_X6_nextToken_149 n h l0 = some (vv, hh) → W p l e ({ frames := 1, cells := 0, slots := 0, locals := 21 } : Room) s m args below meth c H locs 0 0 (MQ below (r_Q D b none hh) args s 0 0 (fun q => b ≤ q)) (F0 m 149 ls []) := by
  obtain ⟨⟨hx, hb, hml, hown, hts⟩, -⟩ := id X
  intro n
  induction n with
  | zero =>
    intro h H locs ls l0 B hl hf
    cases hf
  | succ n ih =>
    intro h H locs ls l0 B hl hf
    unfold f_X6_nextToken_149 at hf
    refine r_aload_n hx hb dX6_nextToken_149 rfl (lv_at hl 0 rfl) ?_
    refine r_gI X B hf fX6_5 (fun _ _ => rfl) m_63 dX6_nextToken_150 (fun v4 hf => ?_)
    refine r_aload_n hx hb dX6_nextToken_153 rfl (lv_at hl 0 rfl) ?_
    refine r_gI X B hf fX6_2 (fun _ _ => rfl) m_60 dX6_nextToken_154 (fun v5 hf => ?_)
    refine lv_icmp_ge (tgt := 219) hx hb dX6_nextToken_157 (by decide) (fun q_ => ?_) (fun q_ => ?_)
    · have hf := (r_ite hf).1 q_
      exact t_X6_nextToken_219 X hr hk hn  B (lv_sub hl [] rfl) hf
    · have hf := (r_ite hf).2 q_
      refine r_aload_n hx hb dX6_nextToken_160 rfl (lv_at hl 0 rfl) ?_
      refine r_aload_n hx hb dX6_nextToken_161 rfl (lv_at hl 0 rfl) ?_
      refine r_gI X B hf fX6_5 (fun _ _ => rfl) m_63 dX6_nextToken_162 (fun v6 hf => ?_)
      refine rcv_inv hf ?_
      intro a10 e11 s12 hf
      refine cal_inv hf ?_
      intro v7 h8 e9 hf
      refine r_call B (va_runV (As := [.int v6]) (rest := []) X.1 (c_X6_byteAt (l := l) (D := D) (b := b) e9) (r_cwV X rfl m_310 m_311 m_312 m_20 m_313 rfl rfl hd_X6_byteAt ⟨Nat.le_of_ble_eq_true rfl, Nat.le_of_ble_eq_true rfl⟩) (r_preV X B s12 rfl [.int v6]) rfl rfl hl.1 (by rw [e11]; rfl) (lv_room (by simp [va_cat, cat_i, cat_r, cat_l])) dX6_nextToken_165 ⟨Nat.zero_le _, Nat.zero_le _⟩) ?_
      intro H locs B
      refine W.cs (cells' := 0) (slots' := 0) rfl rfl (W.eq (g2 := F0 m 168 ls [.int v7]) rfl ?_)
      refine cal_inv hf ?_
      intro v13 h14 e15 hf
      refine r_call B (va_runS (As := [.int v7]) (rest := []) X.1 (c_X6_isDigit (l := l) (D := D) (b := b) e15) (r_cwS X m_320 m_321 m_20 m_322 rfl rfl hd_X6_isDigit ⟨Nat.le_of_ble_eq_true rfl, Nat.le_of_ble_eq_true rfl⟩) (r_preS X B [.int v7]) rfl rfl hl.1 rfl (lv_room (by simp [va_cat, cat_i, cat_r, cat_l])) dX6_nextToken_168 ⟨Nat.zero_le _, Nat.zero_le _⟩) ?_
      intro H locs B
      refine W.cs (cells' := 0) (slots' := 0) rfl rfl (W.eq (g2 := F0 m 171 ls [.int v13]) rfl ?_)
      refine lv_if_eq (tgt := 219) hx hb dX6_nextToken_171 (by decide) (fun q_ => ?_) (fun q_ => ?_)
      · have hf := (r_ite hf).1 q_
        exact t_X6_nextToken_219 X hr hk hn  B (lv_sub hl [] rfl) hf
      · have hf := (r_ite hf).2 q_
        refine r_aload_n hx hb dX6_nextToken_174 rfl (lv_at hl 0 rfl) ?_
        refine lv_dup hx hb dX6_nextToken_175 (va_cat _) ?_
        refine r_gI X B hf fX6_5 (fun _ _ => rfl) m_63 dX6_nextToken_176 (fun v16 hf => ?_)
        refine lv_iconst (v := 1) hx hb dX6_nextToken_179 (by decide) ?_
        refine lv_iadd hx hb dX6_nextToken_180 ?_
        refine r_pI X B hf fX6_5 (Or.inl rfl) m_63 dX6_nextToken_181 (fun h17 H locs B hf => ?_)
        refine lv_goto (tgt := 149) hx hb dX6_nextToken_184 (by decide) ?_
        exact ih _ _ _ _ _ B (lv_sub hl [0] rfl) hf
set_option maxRecDepth 100000 in
set_option maxHeartbeats 4000000 in
theorem t_X6_nextToken_92 {p : Program} {l : Launch} {e : Env} {s : State} {m : MethodId} {args : Array Value} {below : List Frame} {meth : Method} {c : Code} {D : RG} {b : Nat} {vv : Unit} {hh : AH} (X : r_C p c cX6_nextToken 1 s m args RX6 D b) (hr : meth.sig.returnType = none) (hk : meth.locks = false) (hn : meth.name = "nextToken") : ∀ (n : Nat) (h : AH) (H : Heap) (locs : List Loc) (ls : Array Slot) (l0 : Nat), r_B D b s h H locs → lv_has ls 1 [(0, va_rf (some l0))] → f_X6_nextToken_92 n h l0 = some (vv, hh) → W p l e ({ frames := 1, cells := 0, slots := 0, locals := 21 } : Room) s m args below meth c H locs 0 0 (MQ below (r_Q D b none hh) args s 0 0 (fun q => b ≤ q)) (F0 m 92 ls []) := by
  obtain ⟨⟨hx, hb, hml, hown, hts⟩, -⟩ := id X
  intro n
  induction n with
  | zero =>
    intro h H locs ls l0 B hl hf
    cases hf
  | succ n ih =>
    intro h H locs ls l0 B hl hf
    unfold f_X6_nextToken_92 at hf
    refine r_aload_n hx hb dX6_nextToken_92 rfl (lv_at hl 0 rfl) ?_
    refine r_gI X B hf fX6_5 (fun _ _ => rfl) m_63 dX6_nextToken_93 (fun v18 hf => ?_)
    refine r_aload_n hx hb dX6_nextToken_96 rfl (lv_at hl 0 rfl) ?_
    refine r_gI X B hf fX6_2 (fun _ _ => rfl) m_60 dX6_nextToken_97 (fun v19 hf => ?_)
    refine lv_icmp_ge (tgt := 219) hx hb dX6_nextToken_100 (by decide) (fun q_ => ?_) (fun q_ => ?_)
    · have hf := (r_ite hf).1 q_
      exact t_X6_nextToken_219 X hr hk hn  B (lv_sub hl [] rfl) hf
    · have hf := (r_ite hf).2 q_
      refine r_aload_n hx hb dX6_nextToken_103 rfl (lv_at hl 0 rfl) ?_
      refine r_aload_n hx hb dX6_nextToken_104 rfl (lv_at hl 0 rfl) ?_
      refine r_gI X B hf fX6_5 (fun _ _ => rfl) m_63 dX6_nextToken_105 (fun v20 hf => ?_)
      refine rcv_inv hf ?_
      intro a24 e25 s26 hf
      refine cal_inv hf ?_
      intro v21 h22 e23 hf
      refine r_call B (va_runV (As := [.int v20]) (rest := []) X.1 (c_X6_byteAt (l := l) (D := D) (b := b) e23) (r_cwV X rfl m_310 m_311 m_312 m_20 m_313 rfl rfl hd_X6_byteAt ⟨Nat.le_of_ble_eq_true rfl, Nat.le_of_ble_eq_true rfl⟩) (r_preV X B s26 rfl [.int v20]) rfl rfl hl.1 (by rw [e25]; rfl) (lv_room (by simp [va_cat, cat_i, cat_r, cat_l])) dX6_nextToken_108 ⟨Nat.zero_le _, Nat.zero_le _⟩) ?_
      intro H locs B
      refine W.cs (cells' := 0) (slots' := 0) rfl rfl (W.eq (g2 := F0 m 111 ls [.int v21]) rfl ?_)
      refine cal_inv hf ?_
      intro v27 h28 e29 hf
      refine r_call B (va_runS (As := [.int v21]) (rest := []) X.1 (c_X6_isLetter (l := l) (D := D) (b := b) e29) (r_cwS X m_317 m_318 m_20 m_319 rfl rfl hd_X6_isLetter ⟨Nat.le_of_ble_eq_true rfl, Nat.le_of_ble_eq_true rfl⟩) (r_preS X B [.int v21]) rfl rfl hl.1 rfl (lv_room (by simp [va_cat, cat_i, cat_r, cat_l])) dX6_nextToken_111 ⟨Nat.zero_le _, Nat.zero_le _⟩) ?_
      intro H locs B
      refine W.cs (cells' := 0) (slots' := 0) rfl rfl (W.eq (g2 := F0 m 114 ls [.int v27]) rfl ?_)
      refine lv_if_eq (tgt := 219) hx hb dX6_nextToken_114 (by decide) (fun q_ => ?_) (fun q_ => ?_)
      · have hf := (r_ite hf).1 q_
        exact t_X6_nextToken_219 X hr hk hn  B (lv_sub hl [] rfl) hf
      · have hf := (r_ite hf).2 q_
        refine r_aload_n hx hb dX6_nextToken_117 rfl (lv_at hl 0 rfl) ?_
        refine lv_dup hx hb dX6_nextToken_118 (va_cat _) ?_
        refine r_gI X B hf fX6_5 (fun _ _ => rfl) m_63 dX6_nextToken_119 (fun v30 hf => ?_)
        refine lv_iconst (v := 1) hx hb dX6_nextToken_122 (by decide) ?_
        refine lv_iadd hx hb dX6_nextToken_123 ?_
        refine r_pI X B hf fX6_5 (Or.inl rfl) m_63 dX6_nextToken_124 (fun h31 H locs B hf => ?_)
        refine lv_goto (tgt := 92) hx hb dX6_nextToken_127 (by decide) ?_
        exact ih _ _ _ _ _ B (lv_sub hl [0] rfl) hf
set_option maxRecDepth 100000 in
set_option maxHeartbeats 4000000 in
theorem t_X6_nextToken_46 {p : Program} {l : Launch} {e : Env} {s : State} {m : MethodId} {args : Array Value} {below : List Frame} {meth : Method} {c : Code} {D : RG} {b : Nat} {vv : Unit} {hh : AH} (X : r_C p c cX6_nextToken 1 s m args RX6 D b) (hr : meth.sig.returnType = none) (hk : meth.locks = false) (hn : meth.name = "nextToken") {h : AH} {H : Heap} {locs : List Loc} {ls : Array Slot} {l0 : Nat} (B : r_B D b s h H locs) (hl : lv_has ls 1 [(0, va_rf (some l0))]) (hf : f_X6_nextToken_46 h l0 = some (vv, hh)) : W p l e ({ frames := 1, cells := 0, slots := 0, locals := 21 } : Room) s m args below meth c H locs 0 0 (MQ below (r_Q D b none hh) args s 0 0 (fun q => b ≤ q)) (F0 m 46 ls []) := by
  obtain ⟨⟨hx, hb, hml, hown, hts⟩, -⟩ := id X
  unfold f_X6_nextToken_46 at hf
  refine r_aload_n hx hb dX6_nextToken_46 rfl (lv_at hl 0 rfl) ?_
  refine r_aload_n hx hb dX6_nextToken_47 rfl (lv_at hl 0 rfl) ?_
  refine r_gI X B hf fX6_4 (fun _ _ => rfl) m_62 dX6_nextToken_48 (fun v32 hf => ?_)
  refine r_pI X B hf fX6_5 (Or.inl rfl) m_63 dX6_nextToken_51 (fun h33 H locs B hf => ?_)
  refine r_aload_n hx hb dX6_nextToken_54 rfl (lv_at hl 0 rfl) ?_
  refine r_gI X B hf fX6_4 (fun _ _ => rfl) m_62 dX6_nextToken_55 (fun v34 hf => ?_)
  refine r_aload_n hx hb dX6_nextToken_58 rfl (lv_at hl 0 rfl) ?_
  refine r_gI X B hf fX6_2 (fun _ _ => rfl) m_60 dX6_nextToken_59 (fun v35 hf => ?_)
  refine lv_icmp_lt (tgt := 73) hx hb dX6_nextToken_62 (by decide) (fun q_ => ?_) (fun q_ => ?_)
  · have hf := (r_ite hf).1 q_
    refine r_aload_n hx hb dX6_nextToken_73 rfl (lv_at hl 0 rfl) ?_
    refine r_aload_n hx hb dX6_nextToken_74 rfl (lv_at hl 0 rfl) ?_
    refine r_gI X B hf fX6_4 (fun _ _ => rfl) m_62 dX6_nextToken_75 (fun v36 hf => ?_)
    refine rcv_inv hf ?_
    intro a40 e41 s42 hf
    refine cal_inv hf ?_
    intro v37 h38 e39 hf
    refine r_call B (va_runV (As := [.int v36]) (rest := []) X.1 (c_X6_byteAt (l := l) (D := D) (b := b) e39) (r_cwV X rfl m_310 m_311 m_312 m_20 m_313 rfl rfl hd_X6_byteAt ⟨Nat.le_of_ble_eq_true rfl, Nat.le_of_ble_eq_true rfl⟩) (r_preV X B s42 rfl [.int v36]) rfl rfl hl.1 (by rw [e41]; rfl) (lv_room (by simp [va_cat, cat_i, cat_r, cat_l])) dX6_nextToken_78 ⟨Nat.zero_le _, Nat.zero_le _⟩) ?_
    intro H locs B
    refine W.cs (cells' := 0) (slots' := 0) rfl rfl (W.eq (g2 := F0 m 81 ls [.int v37]) rfl ?_)
    refine cal_inv hf ?_
    intro v43 h44 e45 hf
    refine r_call B (va_runS (As := [.int v37]) (rest := []) X.1 (c_X6_isLetter (l := l) (D := D) (b := b) e45) (r_cwS X m_317 m_318 m_20 m_319 rfl rfl hd_X6_isLetter ⟨Nat.le_of_ble_eq_true rfl, Nat.le_of_ble_eq_true rfl⟩) (r_preS X B [.int v37]) rfl rfl hl.1 rfl (lv_room (by simp [va_cat, cat_i, cat_r, cat_l])) dX6_nextToken_81 ⟨Nat.zero_le _, Nat.zero_le _⟩) ?_
    intro H locs B
    refine W.cs (cells' := 0) (slots' := 0) rfl rfl (W.eq (g2 := F0 m 84 ls [.int v43]) rfl ?_)
    refine lv_if_eq (tgt := 130) hx hb dX6_nextToken_84 (by decide) (fun q_ => ?_) (fun q_ => ?_)
    · have hf := (r_ite hf).1 q_
      refine r_aload_n hx hb dX6_nextToken_130 rfl (lv_at hl 0 rfl) ?_
      refine r_aload_n hx hb dX6_nextToken_131 rfl (lv_at hl 0 rfl) ?_
      refine r_gI X B hf fX6_4 (fun _ _ => rfl) m_62 dX6_nextToken_132 (fun v46 hf => ?_)
      refine rcv_inv hf ?_
      intro a50 e51 s52 hf
      refine cal_inv hf ?_
      intro v47 h48 e49 hf
      refine r_call B (va_runV (As := [.int v46]) (rest := []) X.1 (c_X6_byteAt (l := l) (D := D) (b := b) e49) (r_cwV X rfl m_310 m_311 m_312 m_20 m_313 rfl rfl hd_X6_byteAt ⟨Nat.le_of_ble_eq_true rfl, Nat.le_of_ble_eq_true rfl⟩) (r_preV X B s52 rfl [.int v46]) rfl rfl hl.1 (by rw [e51]; rfl) (lv_room (by simp [va_cat, cat_i, cat_r, cat_l])) dX6_nextToken_135 ⟨Nat.zero_le _, Nat.zero_le _⟩) ?_
      intro H locs B
      refine W.cs (cells' := 0) (slots' := 0) rfl rfl (W.eq (g2 := F0 m 138 ls [.int v47]) rfl ?_)
      refine cal_inv hf ?_
      intro v53 h54 e55 hf
      refine r_call B (va_runS (As := [.int v47]) (rest := []) X.1 (c_X6_isDigit (l := l) (D := D) (b := b) e55) (r_cwS X m_320 m_321 m_20 m_322 rfl rfl hd_X6_isDigit ⟨Nat.le_of_ble_eq_true rfl, Nat.le_of_ble_eq_true rfl⟩) (r_preS X B [.int v47]) rfl rfl hl.1 rfl (lv_room (by simp [va_cat, cat_i, cat_r, cat_l])) dX6_nextToken_138 ⟨Nat.zero_le _, Nat.zero_le _⟩) ?_
      intro H locs B
      refine W.cs (cells' := 0) (slots' := 0) rfl rfl (W.eq (g2 := F0 m 141 ls [.int v53]) rfl ?_)
      refine lv_if_eq (tgt := 187) hx hb dX6_nextToken_141 (by decide) (fun q_ => ?_) (fun q_ => ?_)
      · have hf := (r_ite hf).1 q_
        refine r_aload_n hx hb dX6_nextToken_187 rfl (lv_at hl 0 rfl) ?_
        refine r_aload_n hx hb dX6_nextToken_188 rfl (lv_at hl 0 rfl) ?_
        refine r_aload_n hx hb dX6_nextToken_189 rfl (lv_at hl 0 rfl) ?_
        refine r_gI X B hf fX6_4 (fun _ _ => rfl) m_62 dX6_nextToken_190 (fun v56 hf => ?_)
        refine rcv_inv hf ?_
        intro a60 e61 s62 hf
        refine cal_inv hf ?_
        intro v57 h58 e59 hf
        refine r_call B (va_runV (As := [.int v56]) (rest := [va_rf (some l0)]) X.1 (c_X6_byteAt (l := l) (D := D) (b := b) e59) (r_cwV X rfl m_310 m_311 m_312 m_20 m_313 rfl rfl hd_X6_byteAt ⟨Nat.le_of_ble_eq_true rfl, Nat.le_of_ble_eq_true rfl⟩) (r_preV X B s62 rfl [.int v56]) rfl rfl hl.1 (by rw [e61]; rfl) (lv_room (by simp [va_cat, cat_i, cat_r, cat_l])) dX6_nextToken_193 ⟨Nat.zero_le _, Nat.zero_le _⟩) ?_
        intro H locs B
        refine W.cs (cells' := 0) (slots' := 0) rfl rfl (W.eq (g2 := F0 m 196 ls [.int v57, va_rf (some l0)]) rfl ?_)
        refine lv_bipush (v := 59) hx hb dX6_nextToken_196 (by decide) ?_
        refine lv_icmp_ne (tgt := 205) hx hb dX6_nextToken_198 (by decide) (fun q_ => ?_) (fun q_ => ?_)
        · have hf := (r_ite hf).2 q_
          refine lv_iconst (v := 4) hx hb dX6_nextToken_205 (by decide) ?_
          exact t_X6_nextToken_206 X hr hk hn  B (lv_sub hl [0] rfl) hf
        · have hf := (r_ite hf).1 q_
          refine lv_iconst (v := 3) hx hb dX6_nextToken_201 (by decide) ?_
          refine lv_goto (tgt := 206) hx hb dX6_nextToken_202 (by decide) ?_
          exact t_X6_nextToken_206 X hr hk hn  B (lv_sub hl [0] rfl) hf
      · have hf := (r_ite hf).2 q_
        refine r_aload_n hx hb dX6_nextToken_144 rfl (lv_at hl 0 rfl) ?_
        refine lv_iconst (v := 2) hx hb dX6_nextToken_145 (by decide) ?_
        refine r_pI X B hf fX6_3 (Or.inl rfl) m_61 dX6_nextToken_146 (fun h63 H locs B hf => ?_)
        exact t_X6_nextToken_149 X hr hk hn  _ _ _ _ _ _ B (lv_sub hl [0] rfl) hf
    · have hf := (r_ite hf).2 q_
      refine r_aload_n hx hb dX6_nextToken_87 rfl (lv_at hl 0 rfl) ?_
      refine lv_iconst (v := 1) hx hb dX6_nextToken_88 (by decide) ?_
      refine r_pI X B hf fX6_3 (Or.inl rfl) m_61 dX6_nextToken_89 (fun h64 H locs B hf => ?_)
      exact t_X6_nextToken_92 X hr hk hn  _ _ _ _ _ _ B (lv_sub hl [0] rfl) hf
  · have hf := (r_ite hf).2 q_
    refine r_aload_n hx hb dX6_nextToken_65 rfl (lv_at hl 0 rfl) ?_
    refine lv_iconst (v := 0) hx hb dX6_nextToken_66 (by decide) ?_
    refine r_pI X B hf fX6_3 (Or.inl rfl) m_61 dX6_nextToken_67 (fun h65 H locs B hf => ?_)
    refine lv_goto (tgt := 219) hx hb dX6_nextToken_70 (by decide) ?_
    exact t_X6_nextToken_219 X hr hk hn  B (lv_sub hl [] rfl) hf
set_option maxRecDepth 100000 in
set_option maxHeartbeats 4000000 in
theorem t_X6_nextToken_8 {p : Program} {l : Launch} {e : Env} {s : State} {m : MethodId} {args : Array Value} {below : List Frame} {meth : Method} {c : Code} {D : RG} {b : Nat} {vv : Unit} {hh : AH} (X : r_C p c cX6_nextToken 1 s m args RX6 D b) (hr : meth.sig.returnType = none) (hk : meth.locks = false) (hn : meth.name = "nextToken") : ∀ (n : Nat) (h : AH) (H : Heap) (locs : List Loc) (ls : Array Slot) (l0 : Nat), r_B D b s h H locs → lv_has ls 1 [(0, va_rf (some l0))] → f_X6_nextToken_8 n h l0 = some (vv, hh) → W p l e ({ frames := 1, cells := 0, slots := 0, locals := 21 } : Room) s m args below meth c H locs 0 0 (MQ below (r_Q D b none hh) args s 0 0 (fun q => b ≤ q)) (F0 m 8 ls []) := by
  obtain ⟨⟨hx, hb, hml, hown, hts⟩, -⟩ := id X
  intro n
  induction n with
  | zero =>
    intro h H locs ls l0 B hl hf
    cases hf
  | succ n ih =>
    intro h H locs ls l0 B hl hf
    unfold f_X6_nextToken_8 at hf
    refine r_aload_n hx hb dX6_nextToken_8 rfl (lv_at hl 0 rfl) ?_
    refine r_gI X B hf fX6_4 (fun _ _ => rfl) m_62 dX6_nextToken_9 (fun v66 hf => ?_)
    refine r_aload_n hx hb dX6_nextToken_12 rfl (lv_at hl 0 rfl) ?_
    refine r_gI X B hf fX6_2 (fun _ _ => rfl) m_60 dX6_nextToken_13 (fun v67 hf => ?_)
    refine lv_icmp_ge (tgt := 46) hx hb dX6_nextToken_16 (by decide) (fun q_ => ?_) (fun q_ => ?_)
    · have hf := (r_ite hf).1 q_
      exact t_X6_nextToken_46 X hr hk hn  B (lv_sub hl [0] rfl) hf
    · have hf := (r_ite hf).2 q_
      refine r_aload_n hx hb dX6_nextToken_19 rfl (lv_at hl 0 rfl) ?_
      refine r_aload_n hx hb dX6_nextToken_20 rfl (lv_at hl 0 rfl) ?_
      refine r_gI X B hf fX6_4 (fun _ _ => rfl) m_62 dX6_nextToken_21 (fun v68 hf => ?_)
      refine rcv_inv hf ?_
      intro a72 e73 s74 hf
      refine cal_inv hf ?_
      intro v69 h70 e71 hf
      refine r_call B (va_runV (As := [.int v68]) (rest := []) X.1 (c_X6_byteAt (l := l) (D := D) (b := b) e71) (r_cwV X rfl m_310 m_311 m_312 m_20 m_313 rfl rfl hd_X6_byteAt ⟨Nat.le_of_ble_eq_true rfl, Nat.le_of_ble_eq_true rfl⟩) (r_preV X B s74 rfl [.int v68]) rfl rfl hl.1 (by rw [e73]; rfl) (lv_room (by simp [va_cat, cat_i, cat_r, cat_l])) dX6_nextToken_24 ⟨Nat.zero_le _, Nat.zero_le _⟩) ?_
      intro H locs B
      refine W.cs (cells' := 0) (slots' := 0) rfl rfl (W.eq (g2 := F0 m 27 ls [.int v69]) rfl ?_)
      refine cal_inv hf ?_
      intro v75 h76 e77 hf
      refine r_call B (va_runS (As := [.int v69]) (rest := []) X.1 (c_X6_isBlank (l := l) (D := D) (b := b) e77) (r_cwS X m_314 m_315 m_20 m_316 rfl rfl hd_X6_isBlank ⟨Nat.le_of_ble_eq_true rfl, Nat.le_of_ble_eq_true rfl⟩) (r_preS X B [.int v69]) rfl rfl hl.1 rfl (lv_room (by simp [va_cat, cat_i, cat_r, cat_l])) dX6_nextToken_27 ⟨Nat.zero_le _, Nat.zero_le _⟩) ?_
      intro H locs B
      refine W.cs (cells' := 0) (slots' := 0) rfl rfl (W.eq (g2 := F0 m 30 ls [.int v75]) rfl ?_)
      refine lv_if_eq (tgt := 46) hx hb dX6_nextToken_30 (by decide) (fun q_ => ?_) (fun q_ => ?_)
      · have hf := (r_ite hf).1 q_
        exact t_X6_nextToken_46 X hr hk hn  B (lv_sub hl [0] rfl) hf
      · have hf := (r_ite hf).2 q_
        refine r_aload_n hx hb dX6_nextToken_33 rfl (lv_at hl 0 rfl) ?_
        refine lv_dup hx hb dX6_nextToken_34 (va_cat _) ?_
        refine r_gI X B hf fX6_4 (fun _ _ => rfl) m_62 dX6_nextToken_35 (fun v78 hf => ?_)
        refine lv_iconst (v := 1) hx hb dX6_nextToken_38 (by decide) ?_
        refine lv_iadd hx hb dX6_nextToken_39 ?_
        refine r_pI X B hf fX6_4 (Or.inl rfl) m_62 dX6_nextToken_40 (fun h79 H locs B hf => ?_)
        refine lv_goto (tgt := 8) hx hb dX6_nextToken_43 (by decide) ?_
        exact ih _ _ _ _ _ B (lv_sub hl [0] rfl) hf
set_option maxRecDepth 100000 in
set_option maxHeartbeats 4000000 in
theorem c_X6_nextToken {l : Launch} {D : RG} {b : Nat} {h : AH} {l0 : Nat} {vv : Unit} {hh : AH} (hf : f_X6_nextToken h l0 = some (vv, hh)) : Met l yX6_nextToken (Cond.code yX6_nextToken cX6_nextToken 1 none :: wsL_law) ({ frames := 1, cells := 0, slots := 0, locals := 21 } : Room) (va_Pc [.ref l0] (r_I D b h)) (r_Q D b none hh) 0 0 (fun q => b ≤ q) := by
  refine r_ofW (own := RX6) rfl (by decide +kernel) (by simp [lg_sl, va_cat, cat_i, cat_r, cat_l]) ?_
  intro p e s m args below meth c ls X B hr hk hn hl
  have hl : lv_has ls 1 [(0, .ref l0)] := by simpa [lv_args, va_cat, cat_i, cat_r, cat_l] using hl
  have hl : lv_has ls 1 [(0, va_rf (some l0))] := hl
  obtain ⟨⟨hx, hb, hml, hown, hts⟩, -⟩ := id X
  generalize s.heap = H at B ⊢
  generalize ([] : List Loc) = locs at B ⊢
  unfold f_X6_nextToken at hf
  refine r_aload_n hx hb dX6_nextToken_0 rfl (lv_at hl 0 rfl) ?_
  refine r_aload_n hx hb dX6_nextToken_1 rfl (lv_at hl 0 rfl) ?_
  refine r_gI X B hf fX6_5 (fun _ _ => rfl) m_63 dX6_nextToken_2 (fun v80 hf => ?_)
  refine r_pI X B hf fX6_4 (Or.inl rfl) m_62 dX6_nextToken_5 (fun h81 H locs B hf => ?_)
  exact t_X6_nextToken_8 X hr hk hn  _ _ _ _ _ _ B (lv_sub hl [0] rfl) hf
def f_X6_isWord_28 : Nat → AH → Nat → Nat → Int32 → Option (Int32 × AH)
  | 0, _, _, _, _ => none
  | n + 1, h, l0, l1, l2 => stL l1 (fun v1 => if v1 ≤ l2 then rZ 1 h else gI h (some l0) 6 4 (fun v2 => rcv h (some l0) 6 (fun a6 => cal (f_X6_byteAt h a6 (v2 + l2)) (fun v3 h4 => stC l1 l2 (fun v9 => if v3 = v9 then bd (l2 + 1) (fun v10 => f_X6_isWord_28 n h4 l0 l1 v10) else rZ 0 h4)))))
def f_X6_isWord_24 (h : AH)  : Option (Int32 × AH) := rZ 0 h
def f_X6_isWord (h : AH) (l0 : Nat) (l1 : Nat) : Option (Int32 × AH) := gI h (some l0) 6 3 (fun v11 => if v11 = 1 then gI h (some l0) 6 5 (fun v12 => gI h (some l0) 6 4 (fun v13 => stL l1 (fun v14 => if (v12 - v13) = v14 then f_X6_isWord_28 FU h l0 l1 0 else f_X6_isWord_24 h))) else f_X6_isWord_24 h)
set_option maxRecDepth 100000 in
set_option maxHeartbeats 4000000 in
theorem t_X6_isWord_28 {p : Program} {l : Launch} {e : Env} {s : State} {m : MethodId} {args : Array Value} {below : List Frame} {meth : Method} {c : Code} {D : RG} {b : Nat} {vv : Int32} {hh : AH} (X : r_C p c cX6_isWord 3 s m args RX6 D b) (hr : meth.sig.returnType = (some .boolean)) (hk : meth.locks = false) (hn : meth.name = "isWord") : ∀ (n : Nat) (h : AH) (H : Heap) (locs : List Loc) (ls : Array Slot) (l0 : Nat) (l1 : Nat) (l2 : Int32), r_B D b s h H locs → lv_has ls 3 [(0, va_rf (some l0)), (1, .ref (D.2.2.2.1 l1)), (2, .int l2)] → f_X6_isWord_28 n h l0 l1 l2 = some (vv, hh) → W p l e ({ frames := 4, cells := 0, slots := 0, locals := 85 } : Room) s m args below meth c H locs 0 0 (MQ below (r_Q D b (some (.int vv)) hh) args s 0 0 (fun q => b ≤ q)) (F0 m 28 ls []) := by
  obtain ⟨⟨hx, hb, hml, hown, hts⟩, -⟩ := id X
  intro n
  induction n with
  | zero =>
    intro h H locs ls l0 l1 l2 B hl hf
    cases hf
  | succ n ih =>
    intro h H locs ls l0 l1 l2 B hl hf
    unfold f_X6_isWord_28 at hf
    refine lv_iload_n hx hb dX6_isWord_28 rfl (lv_at hl 2 rfl) ?_
    refine lv_aload_n hx hb dX6_isWord_29 rfl (lv_at hl 1 rfl) ?_
    refine r_stL X B hf (by decide) hl.1 (by simp [va_cat, cat_i, cat_r, cat_l]) dX6_isWord_30 ⟨Nat.zero_le _, Nat.zero_le _⟩ (fun v1 H locs B hf => ?_)
    refine lv_icmp_ge (tgt := 62) hx hb dX6_isWord_33 (by decide) (fun q_ => ?_) (fun q_ => ?_)
    · have hf := (r_ite hf).1 q_
      refine lv_iconst (v := 1) hx hb dX6_isWord_62 (by decide) ?_
      exact r_zret X B hr hk hf dX6_isWord_63
    · have hf := (r_ite hf).2 q_
      refine r_aload_n hx hb dX6_isWord_36 rfl (lv_at hl 0 rfl) ?_
      refine r_aload_n hx hb dX6_isWord_37 rfl (lv_at hl 0 rfl) ?_
      refine r_gI X B hf fX6_4 (fun _ _ => rfl) m_62 dX6_isWord_38 (fun v2 hf => ?_)
      refine lv_iload_n hx hb dX6_isWord_41 rfl (lv_at hl 2 rfl) ?_
      refine lv_iadd hx hb dX6_isWord_42 ?_
      refine rcv_inv hf ?_
      intro a6 e7 s8 hf
      refine cal_inv hf ?_
      intro v3 h4 e5 hf
      refine r_call B (va_runV (As := [.int (v2 + l2)]) (rest := []) X.1 (c_X6_byteAt (l := l) (D := D) (b := b) e5) (r_cwV X rfl m_310 m_311 m_312 m_20 m_313 rfl rfl hd_X6_byteAt ⟨Nat.le_of_ble_eq_true rfl, Nat.le_of_ble_eq_true rfl⟩) (r_preV X B s8 rfl [.int (v2 + l2)]) rfl rfl hl.1 (by rw [e7]; rfl) (lv_room (by simp [va_cat, cat_i, cat_r, cat_l])) dX6_isWord_43 ⟨Nat.zero_le _, Nat.zero_le _⟩) ?_
      intro H locs B
      refine W.cs (cells' := 0) (slots' := 0) rfl rfl (W.eq (g2 := F0 m 46 ls [.int v3]) rfl ?_)
      refine lv_aload_n hx hb dX6_isWord_46 rfl (lv_at hl 1 rfl) ?_
      refine lv_iload_n hx hb dX6_isWord_47 rfl (lv_at hl 2 rfl) ?_
      refine r_stC X B hf (by decide) hl.1 (by simp [va_cat, cat_i, cat_r, cat_l]) dX6_isWord_48 ⟨Nat.zero_le _, Nat.zero_le _⟩ (fun v9 H locs B hf => ?_)
      refine lv_icmp_eq (tgt := 56) hx hb dX6_isWord_51 (by decide) (fun q_ => ?_) (fun q_ => ?_)
      · have hf := (r_ite hf).1 q_
        refine r_iinc (lv' := fun v10 => [(2, .int v10), (0, va_rf (some l0)), (1, .ref (D.2.2.2.1 l1))]) hx hb hf dX6_isWord_56 hl (k := 2) rfl (by decide) (by decide) (fun v => by first | rfl | simp [va_cat, cat_i, cat_r, cat_l]) (fun v10 ls hl hf => ?_)
        refine lv_goto (tgt := 28) hx hb dX6_isWord_59 (by decide) ?_
        exact ih _ _ _ _ _ _ _ B (lv_sub hl [1, 2, 0] rfl) hf
      · have hf := (r_ite hf).2 q_
        refine lv_iconst (v := 0) hx hb dX6_isWord_54 (by decide) ?_
        exact r_zret X B hr hk hf dX6_isWord_55
set_option maxRecDepth 100000 in
set_option maxHeartbeats 4000000 in
theorem t_X6_isWord_24 {p : Program} {l : Launch} {e : Env} {s : State} {m : MethodId} {args : Array Value} {below : List Frame} {meth : Method} {c : Code} {D : RG} {b : Nat} {vv : Int32} {hh : AH} (X : r_C p c cX6_isWord 3 s m args RX6 D b) (hr : meth.sig.returnType = (some .boolean)) (hk : meth.locks = false) (hn : meth.name = "isWord") {h : AH} {H : Heap} {locs : List Loc} {ls : Array Slot}  (B : r_B D b s h H locs) (hl : lv_has ls 3 []) (hf : f_X6_isWord_24 h  = some (vv, hh)) : W p l e ({ frames := 4, cells := 0, slots := 0, locals := 85 } : Room) s m args below meth c H locs 0 0 (MQ below (r_Q D b (some (.int vv)) hh) args s 0 0 (fun q => b ≤ q)) (F0 m 24 ls []) := by
  obtain ⟨⟨hx, hb, hml, hown, hts⟩, -⟩ := id X
  unfold f_X6_isWord_24 at hf
  refine lv_iconst (v := 0) hx hb dX6_isWord_24 (by decide) ?_
  exact r_zret X B hr hk hf dX6_isWord_25
set_option maxRecDepth 100000 in
set_option maxHeartbeats 4000000 in
theorem c_X6_isWord {l : Launch} {D : RG} {b : Nat} {h : AH} {l0 : Nat} {l1 : Nat} {vv : Int32} {hh : AH} (hf : f_X6_isWord h l0 l1 = some (vv, hh)) : Met l yX6_isWord (Cond.code yX6_isWord cX6_isWord 3 (some .boolean) :: wsL_law) ({ frames := 4, cells := 0, slots := 0, locals := 85 } : Room) (va_Pc [.ref l0, .ref (D.2.2.2.1 l1)] (r_I D b h)) (r_Q D b (some (.int vv)) hh) 0 0 (fun q => b ≤ q) := by
  refine r_ofW (own := RX6) rfl (by decide +kernel) (by simp [lg_sl, va_cat, cat_i, cat_r, cat_l]) ?_
  intro p e s m args below meth c ls X B hr hk hn hl
  have hl : lv_has ls 3 [(0, .ref l0), (1, .ref (D.2.2.2.1 l1))] := by simpa [lv_args, va_cat, cat_i, cat_r, cat_l] using hl
  have hl : lv_has ls 3 [(0, va_rf (some l0)), (1, .ref (D.2.2.2.1 l1))] := hl
  obtain ⟨⟨hx, hb, hml, hown, hts⟩, -⟩ := id X
  generalize s.heap = H at B ⊢
  generalize ([] : List Loc) = locs at B ⊢
  unfold f_X6_isWord at hf
  refine r_aload_n hx hb dX6_isWord_0 rfl (lv_at hl 0 rfl) ?_
  refine r_gI X B hf fX6_3 (fun _ _ => rfl) m_61 dX6_isWord_1 (fun v11 hf => ?_)
  refine lv_iconst (v := 1) hx hb dX6_isWord_4 (by decide) ?_
  refine lv_icmp_ne (tgt := 24) hx hb dX6_isWord_5 (by decide) (fun q_ => ?_) (fun q_ => ?_)
  · have hf := (r_ite hf).2 q_
    exact t_X6_isWord_24 X hr hk hn  B (lv_sub hl [] rfl) hf
  · have hf := (r_ite hf).1 q_
    refine r_aload_n hx hb dX6_isWord_8 rfl (lv_at hl 0 rfl) ?_
    refine r_gI X B hf fX6_5 (fun _ _ => rfl) m_63 dX6_isWord_9 (fun v12 hf => ?_)
    refine r_aload_n hx hb dX6_isWord_12 rfl (lv_at hl 0 rfl) ?_
    refine r_gI X B hf fX6_4 (fun _ _ => rfl) m_62 dX6_isWord_13 (fun v13 hf => ?_)
    refine lv_isub hx hb dX6_isWord_16 ?_
    refine lv_aload_n hx hb dX6_isWord_17 rfl (lv_at hl 1 rfl) ?_
    refine r_stL X B hf (by decide) hl.1 (by simp [va_cat, cat_i, cat_r, cat_l]) dX6_isWord_18 ⟨Nat.zero_le _, Nat.zero_le _⟩ (fun v14 H locs B hf => ?_)
    refine lv_icmp_eq (tgt := 26) hx hb dX6_isWord_21 (by decide) (fun q_ => ?_) (fun q_ => ?_)
    · have hf := (r_ite hf).1 q_
      refine lv_iconst (v := 0) hx hb dX6_isWord_26 (by decide) ?_
      refine lv_istore_n (i := 2) (lv' := [(2, .int 0), (0, va_rf (some l0)), (1, .ref (D.2.2.2.1 l1))]) hx hb dX6_isWord_27 rfl hl (by decide) (by first | rfl | simp [va_cat, cat_i, cat_r, cat_l]) (fun ls hl => ?_)
      exact t_X6_isWord_28 X hr hk hn  _ _ _ _ _ _ _ _ B (lv_sub hl [1, 2, 0] rfl) hf
    · have hf := (r_ite hf).2 q_
      exact t_X6_isWord_24 X hr hk hn  B (lv_sub hl [] rfl) hf
def f_X6_readFirst_53 (h : AH)  : Option (Int32 × AH) := rZ 1 h
def f_X6_readFirst (h : AH) (l0 : Nat) (l1 : Option Nat) : Option (Int32 × AH) := rcv h (some l0) 6 (fun a4 => cal (f_X6_isWord h a4 4) (fun v1 h2 => if v1 = 0 then rcv h2 (some l0) 6 (fun a10 => cal (f_X6_isWord h2 a10 5) (fun v7 h8 => if v7 = 0 then rcv h8 (some l0) 6 (fun a16 => cal (f_X6_isWord h8 a16 1) (fun v13 h14 => if v13 = 0 then rZ 0 h14 else rcv h14 l1 0 (fun a22 => cal (f_X0_addFirst h14 a22 2) (fun v19 h20 => f_X6_readFirst_53 h20)))) else rcv h8 l1 0 (fun a28 => cal (f_X0_addFirst h8 a28 1) (fun v25 h26 => f_X6_readFirst_53 h26)))) else rcv h2 l1 0 (fun a34 => cal (f_X0_addFirst h2 a34 0) (fun v31 h32 => f_X6_readFirst_53 h32))))
set_option maxRecDepth 100000 in
set_option maxHeartbeats 4000000 in
theorem t_X6_readFirst_53 {p : Program} {l : Launch} {e : Env} {s : State} {m : MethodId} {args : Array Value} {below : List Frame} {meth : Method} {c : Code} {D : RG} {b : Nat} {vv : Int32} {hh : AH} (X : r_C p c cX6_readFirst 2 s m args RX6 D b) (hr : meth.sig.returnType = (some .boolean)) (hk : meth.locks = false) (hn : meth.name = "readFirst") {h : AH} {H : Heap} {locs : List Loc} {ls : Array Slot}  (B : r_B D b s h H locs) (hl : lv_has ls 2 []) (hf : f_X6_readFirst_53 h  = some (vv, hh)) : W p l e ({ frames := 5, cells := 0, slots := 0, locals := 107 } : Room) s m args below meth c H locs 0 0 (MQ below (r_Q D b (some (.int vv)) hh) args s 0 0 (fun q => b ≤ q)) (F0 m 53 ls []) := by
  obtain ⟨⟨hx, hb, hml, hown, hts⟩, -⟩ := id X
  unfold f_X6_readFirst_53 at hf
  refine lv_iconst (v := 1) hx hb dX6_readFirst_53 (by decide) ?_
  exact r_zret X B hr hk hf dX6_readFirst_54
set_option maxRecDepth 100000 in
set_option maxHeartbeats 4000000 in
theorem c_X6_readFirst {l : Launch} {D : RG} {b : Nat} {h : AH} {l0 : Nat} {l1 : Option Nat} {vv : Int32} {hh : AH} (hf : f_X6_readFirst h l0 l1 = some (vv, hh)) : Met l yX6_readFirst (Cond.code yX6_readFirst cX6_readFirst 2 (some .boolean) :: wsL_law) ({ frames := 5, cells := 0, slots := 0, locals := 107 } : Room) (va_Pc [.ref l0, va_rf l1] (r_I D b h)) (r_Q D b (some (.int vv)) hh) 0 0 (fun q => b ≤ q) := by
  refine r_ofW (own := RX6) rfl (by decide +kernel) (by simp [lg_sl, va_cat, cat_i, cat_r, cat_l]) ?_
  intro p e s m args below meth c ls X B hr hk hn hl
  have hl : lv_has ls 2 [(0, .ref l0), (1, va_rf l1)] := by simpa [lv_args, va_cat, cat_i, cat_r, cat_l] using hl
  have hl : lv_has ls 2 [(0, va_rf (some l0)), (1, va_rf l1)] := hl
  obtain ⟨⟨hx, hb, hml, hown, hts⟩, -⟩ := id X
  generalize s.heap = H at B ⊢
  generalize ([] : List Loc) = locs at B ⊢
  unfold f_X6_readFirst at hf
  refine r_aload_n hx hb dX6_readFirst_0 rfl (lv_at hl 0 rfl) ?_
  refine va_ldcS hx hb hown (X.2.1.2.2.2.1 4 (by decide)) dX6_readFirst_1 ?_
  refine rcv_inv hf ?_
  intro a4 e5 s6 hf
  refine cal_inv hf ?_
  intro v1 h2 e3 hf
  refine r_call B (va_runV (As := [.ref (D.2.2.2.1 4)]) (rest := []) X.1 (c_X6_isWord (l := l) (D := D) (b := b) e3) (r_cwV X rfl m_330 m_331 m_332 m_20 m_333 rfl rfl hd_X6_isWord ⟨Nat.le_of_ble_eq_true rfl, Nat.le_of_ble_eq_true rfl⟩) (r_preV X B s6 rfl [.ref (D.2.2.2.1 4)]) rfl rfl hl.1 (by rw [e5]; rfl) (lv_room (by simp [va_cat, cat_i, cat_r, cat_l])) dX6_readFirst_3 ⟨Nat.zero_le _, Nat.zero_le _⟩) ?_
  intro H locs B
  refine W.cs (cells' := 0) (slots' := 0) rfl rfl (W.eq (g2 := F0 m 6 ls [.int v1]) rfl ?_)
  refine lv_if_eq (tgt := 17) hx hb dX6_readFirst_6 (by decide) (fun q_ => ?_) (fun q_ => ?_)
  · have hf := (r_ite hf).1 q_
    refine r_aload_n hx hb dX6_readFirst_17 rfl (lv_at hl 0 rfl) ?_
    refine va_ldcS hx hb hown (X.2.1.2.2.2.1 5 (by decide)) dX6_readFirst_18 ?_
    refine rcv_inv hf ?_
    intro a10 e11 s12 hf
    refine cal_inv hf ?_
    intro v7 h8 e9 hf
    refine r_call B (va_runV (As := [.ref (D.2.2.2.1 5)]) (rest := []) X.1 (c_X6_isWord (l := l) (D := D) (b := b) e9) (r_cwV X rfl m_330 m_331 m_332 m_20 m_333 rfl rfl hd_X6_isWord ⟨Nat.le_of_ble_eq_true rfl, Nat.le_of_ble_eq_true rfl⟩) (r_preV X B s12 rfl [.ref (D.2.2.2.1 5)]) rfl rfl hl.1 (by rw [e11]; rfl) (lv_room (by simp [va_cat, cat_i, cat_r, cat_l])) dX6_readFirst_20 ⟨Nat.zero_le _, Nat.zero_le _⟩) ?_
    intro H locs B
    refine W.cs (cells' := 0) (slots' := 0) rfl rfl (W.eq (g2 := F0 m 23 ls [.int v7]) rfl ?_)
    refine lv_if_eq (tgt := 34) hx hb dX6_readFirst_23 (by decide) (fun q_ => ?_) (fun q_ => ?_)
    · have hf := (r_ite hf).1 q_
      refine r_aload_n hx hb dX6_readFirst_34 rfl (lv_at hl 0 rfl) ?_
      refine va_ldcS hx hb hown (X.2.1.2.2.2.1 1 (by decide)) dX6_readFirst_35 ?_
      refine rcv_inv hf ?_
      intro a16 e17 s18 hf
      refine cal_inv hf ?_
      intro v13 h14 e15 hf
      refine r_call B (va_runV (As := [.ref (D.2.2.2.1 1)]) (rest := []) X.1 (c_X6_isWord (l := l) (D := D) (b := b) e15) (r_cwV X rfl m_330 m_331 m_332 m_20 m_333 rfl rfl hd_X6_isWord ⟨Nat.le_of_ble_eq_true rfl, Nat.le_of_ble_eq_true rfl⟩) (r_preV X B s18 rfl [.ref (D.2.2.2.1 1)]) rfl rfl hl.1 (by rw [e17]; rfl) (lv_room (by simp [va_cat, cat_i, cat_r, cat_l])) dX6_readFirst_37 ⟨Nat.zero_le _, Nat.zero_le _⟩) ?_
      intro H locs B
      refine W.cs (cells' := 0) (slots' := 0) rfl rfl (W.eq (g2 := F0 m 40 ls [.int v13]) rfl ?_)
      refine lv_if_eq (tgt := 51) hx hb dX6_readFirst_40 (by decide) (fun q_ => ?_) (fun q_ => ?_)
      · have hf := (r_ite hf).1 q_
        refine lv_iconst (v := 0) hx hb dX6_readFirst_51 (by decide) ?_
        exact r_zret X B hr hk hf dX6_readFirst_52
      · have hf := (r_ite hf).2 q_
        refine r_aload_n hx hb dX6_readFirst_43 rfl (lv_at hl 1 rfl) ?_
        refine lv_iconst (v := 2) hx hb dX6_readFirst_44 (by decide) ?_
        refine rcv_inv hf ?_
        intro a22 e23 s24 hf
        refine cal_inv hf ?_
        intro v19 h20 e21 hf
        refine r_call B (va_runV (As := [.int 2]) (rest := []) X.1 (c_X0_addFirst (l := l) (D := D) (b := b) e21) (r_cwV X rfl m_387 m_388 m_389 m_24 m_390 rfl rfl hd_X0_addFirst ⟨Nat.le_of_ble_eq_true rfl, Nat.le_of_ble_eq_true rfl⟩) (r_preV X B s24 rfl [.int 2]) rfl rfl hl.1 (by rw [e23]; rfl) (lv_room (by simp [va_cat, cat_i, cat_r, cat_l])) dX6_readFirst_45 ⟨Nat.zero_le _, Nat.zero_le _⟩) ?_
        intro H locs B
        refine W.cs (cells' := 0) (slots' := 0) rfl rfl (W.eq (g2 := F0 m 48 ls []) rfl ?_)
        refine lv_goto (tgt := 53) hx hb dX6_readFirst_48 (by decide) ?_
        exact t_X6_readFirst_53 X hr hk hn  B (lv_sub hl [] rfl) hf
    · have hf := (r_ite hf).2 q_
      refine r_aload_n hx hb dX6_readFirst_26 rfl (lv_at hl 1 rfl) ?_
      refine lv_iconst (v := 1) hx hb dX6_readFirst_27 (by decide) ?_
      refine rcv_inv hf ?_
      intro a28 e29 s30 hf
      refine cal_inv hf ?_
      intro v25 h26 e27 hf
      refine r_call B (va_runV (As := [.int 1]) (rest := []) X.1 (c_X0_addFirst (l := l) (D := D) (b := b) e27) (r_cwV X rfl m_387 m_388 m_389 m_24 m_390 rfl rfl hd_X0_addFirst ⟨Nat.le_of_ble_eq_true rfl, Nat.le_of_ble_eq_true rfl⟩) (r_preV X B s30 rfl [.int 1]) rfl rfl hl.1 (by rw [e29]; rfl) (lv_room (by simp [va_cat, cat_i, cat_r, cat_l])) dX6_readFirst_28 ⟨Nat.zero_le _, Nat.zero_le _⟩) ?_
      intro H locs B
      refine W.cs (cells' := 0) (slots' := 0) rfl rfl (W.eq (g2 := F0 m 31 ls []) rfl ?_)
      refine lv_goto (tgt := 53) hx hb dX6_readFirst_31 (by decide) ?_
      exact t_X6_readFirst_53 X hr hk hn  B (lv_sub hl [] rfl) hf
  · have hf := (r_ite hf).2 q_
    refine r_aload_n hx hb dX6_readFirst_9 rfl (lv_at hl 1 rfl) ?_
    refine lv_iconst (v := 0) hx hb dX6_readFirst_10 (by decide) ?_
    refine rcv_inv hf ?_
    intro a34 e35 s36 hf
    refine cal_inv hf ?_
    intro v31 h32 e33 hf
    refine r_call B (va_runV (As := [.int 0]) (rest := []) X.1 (c_X0_addFirst (l := l) (D := D) (b := b) e33) (r_cwV X rfl m_387 m_388 m_389 m_24 m_390 rfl rfl hd_X0_addFirst ⟨Nat.le_of_ble_eq_true rfl, Nat.le_of_ble_eq_true rfl⟩) (r_preV X B s36 rfl [.int 0]) rfl rfl hl.1 (by rw [e35]; rfl) (lv_room (by simp [va_cat, cat_i, cat_r, cat_l])) dX6_readFirst_11 ⟨Nat.zero_le _, Nat.zero_le _⟩) ?_
    intro H locs B
    refine W.cs (cells' := 0) (slots' := 0) rfl rfl (W.eq (g2 := F0 m 14 ls []) rfl ?_)
    refine lv_goto (tgt := 53) hx hb dX6_readFirst_14 (by decide) ?_
    exact t_X6_readFirst_53 X hr hk hn  B (lv_sub hl [] rfl) hf
def f_X6_numberHere_30 : Nat → AH → Nat → Int32 → Int32 → Option (Int32 × AH)
  | 0, _, _, _, _ => none
  | n + 1, h, l0, l1, l2 => gI h (some l0) 6 5 (fun v1 => if v1 ≤ l2 then some (l1, h) else rcv h (some l0) 6 (fun a5 => cal (f_X6_byteAt h a5 l2) (fun v2 h3 => bd (((l1 * 10) + v2) - 48) (fun v8 => bd (l2 + 1) (fun v9 => f_X6_numberHere_30 n h3 l0 v8 v9)))))
def f_X6_numberHere_21 (h : AH)  : Option (Int32 × AH) := some ((-1), h)
def f_X6_numberHere (h : AH) (l0 : Nat) : Option (Int32 × AH) := gI h (some l0) 6 3 (fun v10 => if v10 = 2 then gI h (some l0) 6 5 (fun v11 => gI h (some l0) 6 4 (fun v12 => if (v11 - v12) ≤ 3 then gI h (some l0) 6 4 (fun v13 => f_X6_numberHere_30 FU h l0 0 v13) else f_X6_numberHere_21 h)) else f_X6_numberHere_21 h)
set_option maxRecDepth 100000 in
set_option maxHeartbeats 4000000 in
theorem t_X6_numberHere_30 {p : Program} {l : Launch} {e : Env} {s : State} {m : MethodId} {args : Array Value} {below : List Frame} {meth : Method} {c : Code} {D : RG} {b : Nat} {vv : Int32} {hh : AH} (X : r_C p c cX6_numberHere 3 s m args RX6 D b) (hr : meth.sig.returnType = (some .int)) (hk : meth.locks = false) (hn : meth.name = "numberHere") : ∀ (n : Nat) (h : AH) (H : Heap) (locs : List Loc) (ls : Array Slot) (l0 : Nat) (l1 : Int32) (l2 : Int32), r_B D b s h H locs → lv_has ls 3 [(0, va_rf (some l0)), (1, .int l1), (2, .int l2)] → f_X6_numberHere_30 n h l0 l1 l2 = some (vv, hh) → W p l e ({ frames := 1, cells := 0, slots := 0, locals := 21 } : Room) s m args below meth c H locs 0 0 (MQ below (r_Q D b (some (.int vv)) hh) args s 0 0 (fun q => b ≤ q)) (F0 m 30 ls []) := by
  obtain ⟨⟨hx, hb, hml, hown, hts⟩, -⟩ := id X
  intro n
  induction n with
  | zero =>
    intro h H locs ls l0 l1 l2 B hl hf
    cases hf
  | succ n ih =>
    intro h H locs ls l0 l1 l2 B hl hf
    unfold f_X6_numberHere_30 at hf
    refine lv_iload_n hx hb dX6_numberHere_30 rfl (lv_at hl 2 rfl) ?_
    refine r_aload_n hx hb dX6_numberHere_31 rfl (lv_at hl 0 rfl) ?_
    refine r_gI X B hf fX6_5 (fun _ _ => rfl) m_63 dX6_numberHere_32 (fun v1 hf => ?_)
    refine lv_icmp_ge (tgt := 58) hx hb dX6_numberHere_35 (by decide) (fun q_ => ?_) (fun q_ => ?_)
    · have hf := (r_ite hf).1 q_
      refine lv_iload_n hx hb dX6_numberHere_58 rfl (lv_at hl 1 rfl) ?_
      exact r_iret X B hr hk hf dX6_numberHere_59
    · have hf := (r_ite hf).2 q_
      refine lv_iload_n hx hb dX6_numberHere_38 rfl (lv_at hl 1 rfl) ?_
      refine lv_bipush (v := 10) hx hb dX6_numberHere_39 (by decide) ?_
      refine lv_imul hx hb dX6_numberHere_41 ?_
      refine r_aload_n hx hb dX6_numberHere_42 rfl (lv_at hl 0 rfl) ?_
      refine lv_iload_n hx hb dX6_numberHere_43 rfl (lv_at hl 2 rfl) ?_
      refine rcv_inv hf ?_
      intro a5 e6 s7 hf
      refine cal_inv hf ?_
      intro v2 h3 e4 hf
      refine r_call B (va_runV (As := [.int l2]) (rest := [.int (l1 * 10)]) X.1 (c_X6_byteAt (l := l) (D := D) (b := b) e4) (r_cwV X rfl m_310 m_311 m_312 m_20 m_313 rfl rfl hd_X6_byteAt ⟨Nat.le_of_ble_eq_true rfl, Nat.le_of_ble_eq_true rfl⟩) (r_preV X B s7 rfl [.int l2]) rfl rfl hl.1 (by rw [e6]; rfl) (lv_room (by simp [va_cat, cat_i, cat_r, cat_l])) dX6_numberHere_44 ⟨Nat.zero_le _, Nat.zero_le _⟩) ?_
      intro H locs B
      refine W.cs (cells' := 0) (slots' := 0) rfl rfl (W.eq (g2 := F0 m 47 ls [.int v2, .int (l1 * 10)]) rfl ?_)
      refine lv_iadd hx hb dX6_numberHere_47 ?_
      refine lv_bipush (v := 48) hx hb dX6_numberHere_48 (by decide) ?_
      refine lv_isub hx hb dX6_numberHere_50 ?_
      refine r_bd hf (fun v8 hf => ?_)
      refine lv_istore_n (i := 1) (lv' := [(1, .int v8), (0, va_rf (some l0)), (2, .int l2)]) hx hb dX6_numberHere_51 rfl hl (by decide) (by first | rfl | simp [va_cat, cat_i, cat_r, cat_l]) (fun ls hl => ?_)
      refine r_iinc (lv' := fun v9 => [(2, .int v9), (1, .int v8), (0, va_rf (some l0))]) hx hb hf dX6_numberHere_52 hl (k := 2) rfl (by decide) (by decide) (fun v => by first | rfl | simp [va_cat, cat_i, cat_r, cat_l]) (fun v9 ls hl hf => ?_)
      refine lv_goto (tgt := 30) hx hb dX6_numberHere_55 (by decide) ?_
      exact ih _ _ _ _ _ _ _ B (lv_sub hl [2, 1, 0] rfl) hf
set_option maxRecDepth 100000 in
set_option maxHeartbeats 4000000 in
theorem t_X6_numberHere_21 {p : Program} {l : Launch} {e : Env} {s : State} {m : MethodId} {args : Array Value} {below : List Frame} {meth : Method} {c : Code} {D : RG} {b : Nat} {vv : Int32} {hh : AH} (X : r_C p c cX6_numberHere 3 s m args RX6 D b) (hr : meth.sig.returnType = (some .int)) (hk : meth.locks = false) (hn : meth.name = "numberHere") {h : AH} {H : Heap} {locs : List Loc} {ls : Array Slot}  (B : r_B D b s h H locs) (hl : lv_has ls 3 []) (hf : f_X6_numberHere_21 h  = some (vv, hh)) : W p l e ({ frames := 1, cells := 0, slots := 0, locals := 21 } : Room) s m args below meth c H locs 0 0 (MQ below (r_Q D b (some (.int vv)) hh) args s 0 0 (fun q => b ≤ q)) (F0 m 21 ls []) := by
  obtain ⟨⟨hx, hb, hml, hown, hts⟩, -⟩ := id X
  unfold f_X6_numberHere_21 at hf
  refine lv_iconst (v := (-1)) hx hb dX6_numberHere_21 (by decide) ?_
  exact r_iret X B hr hk hf dX6_numberHere_22
set_option maxRecDepth 100000 in
set_option maxHeartbeats 4000000 in
theorem c_X6_numberHere {l : Launch} {D : RG} {b : Nat} {h : AH} {l0 : Nat} {vv : Int32} {hh : AH} (hf : f_X6_numberHere h l0 = some (vv, hh)) : Met l yX6_numberHere (Cond.code yX6_numberHere cX6_numberHere 3 (some .int) :: wsL_law) ({ frames := 1, cells := 0, slots := 0, locals := 21 } : Room) (va_Pc [.ref l0] (r_I D b h)) (r_Q D b (some (.int vv)) hh) 0 0 (fun q => b ≤ q) := by
  refine r_ofW (own := RX6) rfl (by decide +kernel) (by simp [lg_sl, va_cat, cat_i, cat_r, cat_l]) ?_
  intro p e s m args below meth c ls X B hr hk hn hl
  have hl : lv_has ls 3 [(0, .ref l0)] := by simpa [lv_args, va_cat, cat_i, cat_r, cat_l] using hl
  have hl : lv_has ls 3 [(0, va_rf (some l0))] := hl
  obtain ⟨⟨hx, hb, hml, hown, hts⟩, -⟩ := id X
  generalize s.heap = H at B ⊢
  generalize ([] : List Loc) = locs at B ⊢
  unfold f_X6_numberHere at hf
  refine r_aload_n hx hb dX6_numberHere_0 rfl (lv_at hl 0 rfl) ?_
  refine r_gI X B hf fX6_3 (fun _ _ => rfl) m_61 dX6_numberHere_1 (fun v10 hf => ?_)
  refine lv_iconst (v := 2) hx hb dX6_numberHere_4 (by decide) ?_
  refine lv_icmp_ne (tgt := 21) hx hb dX6_numberHere_5 (by decide) (fun q_ => ?_) (fun q_ => ?_)
  · have hf := (r_ite hf).2 q_
    exact t_X6_numberHere_21 X hr hk hn  B (lv_sub hl [] rfl) hf
  · have hf := (r_ite hf).1 q_
    refine r_aload_n hx hb dX6_numberHere_8 rfl (lv_at hl 0 rfl) ?_
    refine r_gI X B hf fX6_5 (fun _ _ => rfl) m_63 dX6_numberHere_9 (fun v11 hf => ?_)
    refine r_aload_n hx hb dX6_numberHere_12 rfl (lv_at hl 0 rfl) ?_
    refine r_gI X B hf fX6_4 (fun _ _ => rfl) m_62 dX6_numberHere_13 (fun v12 hf => ?_)
    refine lv_isub hx hb dX6_numberHere_16 ?_
    refine lv_iconst (v := 3) hx hb dX6_numberHere_17 (by decide) ?_
    refine lv_icmp_le (tgt := 23) hx hb dX6_numberHere_18 (by decide) (fun q_ => ?_) (fun q_ => ?_)
    · have hf := (r_ite hf).1 q_
      refine lv_iconst (v := 0) hx hb dX6_numberHere_23 (by decide) ?_
      refine lv_istore_n (i := 1) (lv' := [(1, .int 0), (0, va_rf (some l0))]) hx hb dX6_numberHere_24 rfl hl (by decide) (by first | rfl | simp [va_cat, cat_i, cat_r, cat_l]) (fun ls hl => ?_)
      refine r_aload_n hx hb dX6_numberHere_25 rfl (lv_at hl 1 rfl) ?_
      refine r_gI X B hf fX6_4 (fun _ _ => rfl) m_62 dX6_numberHere_26 (fun v13 hf => ?_)
      refine lv_istore_n (i := 2) (lv' := [(2, .int v13), (1, .int 0), (0, va_rf (some l0))]) hx hb dX6_numberHere_29 rfl hl (by decide) (by first | rfl | simp [va_cat, cat_i, cat_r, cat_l]) (fun ls hl => ?_)
      exact t_X6_numberHere_30 X hr hk hn  _ _ _ _ _ _ _ _ B (lv_sub hl [2, 1, 0] rfl) hf
    · have hf := (r_ite hf).2 q_
      exact t_X6_numberHere_21 X hr hk hn  B (lv_sub hl [] rfl) hf
def f_X6_readStatement_148 (h : AH) (s0 : Int32) : Option (Int32 × AH) := rZ s0 h
def f_X6_readStatement_125 (h : AH) (l0 : Nat) (l2 : Int32) : Option (Int32 × AH) := if l2 = 0 then rZ 0 h else rcv h (some l0) 6 (fun a4 => cal (f_X6_nextToken h a4) (fun v1 h2 => gI h2 (some l0) 6 3 (fun v7 => if v7 = 3 then f_X6_readStatement_148 h2 1 else f_X6_readStatement_148 h2 0)))
def f_X6_readStatement_122 (h : AH) (l0 : Nat) (l2 : Int32) (s0 : Option Nat) (s1 : Int32) : Option (Int32 × AH) := pZ h s0 0 4 s1 (fun h8 => f_X6_readStatement_125 h8 l0 l2)
def f_X6_readStatement_117 (h : AH) (l0 : Nat) (l2 : Int32) (s0 : Option Nat) : Option (Int32 × AH) := f_X6_readStatement_122 h l0 l2 s0 1
def f_X6_readStatement_94 (h : AH) (l0 : Nat) (s0 : Int32) : Option (Int32 × AH) := f_X6_readStatement_125 h l0 s0
def f_X6_readStatement_56 (h : AH) (l0 : Nat) (s0 : Int32) : Option (Int32 × AH) := f_X6_readStatement_125 h l0 s0
def f_X6_readStatement (h : AH) (l0 : Nat) (l1 : Option Nat) : Option (Int32 × AH) := rcv h (some l0) 6 (fun a12 => cal (f_X6_isWord h a12 0) (fun v9 h10 => if v9 = 0 then rcv h10 (some l0) 6 (fun a18 => cal (f_X6_isWord h10 a18 1) (fun v15 h16 => if v15 = 0 then rcv h16 (some l0) 6 (fun a24 => cal (f_X6_isWord h16 a24 2) (fun v21 h22 => if v21 = 0 then rcv h22 (some l0) 6 (fun a30 => cal (f_X6_isWord h22 a30 3) (fun v27 h28 => gI h28 l1 0 4 (fun v33 => if v33 = 0 then if v27 = 0 then f_X6_readStatement_122 h28 l0 v27 l1 0 else f_X6_readStatement_117 h28 l0 v27 l1 else f_X6_readStatement_117 h28 l0 v27 l1))) else rcv h22 (some l0) 6 (fun a37 => cal (f_X6_nextToken h22 a37) (fun v34 h35 => rcv h35 (some l0) 6 (fun a43 => cal (f_X6_numberHere h35 a43) (fun v40 h41 => pI h41 l1 0 3 v40 (fun h46 => gI h46 l1 0 3 (fun v47 => if v47 = (-1) then f_X6_readStatement_94 h46 l0 0 else f_X6_readStatement_94 h46 l0 1)))))))) else rcv h16 (some l0) 6 (fun a51 => cal (f_X6_nextToken h16 a51) (fun v48 h49 => rcv h49 (some l0) 6 (fun a57 => cal (f_X6_numberHere h49 a57) (fun v54 h55 => pI h55 l1 0 2 v54 (fun h60 => gI h60 l1 0 2 (fun v61 => if v61 = (-1) then f_X6_readStatement_56 h60 l0 0 else f_X6_readStatement_56 h60 l0 1)))))))) else rcv h10 (some l0) 6 (fun a65 => cal (f_X6_nextToken h10 a65) (fun v62 h63 => rcv h63 (some l0) 6 (fun a71 => cal (f_X6_readFirst h63 a71 l1) (fun v68 h69 => f_X6_readStatement_125 h69 l0 v68))))))
set_option maxRecDepth 100000 in
set_option maxHeartbeats 4000000 in
theorem t_X6_readStatement_148 {p : Program} {l : Launch} {e : Env} {s : State} {m : MethodId} {args : Array Value} {below : List Frame} {meth : Method} {c : Code} {D : RG} {b : Nat} {vv : Int32} {hh : AH} (X : r_C p c cX6_readStatement 3 s m args RX6 D b) (hr : meth.sig.returnType = (some .boolean)) (hk : meth.locks = false) (hn : meth.name = "readStatement") {h : AH} {H : Heap} {locs : List Loc} {ls : Array Slot} {s0 : Int32} (B : r_B D b s h H locs) (hl : lv_has ls 3 []) (hf : f_X6_readStatement_148 h s0 = some (vv, hh)) : W p l e ({ frames := 6, cells := 0, slots := 0, locals := 128 } : Room) s m args below meth c H locs 0 0 (MQ below (r_Q D b (some (.int vv)) hh) args s 0 0 (fun q => b ≤ q)) (F0 m 148 ls [.int s0]) := by
  obtain ⟨⟨hx, hb, hml, hown, hts⟩, -⟩ := id X
  unfold f_X6_readStatement_148 at hf
  exact r_zret X B hr hk hf dX6_readStatement_148
set_option maxRecDepth 100000 in
set_option maxHeartbeats 4000000 in
theorem t_X6_readStatement_125 {p : Program} {l : Launch} {e : Env} {s : State} {m : MethodId} {args : Array Value} {below : List Frame} {meth : Method} {c : Code} {D : RG} {b : Nat} {vv : Int32} {hh : AH} (X : r_C p c cX6_readStatement 3 s m args RX6 D b) (hr : meth.sig.returnType = (some .boolean)) (hk : meth.locks = false) (hn : meth.name = "readStatement") {h : AH} {H : Heap} {locs : List Loc} {ls : Array Slot} {l0 : Nat} {l2 : Int32} (B : r_B D b s h H locs) (hl : lv_has ls 3 [(0, va_rf (some l0)), (2, .int l2)]) (hf : f_X6_readStatement_125 h l0 l2 = some (vv, hh)) : W p l e ({ frames := 6, cells := 0, slots := 0, locals := 128 } : Room) s m args below meth c H locs 0 0 (MQ below (r_Q D b (some (.int vv)) hh) args s 0 0 (fun q => b ≤ q)) (F0 m 125 ls []) := by
  obtain ⟨⟨hx, hb, hml, hown, hts⟩, -⟩ := id X
  unfold f_X6_readStatement_125 at hf
  refine lv_iload_n hx hb dX6_readStatement_125 rfl (lv_at hl 1 rfl) ?_
  refine lv_if_ne (tgt := 131) hx hb dX6_readStatement_126 (by decide) (fun q_ => ?_) (fun q_ => ?_)
  · have hf := (r_ite hf).2 q_
    refine r_aload_n hx hb dX6_readStatement_131 rfl (lv_at hl 0 rfl) ?_
    refine rcv_inv hf ?_
    intro a4 e5 s6 hf
    refine cal_inv hf ?_
    intro v1 h2 e3 hf
    refine r_call B (va_runV (As := []) (rest := []) X.1 (c_X6_nextToken (l := l) (D := D) (b := b) e3) (r_cwV X rfl m_306 m_307 m_308 m_20 m_309 rfl rfl hd_X6_nextToken ⟨Nat.le_of_ble_eq_true rfl, Nat.le_of_ble_eq_true rfl⟩) (r_preV X B s6 rfl []) rfl rfl hl.1 (by rw [e5]; rfl) (lv_room (by simp [va_cat, cat_i, cat_r, cat_l])) dX6_readStatement_132 ⟨Nat.zero_le _, Nat.zero_le _⟩) ?_
    intro H locs B
    refine W.cs (cells' := 0) (slots' := 0) rfl rfl (W.eq (g2 := F0 m 135 ls []) rfl ?_)
    refine r_aload_n hx hb dX6_readStatement_135 rfl (lv_at hl 0 rfl) ?_
    refine r_gI X B hf fX6_3 (fun _ _ => rfl) m_61 dX6_readStatement_136 (fun v7 hf => ?_)
    refine lv_iconst (v := 3) hx hb dX6_readStatement_139 (by decide) ?_
    refine lv_icmp_ne (tgt := 147) hx hb dX6_readStatement_140 (by decide) (fun q_ => ?_) (fun q_ => ?_)
    · have hf := (r_ite hf).2 q_
      refine lv_iconst (v := 0) hx hb dX6_readStatement_147 (by decide) ?_
      exact t_X6_readStatement_148 X hr hk hn  B (lv_sub hl [] rfl) hf
    · have hf := (r_ite hf).1 q_
      refine lv_iconst (v := 1) hx hb dX6_readStatement_143 (by decide) ?_
      refine lv_goto (tgt := 148) hx hb dX6_readStatement_144 (by decide) ?_
      exact t_X6_readStatement_148 X hr hk hn  B (lv_sub hl [] rfl) hf
  · have hf := (r_ite hf).1 q_
    refine lv_iconst (v := 0) hx hb dX6_readStatement_129 (by decide) ?_
    exact r_zret X B hr hk hf dX6_readStatement_130
set_option maxRecDepth 100000 in
set_option maxHeartbeats 4000000 in
theorem t_X6_readStatement_122 {p : Program} {l : Launch} {e : Env} {s : State} {m : MethodId} {args : Array Value} {below : List Frame} {meth : Method} {c : Code} {D : RG} {b : Nat} {vv : Int32} {hh : AH} (X : r_C p c cX6_readStatement 3 s m args RX6 D b) (hr : meth.sig.returnType = (some .boolean)) (hk : meth.locks = false) (hn : meth.name = "readStatement") {h : AH} {H : Heap} {locs : List Loc} {ls : Array Slot} {l0 : Nat} {l2 : Int32} {s0 : Option Nat} {s1 : Int32} (B : r_B D b s h H locs) (hl : lv_has ls 3 [(0, va_rf (some l0)), (2, .int l2)]) (hf : f_X6_readStatement_122 h l0 l2 s0 s1 = some (vv, hh)) : W p l e ({ frames := 6, cells := 0, slots := 0, locals := 128 } : Room) s m args below meth c H locs 0 0 (MQ below (r_Q D b (some (.int vv)) hh) args s 0 0 (fun q => b ≤ q)) (F0 m 122 ls [.int s1, va_rf s0]) := by
  obtain ⟨⟨hx, hb, hml, hown, hts⟩, -⟩ := id X
  unfold f_X6_readStatement_122 at hf
  refine r_pZ X B hf fX0_4 (Or.inl rfl) m_329 dX6_readStatement_122 (fun h8 H locs B hf => ?_)
  exact t_X6_readStatement_125 X hr hk hn  B (lv_sub hl [0, 1] rfl) hf
set_option maxRecDepth 100000 in
set_option maxHeartbeats 4000000 in
theorem t_X6_readStatement_117 {p : Program} {l : Launch} {e : Env} {s : State} {m : MethodId} {args : Array Value} {below : List Frame} {meth : Method} {c : Code} {D : RG} {b : Nat} {vv : Int32} {hh : AH} (X : r_C p c cX6_readStatement 3 s m args RX6 D b) (hr : meth.sig.returnType = (some .boolean)) (hk : meth.locks = false) (hn : meth.name = "readStatement") {h : AH} {H : Heap} {locs : List Loc} {ls : Array Slot} {l0 : Nat} {l2 : Int32} {s0 : Option Nat} (B : r_B D b s h H locs) (hl : lv_has ls 3 [(0, va_rf (some l0)), (2, .int l2)]) (hf : f_X6_readStatement_117 h l0 l2 s0 = some (vv, hh)) : W p l e ({ frames := 6, cells := 0, slots := 0, locals := 128 } : Room) s m args below meth c H locs 0 0 (MQ below (r_Q D b (some (.int vv)) hh) args s 0 0 (fun q => b ≤ q)) (F0 m 117 ls [va_rf s0]) := by
  obtain ⟨⟨hx, hb, hml, hown, hts⟩, -⟩ := id X
  unfold f_X6_readStatement_117 at hf
  refine lv_iconst (v := 1) hx hb dX6_readStatement_117 (by decide) ?_
  refine lv_goto (tgt := 122) hx hb dX6_readStatement_118 (by decide) ?_
  exact t_X6_readStatement_122 X hr hk hn  B (lv_sub hl [0, 1] rfl) hf
set_option maxRecDepth 100000 in
set_option maxHeartbeats 4000000 in
theorem t_X6_readStatement_94 {p : Program} {l : Launch} {e : Env} {s : State} {m : MethodId} {args : Array Value} {below : List Frame} {meth : Method} {c : Code} {D : RG} {b : Nat} {vv : Int32} {hh : AH} (X : r_C p c cX6_readStatement 3 s m args RX6 D b) (hr : meth.sig.returnType = (some .boolean)) (hk : meth.locks = false) (hn : meth.name = "readStatement") {h : AH} {H : Heap} {locs : List Loc} {ls : Array Slot} {l0 : Nat} {s0 : Int32} (B : r_B D b s h H locs) (hl : lv_has ls 3 [(0, va_rf (some l0))]) (hf : f_X6_readStatement_94 h l0 s0 = some (vv, hh)) : W p l e ({ frames := 6, cells := 0, slots := 0, locals := 128 } : Room) s m args below meth c H locs 0 0 (MQ below (r_Q D b (some (.int vv)) hh) args s 0 0 (fun q => b ≤ q)) (F0 m 94 ls [.int s0]) := by
  obtain ⟨⟨hx, hb, hml, hown, hts⟩, -⟩ := id X
  unfold f_X6_readStatement_94 at hf
  refine lv_istore_n (i := 2) (lv' := [(2, .int s0), (0, va_rf (some l0))]) hx hb dX6_readStatement_94 rfl hl (by decide) (by first | rfl | simp [va_cat, cat_i, cat_r, cat_l]) (fun ls hl => ?_)
  refine lv_goto (tgt := 125) hx hb dX6_readStatement_95 (by decide) ?_
  exact t_X6_readStatement_125 X hr hk hn  B (lv_sub hl [1, 0] rfl) hf
set_option maxRecDepth 100000 in
set_option maxHeartbeats 4000000 in
theorem t_X6_readStatement_56 {p : Program} {l : Launch} {e : Env} {s : State} {m : MethodId} {args : Array Value} {below : List Frame} {meth : Method} {c : Code} {D : RG} {b : Nat} {vv : Int32} {hh : AH} (X : r_C p c cX6_readStatement 3 s m args RX6 D b) (hr : meth.sig.returnType = (some .boolean)) (hk : meth.locks = false) (hn : meth.name = "readStatement") {h : AH} {H : Heap} {locs : List Loc} {ls : Array Slot} {l0 : Nat} {s0 : Int32} (B : r_B D b s h H locs) (hl : lv_has ls 3 [(0, va_rf (some l0))]) (hf : f_X6_readStatement_56 h l0 s0 = some (vv, hh)) : W p l e ({ frames := 6, cells := 0, slots := 0, locals := 128 } : Room) s m args below meth c H locs 0 0 (MQ below (r_Q D b (some (.int vv)) hh) args s 0 0 (fun q => b ≤ q)) (F0 m 56 ls [.int s0]) := by
  obtain ⟨⟨hx, hb, hml, hown, hts⟩, -⟩ := id X
  unfold f_X6_readStatement_56 at hf
  refine lv_istore_n (i := 2) (lv' := [(2, .int s0), (0, va_rf (some l0))]) hx hb dX6_readStatement_56 rfl hl (by decide) (by first | rfl | simp [va_cat, cat_i, cat_r, cat_l]) (fun ls hl => ?_)
  refine lv_goto (tgt := 125) hx hb dX6_readStatement_57 (by decide) ?_
  exact t_X6_readStatement_125 X hr hk hn  B (lv_sub hl [1, 0] rfl) hf
set_option maxRecDepth 100000 in
set_option maxHeartbeats 4000000 in
theorem c_X6_readStatement {l : Launch} {D : RG} {b : Nat} {h : AH} {l0 : Nat} {l1 : Option Nat} {vv : Int32} {hh : AH} (hf : f_X6_readStatement h l0 l1 = some (vv, hh)) : Met l yX6_readStatement (Cond.code yX6_readStatement cX6_readStatement 3 (some .boolean) :: wsL_law) ({ frames := 6, cells := 0, slots := 0, locals := 128 } : Room) (va_Pc [.ref l0, va_rf l1] (r_I D b h)) (r_Q D b (some (.int vv)) hh) 0 0 (fun q => b ≤ q) := by
  refine r_ofW (own := RX6) rfl (by decide +kernel) (by simp [lg_sl, va_cat, cat_i, cat_r, cat_l]) ?_
  intro p e s m args below meth c ls X B hr hk hn hl
  have hl : lv_has ls 3 [(0, .ref l0), (1, va_rf l1)] := by simpa [lv_args, va_cat, cat_i, cat_r, cat_l] using hl
  have hl : lv_has ls 3 [(0, va_rf (some l0)), (1, va_rf l1)] := hl
  obtain ⟨⟨hx, hb, hml, hown, hts⟩, -⟩ := id X
  generalize s.heap = H at B ⊢
  generalize ([] : List Loc) = locs at B ⊢
  unfold f_X6_readStatement at hf
  refine r_aload_n hx hb dX6_readStatement_0 rfl (lv_at hl 0 rfl) ?_
  refine va_ldcS hx hb hown (X.2.1.2.2.2.1 0 (by decide)) dX6_readStatement_1 ?_
  refine rcv_inv hf ?_
  intro a12 e13 s14 hf
  refine cal_inv hf ?_
  intro v9 h10 e11 hf
  refine r_call B (va_runV (As := [.ref (D.2.2.2.1 0)]) (rest := []) X.1 (c_X6_isWord (l := l) (D := D) (b := b) e11) (r_cwV X rfl m_330 m_331 m_332 m_20 m_333 rfl rfl hd_X6_isWord ⟨Nat.le_of_ble_eq_true rfl, Nat.le_of_ble_eq_true rfl⟩) (r_preV X B s14 rfl [.ref (D.2.2.2.1 0)]) rfl rfl hl.1 (by rw [e13]; rfl) (lv_room (by simp [va_cat, cat_i, cat_r, cat_l])) dX6_readStatement_3 ⟨Nat.zero_le _, Nat.zero_le _⟩) ?_
  intro H locs B
  refine W.cs (cells' := 0) (slots' := 0) rfl rfl (W.eq (g2 := F0 m 6 ls [.int v9]) rfl ?_)
  refine lv_if_eq (tgt := 22) hx hb dX6_readStatement_6 (by decide) (fun q_ => ?_) (fun q_ => ?_)
  · have hf := (r_ite hf).1 q_
    refine r_aload_n hx hb dX6_readStatement_22 rfl (lv_at hl 0 rfl) ?_
    refine va_ldcS hx hb hown (X.2.1.2.2.2.1 1 (by decide)) dX6_readStatement_23 ?_
    refine rcv_inv hf ?_
    intro a18 e19 s20 hf
    refine cal_inv hf ?_
    intro v15 h16 e17 hf
    refine r_call B (va_runV (As := [.ref (D.2.2.2.1 1)]) (rest := []) X.1 (c_X6_isWord (l := l) (D := D) (b := b) e17) (r_cwV X rfl m_330 m_331 m_332 m_20 m_333 rfl rfl hd_X6_isWord ⟨Nat.le_of_ble_eq_true rfl, Nat.le_of_ble_eq_true rfl⟩) (r_preV X B s20 rfl [.ref (D.2.2.2.1 1)]) rfl rfl hl.1 (by rw [e19]; rfl) (lv_room (by simp [va_cat, cat_i, cat_r, cat_l])) dX6_readStatement_25 ⟨Nat.zero_le _, Nat.zero_le _⟩) ?_
    intro H locs B
    refine W.cs (cells' := 0) (slots' := 0) rfl rfl (W.eq (g2 := F0 m 28 ls [.int v15]) rfl ?_)
    refine lv_if_eq (tgt := 60) hx hb dX6_readStatement_28 (by decide) (fun q_ => ?_) (fun q_ => ?_)
    · have hf := (r_ite hf).1 q_
      refine r_aload_n hx hb dX6_readStatement_60 rfl (lv_at hl 0 rfl) ?_
      refine va_ldcS hx hb hown (X.2.1.2.2.2.1 2 (by decide)) dX6_readStatement_61 ?_
      refine rcv_inv hf ?_
      intro a24 e25 s26 hf
      refine cal_inv hf ?_
      intro v21 h22 e23 hf
      refine r_call B (va_runV (As := [.ref (D.2.2.2.1 2)]) (rest := []) X.1 (c_X6_isWord (l := l) (D := D) (b := b) e23) (r_cwV X rfl m_330 m_331 m_332 m_20 m_333 rfl rfl hd_X6_isWord ⟨Nat.le_of_ble_eq_true rfl, Nat.le_of_ble_eq_true rfl⟩) (r_preV X B s26 rfl [.ref (D.2.2.2.1 2)]) rfl rfl hl.1 (by rw [e25]; rfl) (lv_room (by simp [va_cat, cat_i, cat_r, cat_l])) dX6_readStatement_63 ⟨Nat.zero_le _, Nat.zero_le _⟩) ?_
      intro H locs B
      refine W.cs (cells' := 0) (slots' := 0) rfl rfl (W.eq (g2 := F0 m 66 ls [.int v21]) rfl ?_)
      refine lv_if_eq (tgt := 98) hx hb dX6_readStatement_66 (by decide) (fun q_ => ?_) (fun q_ => ?_)
      · have hf := (r_ite hf).1 q_
        refine r_aload_n hx hb dX6_readStatement_98 rfl (lv_at hl 0 rfl) ?_
        refine va_ldcS hx hb hown (X.2.1.2.2.2.1 3 (by decide)) dX6_readStatement_99 ?_
        refine rcv_inv hf ?_
        intro a30 e31 s32 hf
        refine cal_inv hf ?_
        intro v27 h28 e29 hf
        refine r_call B (va_runV (As := [.ref (D.2.2.2.1 3)]) (rest := []) X.1 (c_X6_isWord (l := l) (D := D) (b := b) e29) (r_cwV X rfl m_330 m_331 m_332 m_20 m_333 rfl rfl hd_X6_isWord ⟨Nat.le_of_ble_eq_true rfl, Nat.le_of_ble_eq_true rfl⟩) (r_preV X B s32 rfl [.ref (D.2.2.2.1 3)]) rfl rfl hl.1 (by rw [e31]; rfl) (lv_room (by simp [va_cat, cat_i, cat_r, cat_l])) dX6_readStatement_101 ⟨Nat.zero_le _, Nat.zero_le _⟩) ?_
        intro H locs B
        refine W.cs (cells' := 0) (slots' := 0) rfl rfl (W.eq (g2 := F0 m 104 ls [.int v27]) rfl ?_)
        refine lv_istore_n (i := 2) (lv' := [(2, .int v27), (0, va_rf (some l0)), (1, va_rf l1)]) hx hb dX6_readStatement_104 rfl hl (by decide) (by first | rfl | simp [va_cat, cat_i, cat_r, cat_l]) (fun ls hl => ?_)
        refine r_aload_n hx hb dX6_readStatement_105 rfl (lv_at hl 2 rfl) ?_
        refine r_aload_n hx hb dX6_readStatement_106 rfl (lv_at hl 2 rfl) ?_
        refine r_gI X B hf fX0_4 (fun _ _ => rfl) m_329 dX6_readStatement_107 (fun v33 hf => ?_)
        refine lv_if_ne (tgt := 117) hx hb dX6_readStatement_110 (by decide) (fun q_ => ?_) (fun q_ => ?_)
        · have hf := (r_ite hf).2 q_
          exact t_X6_readStatement_117 X hr hk hn  B (lv_sub hl [1, 0] rfl) hf
        · have hf := (r_ite hf).1 q_
          refine lv_iload_n hx hb dX6_readStatement_113 rfl (lv_at hl 0 rfl) ?_
          refine lv_if_eq (tgt := 121) hx hb dX6_readStatement_114 (by decide) (fun q_ => ?_) (fun q_ => ?_)
          · have hf := (r_ite hf).1 q_
            refine lv_iconst (v := 0) hx hb dX6_readStatement_121 (by decide) ?_
            exact t_X6_readStatement_122 X hr hk hn  B (lv_sub hl [1, 0] rfl) hf
          · have hf := (r_ite hf).2 q_
            exact t_X6_readStatement_117 X hr hk hn  B (lv_sub hl [1, 0] rfl) hf
      · have hf := (r_ite hf).2 q_
        refine r_aload_n hx hb dX6_readStatement_69 rfl (lv_at hl 0 rfl) ?_
        refine rcv_inv hf ?_
        intro a37 e38 s39 hf
        refine cal_inv hf ?_
        intro v34 h35 e36 hf
        refine r_call B (va_runV (As := []) (rest := []) X.1 (c_X6_nextToken (l := l) (D := D) (b := b) e36) (r_cwV X rfl m_306 m_307 m_308 m_20 m_309 rfl rfl hd_X6_nextToken ⟨Nat.le_of_ble_eq_true rfl, Nat.le_of_ble_eq_true rfl⟩) (r_preV X B s39 rfl []) rfl rfl hl.1 (by rw [e38]; rfl) (lv_room (by simp [va_cat, cat_i, cat_r, cat_l])) dX6_readStatement_70 ⟨Nat.zero_le _, Nat.zero_le _⟩) ?_
        intro H locs B
        refine W.cs (cells' := 0) (slots' := 0) rfl rfl (W.eq (g2 := F0 m 73 ls []) rfl ?_)
        refine r_aload_n hx hb dX6_readStatement_73 rfl (lv_at hl 1 rfl) ?_
        refine r_aload_n hx hb dX6_readStatement_74 rfl (lv_at hl 0 rfl) ?_
        refine rcv_inv hf ?_
        intro a43 e44 s45 hf
        refine cal_inv hf ?_
        intro v40 h41 e42 hf
        refine r_call B (va_runV (As := []) (rest := [va_rf l1]) X.1 (c_X6_numberHere (l := l) (D := D) (b := b) e42) (r_cwV X rfl m_391 m_392 m_393 m_20 m_394 rfl rfl hd_X6_numberHere ⟨Nat.le_of_ble_eq_true rfl, Nat.le_of_ble_eq_true rfl⟩) (r_preV X B s45 rfl []) rfl rfl hl.1 (by rw [e44]; rfl) (lv_room (by simp [va_cat, cat_i, cat_r, cat_l])) dX6_readStatement_75 ⟨Nat.zero_le _, Nat.zero_le _⟩) ?_
        intro H locs B
        refine W.cs (cells' := 0) (slots' := 0) rfl rfl (W.eq (g2 := F0 m 78 ls [.int v40, va_rf l1]) rfl ?_)
        refine r_pI X B hf fX0_3 (Or.inl rfl) m_328 dX6_readStatement_78 (fun h46 H locs B hf => ?_)
        refine r_aload_n hx hb dX6_readStatement_81 rfl (lv_at hl 1 rfl) ?_
        refine r_gI X B hf fX0_3 (fun _ _ => rfl) m_328 dX6_readStatement_82 (fun v47 hf => ?_)
        refine lv_iconst (v := (-1)) hx hb dX6_readStatement_85 (by decide) ?_
        refine lv_icmp_eq (tgt := 93) hx hb dX6_readStatement_86 (by decide) (fun q_ => ?_) (fun q_ => ?_)
        · have hf := (r_ite hf).1 q_
          refine lv_iconst (v := 0) hx hb dX6_readStatement_93 (by decide) ?_
          exact t_X6_readStatement_94 X hr hk hn  B (lv_sub hl [0] rfl) hf
        · have hf := (r_ite hf).2 q_
          refine lv_iconst (v := 1) hx hb dX6_readStatement_89 (by decide) ?_
          refine lv_goto (tgt := 94) hx hb dX6_readStatement_90 (by decide) ?_
          exact t_X6_readStatement_94 X hr hk hn  B (lv_sub hl [0] rfl) hf
    · have hf := (r_ite hf).2 q_
      refine r_aload_n hx hb dX6_readStatement_31 rfl (lv_at hl 0 rfl) ?_
      refine rcv_inv hf ?_
      intro a51 e52 s53 hf
      refine cal_inv hf ?_
      intro v48 h49 e50 hf
      refine r_call B (va_runV (As := []) (rest := []) X.1 (c_X6_nextToken (l := l) (D := D) (b := b) e50) (r_cwV X rfl m_306 m_307 m_308 m_20 m_309 rfl rfl hd_X6_nextToken ⟨Nat.le_of_ble_eq_true rfl, Nat.le_of_ble_eq_true rfl⟩) (r_preV X B s53 rfl []) rfl rfl hl.1 (by rw [e52]; rfl) (lv_room (by simp [va_cat, cat_i, cat_r, cat_l])) dX6_readStatement_32 ⟨Nat.zero_le _, Nat.zero_le _⟩) ?_
      intro H locs B
      refine W.cs (cells' := 0) (slots' := 0) rfl rfl (W.eq (g2 := F0 m 35 ls []) rfl ?_)
      refine r_aload_n hx hb dX6_readStatement_35 rfl (lv_at hl 1 rfl) ?_
      refine r_aload_n hx hb dX6_readStatement_36 rfl (lv_at hl 0 rfl) ?_
      refine rcv_inv hf ?_
      intro a57 e58 s59 hf
      refine cal_inv hf ?_
      intro v54 h55 e56 hf
      refine r_call B (va_runV (As := []) (rest := [va_rf l1]) X.1 (c_X6_numberHere (l := l) (D := D) (b := b) e56) (r_cwV X rfl m_391 m_392 m_393 m_20 m_394 rfl rfl hd_X6_numberHere ⟨Nat.le_of_ble_eq_true rfl, Nat.le_of_ble_eq_true rfl⟩) (r_preV X B s59 rfl []) rfl rfl hl.1 (by rw [e58]; rfl) (lv_room (by simp [va_cat, cat_i, cat_r, cat_l])) dX6_readStatement_37 ⟨Nat.zero_le _, Nat.zero_le _⟩) ?_
      intro H locs B
      refine W.cs (cells' := 0) (slots' := 0) rfl rfl (W.eq (g2 := F0 m 40 ls [.int v54, va_rf l1]) rfl ?_)
      refine r_pI X B hf fX0_2 (Or.inl rfl) m_327 dX6_readStatement_40 (fun h60 H locs B hf => ?_)
      refine r_aload_n hx hb dX6_readStatement_43 rfl (lv_at hl 1 rfl) ?_
      refine r_gI X B hf fX0_2 (fun _ _ => rfl) m_327 dX6_readStatement_44 (fun v61 hf => ?_)
      refine lv_iconst (v := (-1)) hx hb dX6_readStatement_47 (by decide) ?_
      refine lv_icmp_eq (tgt := 55) hx hb dX6_readStatement_48 (by decide) (fun q_ => ?_) (fun q_ => ?_)
      · have hf := (r_ite hf).1 q_
        refine lv_iconst (v := 0) hx hb dX6_readStatement_55 (by decide) ?_
        exact t_X6_readStatement_56 X hr hk hn  B (lv_sub hl [0] rfl) hf
      · have hf := (r_ite hf).2 q_
        refine lv_iconst (v := 1) hx hb dX6_readStatement_51 (by decide) ?_
        refine lv_goto (tgt := 56) hx hb dX6_readStatement_52 (by decide) ?_
        exact t_X6_readStatement_56 X hr hk hn  B (lv_sub hl [0] rfl) hf
  · have hf := (r_ite hf).2 q_
    refine r_aload_n hx hb dX6_readStatement_9 rfl (lv_at hl 0 rfl) ?_
    refine rcv_inv hf ?_
    intro a65 e66 s67 hf
    refine cal_inv hf ?_
    intro v62 h63 e64 hf
    refine r_call B (va_runV (As := []) (rest := []) X.1 (c_X6_nextToken (l := l) (D := D) (b := b) e64) (r_cwV X rfl m_306 m_307 m_308 m_20 m_309 rfl rfl hd_X6_nextToken ⟨Nat.le_of_ble_eq_true rfl, Nat.le_of_ble_eq_true rfl⟩) (r_preV X B s67 rfl []) rfl rfl hl.1 (by rw [e66]; rfl) (lv_room (by simp [va_cat, cat_i, cat_r, cat_l])) dX6_readStatement_10 ⟨Nat.zero_le _, Nat.zero_le _⟩) ?_
    intro H locs B
    refine W.cs (cells' := 0) (slots' := 0) rfl rfl (W.eq (g2 := F0 m 13 ls []) rfl ?_)
    refine r_aload_n hx hb dX6_readStatement_13 rfl (lv_at hl 0 rfl) ?_
    refine r_aload_n hx hb dX6_readStatement_14 rfl (lv_at hl 1 rfl) ?_
    refine rcv_inv hf ?_
    intro a71 e72 s73 hf
    refine cal_inv hf ?_
    intro v68 h69 e70 hf
    refine r_call B (va_runV (As := [va_rf l1]) (rest := []) X.1 (c_X6_readFirst (l := l) (D := D) (b := b) e70) (r_cwV X rfl m_383 m_384 m_385 m_20 m_386 rfl rfl hd_X6_readFirst ⟨Nat.le_of_ble_eq_true rfl, Nat.le_of_ble_eq_true rfl⟩) (r_preV X B s73 rfl [va_rf l1]) rfl rfl hl.1 (by rw [e72]; rfl) (lv_room (by simp [va_cat, cat_i, cat_r, cat_l])) dX6_readStatement_15 ⟨Nat.zero_le _, Nat.zero_le _⟩) ?_
    intro H locs B
    refine W.cs (cells' := 0) (slots' := 0) rfl rfl (W.eq (g2 := F0 m 18 ls [.int v68]) rfl ?_)
    refine lv_istore_n (i := 2) (lv' := [(2, .int v68), (0, va_rf (some l0)), (1, va_rf l1)]) hx hb dX6_readStatement_18 rfl hl (by decide) (by first | rfl | simp [va_cat, cat_i, cat_r, cat_l]) (fun ls hl => ?_)
    refine lv_goto (tgt := 125) hx hb dX6_readStatement_19 (by decide) ?_
    exact t_X6_readStatement_125 X hr hk hn  B (lv_sub hl [1, 0] rfl) hf
def f_X6_faultReading_79 (h : AH) (s0 : Int32) : Option (Int32 × AH) := some (s0, h)
def f_X6_faultReading_64 (h : AH) (l0 : Nat) : Option (Int32 × AH) := gI h (some l0) 6 3 (fun v1 => if v1 = 0 then f_X6_faultReading_79 h (-1) else gI h (some l0) 6 4 (fun v2 => f_X6_faultReading_79 h v2))
def f_X6_faultReading_18 : Nat → AH → Nat → Option Nat → Option (Int32 × AH)
  | 0, _, _, _ => none
  | n + 1, h, l0, l1 => gI h (some l0) 6 3 (fun v3 => if v3 = 0 then f_X6_faultReading_64 h l0 else gI h l1 0 5 (fun v4 => if 10 ≤ v4 then f_X6_faultReading_64 h l0 else rcv h (some l0) 6 (fun a8 => cal (f_X6_readStatement h a8 l1) (fun v5 h6 => if v5 = 0 then gI h6 (some l0) 6 4 (fun v19 => some (v19, h6)) else gI h6 l1 0 5 (fun v11 => pI h6 l1 0 5 (v11 + 1) (fun h12 => rcv h12 (some l0) 6 (fun a16 => cal (f_X6_nextToken h12 a16) (fun v13 h14 => f_X6_faultReading_18 n h14 l0 l1))))))))
def f_X6_faultReading (h : AH) (l0 : Nat) (l1 : Option Nat) (l2 : Int32) : Option (Int32 × AH) := pI h (some l0) 6 2 l2 (fun h20 => pI h20 (some l0) 6 5 0 (fun h21 => rcv h21 l1 0 (fun a25 => cal (f_X0_clear h21 a25) (fun v22 h23 => rcv h23 (some l0) 6 (fun a31 => cal (f_X6_nextToken h23 a31) (fun v28 h29 => f_X6_faultReading_18 FU h29 l0 l1))))))
set_option maxRecDepth 100000 in
set_option maxHeartbeats 4000000 in
theorem t_X6_faultReading_79 {p : Program} {l : Launch} {e : Env} {s : State} {m : MethodId} {args : Array Value} {below : List Frame} {meth : Method} {c : Code} {D : RG} {b : Nat} {vv : Int32} {hh : AH} (X : r_C p c cX6_faultReading 3 s m args RX6 D b) (hr : meth.sig.returnType = (some .int)) (hk : meth.locks = false) (hn : meth.name = "faultReading") {h : AH} {H : Heap} {locs : List Loc} {ls : Array Slot} {s0 : Int32} (B : r_B D b s h H locs) (hl : lv_has ls 3 []) (hf : f_X6_faultReading_79 h s0 = some (vv, hh)) : W p l e ({ frames := 7, cells := 0, slots := 0, locals := 150 } : Room) s m args below meth c H locs 0 0 (MQ below (r_Q D b (some (.int vv)) hh) args s 0 0 (fun q => b ≤ q)) (F0 m 79 ls [.int s0]) := by
  obtain ⟨⟨hx, hb, hml, hown, hts⟩, -⟩ := id X
  unfold f_X6_faultReading_79 at hf
  exact r_iret X B hr hk hf dX6_faultReading_79
set_option maxRecDepth 100000 in
set_option maxHeartbeats 4000000 in
theorem t_X6_faultReading_64 {p : Program} {l : Launch} {e : Env} {s : State} {m : MethodId} {args : Array Value} {below : List Frame} {meth : Method} {c : Code} {D : RG} {b : Nat} {vv : Int32} {hh : AH} (X : r_C p c cX6_faultReading 3 s m args RX6 D b) (hr : meth.sig.returnType = (some .int)) (hk : meth.locks = false) (hn : meth.name = "faultReading") {h : AH} {H : Heap} {locs : List Loc} {ls : Array Slot} {l0 : Nat} (B : r_B D b s h H locs) (hl : lv_has ls 3 [(0, va_rf (some l0))]) (hf : f_X6_faultReading_64 h l0 = some (vv, hh)) : W p l e ({ frames := 7, cells := 0, slots := 0, locals := 150 } : Room) s m args below meth c H locs 0 0 (MQ below (r_Q D b (some (.int vv)) hh) args s 0 0 (fun q => b ≤ q)) (F0 m 64 ls []) := by
  obtain ⟨⟨hx, hb, hml, hown, hts⟩, -⟩ := id X
  unfold f_X6_faultReading_64 at hf
  refine r_aload_n hx hb dX6_faultReading_64 rfl (lv_at hl 0 rfl) ?_
  refine r_gI X B hf fX6_3 (fun _ _ => rfl) m_61 dX6_faultReading_65 (fun v1 hf => ?_)
  refine lv_if_ne (tgt := 75) hx hb dX6_faultReading_68 (by decide) (fun q_ => ?_) (fun q_ => ?_)
  · have hf := (r_ite hf).2 q_
    refine r_aload_n hx hb dX6_faultReading_75 rfl (lv_at hl 0 rfl) ?_
    refine r_gI X B hf fX6_4 (fun _ _ => rfl) m_62 dX6_faultReading_76 (fun v2 hf => ?_)
    exact t_X6_faultReading_79 X hr hk hn  B (lv_sub hl [] rfl) hf
  · have hf := (r_ite hf).1 q_
    refine lv_iconst (v := (-1)) hx hb dX6_faultReading_71 (by decide) ?_
    refine lv_goto (tgt := 79) hx hb dX6_faultReading_72 (by decide) ?_
    exact t_X6_faultReading_79 X hr hk hn  B (lv_sub hl [] rfl) hf
set_option maxRecDepth 100000 in
set_option maxHeartbeats 4000000 in
theorem t_X6_faultReading_18 {p : Program} {l : Launch} {e : Env} {s : State} {m : MethodId} {args : Array Value} {below : List Frame} {meth : Method} {c : Code} {D : RG} {b : Nat} {vv : Int32} {hh : AH} (X : r_C p c cX6_faultReading 3 s m args RX6 D b) (hr : meth.sig.returnType = (some .int)) (hk : meth.locks = false) (hn : meth.name = "faultReading") : ∀ (n : Nat) (h : AH) (H : Heap) (locs : List Loc) (ls : Array Slot) (l0 : Nat) (l1 : Option Nat), r_B D b s h H locs → lv_has ls 3 [(0, va_rf (some l0)), (1, va_rf l1)] → f_X6_faultReading_18 n h l0 l1 = some (vv, hh) → W p l e ({ frames := 7, cells := 0, slots := 0, locals := 150 } : Room) s m args below meth c H locs 0 0 (MQ below (r_Q D b (some (.int vv)) hh) args s 0 0 (fun q => b ≤ q)) (F0 m 18 ls []) := by
  obtain ⟨⟨hx, hb, hml, hown, hts⟩, -⟩ := id X
  intro n
  induction n with
  | zero =>
    intro h H locs ls l0 l1 B hl hf
    cases hf
  | succ n ih =>
    intro h H locs ls l0 l1 B hl hf
    unfold f_X6_faultReading_18 at hf
    refine r_aload_n hx hb dX6_faultReading_18 rfl (lv_at hl 0 rfl) ?_
    refine r_gI X B hf fX6_3 (fun _ _ => rfl) m_61 dX6_faultReading_19 (fun v3 hf => ?_)
    refine lv_if_eq (tgt := 64) hx hb dX6_faultReading_22 (by decide) (fun q_ => ?_) (fun q_ => ?_)
    · have hf := (r_ite hf).1 q_
      exact t_X6_faultReading_64 X hr hk hn  B (lv_sub hl [0] rfl) hf
    · have hf := (r_ite hf).2 q_
      refine r_aload_n hx hb dX6_faultReading_25 rfl (lv_at hl 1 rfl) ?_
      refine r_gI X B hf fX0_5 (fun _ _ => rfl) m_301 dX6_faultReading_26 (fun v4 hf => ?_)
      refine lv_bipush (v := 10) hx hb dX6_faultReading_29 (by decide) ?_
      refine lv_icmp_ge (tgt := 64) hx hb dX6_faultReading_31 (by decide) (fun q_ => ?_) (fun q_ => ?_)
      · have hf := (r_ite hf).1 q_
        exact t_X6_faultReading_64 X hr hk hn  B (lv_sub hl [0] rfl) hf
      · have hf := (r_ite hf).2 q_
        refine r_aload_n hx hb dX6_faultReading_34 rfl (lv_at hl 0 rfl) ?_
        refine r_aload_n hx hb dX6_faultReading_35 rfl (lv_at hl 1 rfl) ?_
        refine rcv_inv hf ?_
        intro a8 e9 s10 hf
        refine cal_inv hf ?_
        intro v5 h6 e7 hf
        refine r_call B (va_runV (As := [va_rf l1]) (rest := []) X.1 (c_X6_readStatement (l := l) (D := D) (b := b) e7) (r_cwV X rfl m_323 m_324 m_325 m_20 m_326 rfl rfl hd_X6_readStatement ⟨Nat.le_of_ble_eq_true rfl, Nat.le_of_ble_eq_true rfl⟩) (r_preV X B s10 rfl [va_rf l1]) rfl rfl hl.1 (by rw [e9]; rfl) (lv_room (by simp [va_cat, cat_i, cat_r, cat_l])) dX6_faultReading_36 ⟨Nat.zero_le _, Nat.zero_le _⟩) ?_
        intro H locs B
        refine W.cs (cells' := 0) (slots' := 0) rfl rfl (W.eq (g2 := F0 m 39 ls [.int v5]) rfl ?_)
        refine lv_if_ne (tgt := 47) hx hb dX6_faultReading_39 (by decide) (fun q_ => ?_) (fun q_ => ?_)
        · have hf := (r_ite hf).2 q_
          refine r_aload_n hx hb dX6_faultReading_47 rfl (lv_at hl 1 rfl) ?_
          refine lv_dup hx hb dX6_faultReading_48 (va_cat _) ?_
          refine r_gI X B hf fX0_5 (fun _ _ => rfl) m_301 dX6_faultReading_49 (fun v11 hf => ?_)
          refine lv_iconst (v := 1) hx hb dX6_faultReading_52 (by decide) ?_
          refine lv_iadd hx hb dX6_faultReading_53 ?_
          refine r_pI X B hf fX0_5 (Or.inl rfl) m_301 dX6_faultReading_54 (fun h12 H locs B hf => ?_)
          refine r_aload_n hx hb dX6_faultReading_57 rfl (lv_at hl 0 rfl) ?_
          refine rcv_inv hf ?_
          intro a16 e17 s18 hf
          refine cal_inv hf ?_
          intro v13 h14 e15 hf
          refine r_call B (va_runV (As := []) (rest := []) X.1 (c_X6_nextToken (l := l) (D := D) (b := b) e15) (r_cwV X rfl m_306 m_307 m_308 m_20 m_309 rfl rfl hd_X6_nextToken ⟨Nat.le_of_ble_eq_true rfl, Nat.le_of_ble_eq_true rfl⟩) (r_preV X B s18 rfl []) rfl rfl hl.1 (by rw [e17]; rfl) (lv_room (by simp [va_cat, cat_i, cat_r, cat_l])) dX6_faultReading_58 ⟨Nat.zero_le _, Nat.zero_le _⟩) ?_
          intro H locs B
          refine W.cs (cells' := 0) (slots' := 0) rfl rfl (W.eq (g2 := F0 m 61 ls []) rfl ?_)
          refine lv_goto (tgt := 18) hx hb dX6_faultReading_61 (by decide) ?_
          exact ih _ _ _ _ _ _ B (lv_sub hl [0, 1] rfl) hf
        · have hf := (r_ite hf).1 q_
          refine r_aload_n hx hb dX6_faultReading_42 rfl (lv_at hl 0 rfl) ?_
          refine r_gI X B hf fX6_4 (fun _ _ => rfl) m_62 dX6_faultReading_43 (fun v19 hf => ?_)
          exact r_iret X B hr hk hf dX6_faultReading_46
set_option maxRecDepth 100000 in
set_option maxHeartbeats 4000000 in
theorem c_X6_faultReading {l : Launch} {D : RG} {b : Nat} {h : AH} {l0 : Nat} {l1 : Option Nat} {l2 : Int32} {vv : Int32} {hh : AH} (hf : f_X6_faultReading h l0 l1 l2 = some (vv, hh)) : Met l yX6_faultReading (Cond.code yX6_faultReading cX6_faultReading 3 (some .int) :: wsL_law) ({ frames := 7, cells := 0, slots := 0, locals := 150 } : Room) (va_Pc [.ref l0, va_rf l1, .int l2] (r_I D b h)) (r_Q D b (some (.int vv)) hh) 0 0 (fun q => b ≤ q) := by
  refine r_ofW (own := RX6) rfl (by decide +kernel) (by simp [lg_sl, va_cat, cat_i, cat_r, cat_l]) ?_
  intro p e s m args below meth c ls X B hr hk hn hl
  have hl : lv_has ls 3 [(0, .ref l0), (1, va_rf l1), (2, .int l2)] := by simpa [lv_args, va_cat, cat_i, cat_r, cat_l] using hl
  have hl : lv_has ls 3 [(0, va_rf (some l0)), (1, va_rf l1), (2, .int l2)] := hl
  obtain ⟨⟨hx, hb, hml, hown, hts⟩, -⟩ := id X
  generalize s.heap = H at B ⊢
  generalize ([] : List Loc) = locs at B ⊢
  unfold f_X6_faultReading at hf
  refine r_aload_n hx hb dX6_faultReading_0 rfl (lv_at hl 0 rfl) ?_
  refine lv_iload_n hx hb dX6_faultReading_1 rfl (lv_at hl 2 rfl) ?_
  refine r_pI X B hf fX6_2 (Or.inl rfl) m_60 dX6_faultReading_2 (fun h20 H locs B hf => ?_)
  refine r_aload_n hx hb dX6_faultReading_5 rfl (lv_at hl 0 rfl) ?_
  refine lv_iconst (v := 0) hx hb dX6_faultReading_6 (by decide) ?_
  refine r_pI X B hf fX6_5 (Or.inl rfl) m_63 dX6_faultReading_7 (fun h21 H locs B hf => ?_)
  refine r_aload_n hx hb dX6_faultReading_10 rfl (lv_at hl 1 rfl) ?_
  refine rcv_inv hf ?_
  intro a25 e26 s27 hf
  refine cal_inv hf ?_
  intro v22 h23 e24 hf
  refine r_call B (va_runV (As := []) (rest := []) X.1 (c_X0_clear (l := l) (D := D) (b := b) e24) (r_cwV X rfl m_302 m_303 m_304 m_24 m_305 rfl rfl hd_X0_clear ⟨Nat.le_of_ble_eq_true rfl, Nat.le_of_ble_eq_true rfl⟩) (r_preV X B s27 rfl []) rfl rfl hl.1 (by rw [e26]; rfl) (lv_room (by simp [va_cat, cat_i, cat_r, cat_l])) dX6_faultReading_11 ⟨Nat.zero_le _, Nat.zero_le _⟩) ?_
  intro H locs B
  refine W.cs (cells' := 0) (slots' := 0) rfl rfl (W.eq (g2 := F0 m 14 ls []) rfl ?_)
  refine r_aload_n hx hb dX6_faultReading_14 rfl (lv_at hl 0 rfl) ?_
  refine rcv_inv hf ?_
  intro a31 e32 s33 hf
  refine cal_inv hf ?_
  intro v28 h29 e30 hf
  refine r_call B (va_runV (As := []) (rest := []) X.1 (c_X6_nextToken (l := l) (D := D) (b := b) e30) (r_cwV X rfl m_306 m_307 m_308 m_20 m_309 rfl rfl hd_X6_nextToken ⟨Nat.le_of_ble_eq_true rfl, Nat.le_of_ble_eq_true rfl⟩) (r_preV X B s33 rfl []) rfl rfl hl.1 (by rw [e32]; rfl) (lv_room (by simp [va_cat, cat_i, cat_r, cat_l])) dX6_faultReading_15 ⟨Nat.zero_le _, Nat.zero_le _⟩) ?_
  intro H locs B
  refine W.cs (cells' := 0) (slots' := 0) rfl rfl (W.eq (g2 := F0 m 18 ls []) rfl ?_)
  exact t_X6_faultReading_18 X hr hk hn  _ _ _ _ _ _ _ B (lv_sub hl [0, 1] rfl) hf
