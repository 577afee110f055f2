def f_L_law_845 (xs : Nat → Int32) (L : Nat) (k_28 : AH → Option Nat → Option Nat → Int32 → Option (Unit × AH)) (h : AH) (l1 : Option Nat) (l2 : Option Nat) (l3 : Int32) : Option (Unit × AH) := bd (l3 + 6) (fun v1 => k_28 h l1 l2 v1)
def f_L_law_289 (xs : Nat → Int32) (L : Nat) (k_28 : AH → Option Nat → Option Nat → Int32 → Option (Unit × AH)) (h : AH) (l1 : Option Nat) (l2 : Option Nat) (l3 : Int32) (s0 : Int32) (s1 : Option Nat) (s2 : Int32) (s3 : Int32) (s4 : Int32) (s5 : Int32) (s6 : Int32) : Option (Unit × AH) := rcv h s1 8 (fun a5 => cal (f_X8_field h a5 s2 s3 s4 s5 s6) (fun v2 h3 => if s0 = v2 then f_L_law_845 xs L k_28 h3 l1 l2 l3 else none))
def f_L_law_252 (xs : Nat → Int32) (L : Nat) (k_28 : AH → Option Nat → Option Nat → Int32 → Option (Unit × AH)) (h : AH) (l1 : Option Nat) (l2 : Option Nat) (l3 : Int32) (s0 : Option Nat) (s1 : Int32) (s2 : Int32) (s3 : Int32) (s4 : Int32) (s5 : Int32) : Option (Unit × AH) := rcv h s0 7 (fun a11 => cal (f_X7_field h a11 s1 s2 s3 s4 s5) (fun v8 h9 => scr xs L (l3 + 1) (fun v14 => scr xs L (l3 + 2) (fun v15 => scr xs L (l3 + 3) (fun v16 => scr xs L (l3 + 4) (fun v17 => scr xs L (l3 + 5) (fun v18 => if v18 = 0 then f_L_law_289 xs L k_28 h9 l1 l2 l3 v8 l2 v14 v15 v16 v17 0 else f_L_law_289 xs L k_28 h9 l1 l2 l3 v8 l2 v14 v15 v16 v17 1)))))))
def f_L_law_28 (xs : Nat → Int32) (L : Nat) : Nat → AH → Option Nat → Option Nat → Int32 → Option (Unit × AH)
  | 0, _, _, _, _ => none
  | n + 1, h, l1, l2, l3 => if ((Int32.ofNat L) - 6) < l3 then some ((), h) else scr xs L l3 (fun v20 => bd (v20 &&& 31) (fun v21 => if v21 = 0 then scr xs L (l3 + 1) (fun v22 => scr xs L (l3 + 2) (fun v23 => scr xs L (l3 + 3) (fun v24 => scr xs L (l3 + 4) (fun v25 => rcv h l1 7 (fun a29 => cal (f_X7_tank h a29 v22 v23 v24 v25) (fun v26 h27 => scr xs L (l3 + 1) (fun v32 => scr xs L (l3 + 2) (fun v33 => scr xs L (l3 + 3) (fun v34 => scr xs L (l3 + 4) (fun v35 => rcv h27 l2 8 (fun a39 => cal (f_X8_tank h27 a39 v32 v33 v34 v35) (fun v36 h37 => if v26 = v36 then f_L_law_845 xs L (f_L_law_28 xs L n) h37 l1 l2 l3 else none)))))))))))) else if v21 = 1 then scr xs L (l3 + 1) (fun v42 => scr xs L (l3 + 2) (fun v43 => rcv h l1 7 (fun a47 => cal (f_X7_water h a47 v42 v43) (fun v44 h45 => scr xs L (l3 + 1) (fun v50 => scr xs L (l3 + 2) (fun v51 => rcv h45 l2 8 (fun a55 => cal (f_X8_water h45 a55 v50 v51) (fun v52 h53 => if v44 = v52 then f_L_law_845 xs L (f_L_law_28 xs L n) h53 l1 l2 l3 else none)))))))) else if v21 = 2 then scr xs L (l3 + 1) (fun v58 => scr xs L (l3 + 2) (fun v59 => scr xs L (l3 + 3) (fun v60 => scr xs L (l3 + 4) (fun v61 => scr xs L (l3 + 5) (fun v62 => if v62 = 0 then f_L_law_252 xs L (f_L_law_28 xs L n) h l1 l2 l3 l1 v58 v59 v60 v61 0 else f_L_law_252 xs L (f_L_law_28 xs L n) h l1 l2 l3 l1 v58 v59 v60 v61 1))))) else if v21 = 3 then scr xs L (l3 + 1) (fun v63 => scr xs L (l3 + 2) (fun v64 => rcv h l1 7 (fun a68 => cal (f_X7_open h a68 v63 v64) (fun v65 h66 => scr xs L (l3 + 1) (fun v71 => scr xs L (l3 + 2) (fun v72 => rcv h66 l2 8 (fun a76 => cal (f_X8_open h66 a76 v71 v72) (fun v73 h74 => if v65 = v73 then f_L_law_845 xs L (f_L_law_28 xs L n) h74 l1 l2 l3 else none)))))))) else if v21 = 4 then scr xs L (l3 + 1) (fun v79 => scr xs L (l3 + 2) (fun v80 => rcv h l1 7 (fun a84 => cal (f_X7_mend h a84 v79 v80) (fun v81 h82 => scr xs L (l3 + 1) (fun v87 => scr xs L (l3 + 2) (fun v88 => rcv h82 l2 8 (fun a92 => cal (f_X8_mend h82 a92 v87 v88) (fun v89 h90 => if v81 = v89 then f_L_law_845 xs L (f_L_law_28 xs L n) h90 l1 l2 l3 else none)))))))) else if v21 = 5 then scr xs L (l3 + 1) (fun v95 => scr xs L (l3 + 2) (fun v96 => rcv h l1 7 (fun a100 => cal (f_X7_dredge h a100 v95 v96) (fun v97 h98 => scr xs L (l3 + 1) (fun v103 => scr xs L (l3 + 2) (fun v104 => rcv h98 l2 8 (fun a108 => cal (f_X8_dredge h98 a108 v103 v104) (fun v105 h106 => if v97 = v105 then f_L_law_845 xs L (f_L_law_28 xs L n) h106 l1 l2 l3 else none)))))))) else if v21 = 6 then scr xs L (l3 + 1) (fun v111 => scr xs L (l3 + 2) (fun v112 => scr xs L (l3 + 3) (fun v113 => scr xs L (l3 + 4) (fun v114 => scr xs L (l3 + 5) (fun v115 => rcv h l1 7 (fun a119 => cal (f_X7_feed h a119 v111 v112 v113 v114 v115) (fun v116 h117 => scr xs L (l3 + 1) (fun v122 => scr xs L (l3 + 2) (fun v123 => scr xs L (l3 + 3) (fun v124 => scr xs L (l3 + 4) (fun v125 => scr xs L (l3 + 5) (fun v126 => rcv h117 l2 8 (fun a130 => cal (f_X8_feed h117 a130 v122 v123 v124 v125 v126) (fun v127 h128 => if v116 = v127 then f_L_law_845 xs L (f_L_law_28 xs L n) h128 l1 l2 l3 else none)))))))))))))) else if v21 = 7 then scr xs L (l3 + 1) (fun v133 => rcv h l1 7 (fun a137 => cal (f_X7_custom h a137 v133) (fun v134 h135 => scr xs L (l3 + 1) (fun v140 => rcv h135 l2 8 (fun a144 => cal (f_X8_custom_ h135 a144 v140) (fun v141 h142 => if v134 = v141 then f_L_law_845 xs L (f_L_law_28 xs L n) h142 l1 l2 l3 else none)))))) else if v21 = 8 then rcv h l1 7 (fun a150 => cal (f_X7_fault h a150) (fun v147 h148 => rcv h148 l2 8 (fun a156 => cal (f_X8_fault h148 a156) (fun v153 h154 => if v147 = v153 then f_L_law_845 xs L (f_L_law_28 xs L n) h154 l1 l2 l3 else none)))) else if v21 = 9 then scr xs L (l3 + 1) (fun v159 => rcv h l1 7 (fun a163 => cal (f_X7_day h a163 v159) (fun v160 h161 => scr xs L (l3 + 1) (fun v166 => rcv h161 l2 8 (fun a170 => cal (f_X8_day h161 a170 v166) (fun v167 h168 => if v160 = v167 then f_L_law_845 xs L (f_L_law_28 xs L n) h168 l1 l2 l3 else none)))))) else if v21 = 10 then scr xs L (l3 + 1) (fun v173 => scr xs L (l3 + 2) (fun v174 => rcv h l1 7 (fun a178 => cal (f_X7_told h a178 v173 v174) (fun v175 h176 => scr xs L (l3 + 1) (fun v181 => scr xs L (l3 + 2) (fun v182 => rcv h176 l2 8 (fun a186 => cal (f_X8_told h176 a186 v181 v182) (fun v183 h184 => if v175 = v183 then f_L_law_845 xs L (f_L_law_28 xs L n) h184 l1 l2 l3 else none)))))))) else if v21 = 11 then scr xs L (l3 + 1) (fun v189 => scr xs L (l3 + 2) (fun v190 => rcv h l1 7 (fun a194 => cal (f_X7_fieldOf h a194 v189 v190) (fun v191 h192 => scr xs L (l3 + 1) (fun v197 => scr xs L (l3 + 2) (fun v198 => rcv h192 l2 8 (fun a202 => cal (f_X8_fieldOf h192 a202 v197 v198) (fun v199 h200 => if v191 = v199 then f_L_law_845 xs L (f_L_law_28 xs L n) h200 l1 l2 l3 else none)))))))) else if v21 = 12 then scr xs L (l3 + 1) (fun v205 => scr xs L (l3 + 2) (fun v206 => rcv h l1 7 (fun a210 => cal (f_X7_order h a210 v205 v206) (fun v207 h208 => scr xs L (l3 + 1) (fun v213 => scr xs L (l3 + 2) (fun v214 => rcv h208 l2 8 (fun a218 => cal (f_X8_order h208 a218 v213 v214) (fun v215 h216 => if v207 = v215 then f_L_law_845 xs L (f_L_law_28 xs L n) h216 l1 l2 l3 else none)))))))) else if v21 = 13 then scr xs L (l3 + 1) (fun v221 => rcv h l1 7 (fun a225 => cal (f_X7_owner h a225 v221) (fun v222 h223 => scr xs L (l3 + 1) (fun v228 => rcv h223 l2 8 (fun a232 => cal (f_X8_owner h223 a232 v228) (fun v229 h230 => if v222 = v229 then f_L_law_845 xs L (f_L_law_28 xs L n) h230 l1 l2 l3 else none)))))) else if v21 = 14 then scr xs L (l3 + 1) (fun v235 => scr xs L (l3 + 2) (fun v236 => scr xs L (l3 + 3) (fun v237 => rcv h l1 7 (fun a241 => cal (f_X7_tried h a241 v235 v236 v237) (fun v238 h239 => scr xs L (l3 + 1) (fun v244 => scr xs L (l3 + 2) (fun v245 => scr xs L (l3 + 3) (fun v246 => rcv h239 l2 8 (fun a250 => cal (f_X8_tried h239 a250 v244 v245 v246) (fun v247 h248 => if v238 = v247 then f_L_law_845 xs L (f_L_law_28 xs L n) h248 l1 l2 l3 else none)))))))))) else if v21 = 15 then scr xs L (l3 + 1) (fun v253 => scr xs L (l3 + 2) (fun v254 => scr xs L (l3 + 3) (fun v255 => scr xs L (l3 + 4) (fun v256 => rcv h l1 7 (fun a260 => cal (f_X7_lost h a260 v253 v254 v255 v256) (fun v257 h258 => scr xs L (l3 + 1) (fun v263 => scr xs L (l3 + 2) (fun v264 => scr xs L (l3 + 3) (fun v265 => scr xs L (l3 + 4) (fun v266 => rcv h258 l2 8 (fun a270 => cal (f_X8_lost h258 a270 v263 v264 v265 v266) (fun v267 h268 => if v257 = v267 then f_L_law_845 xs L (f_L_law_28 xs L n) h268 l1 l2 l3 else none)))))))))))) else if v21 = 16 then scr xs L (l3 + 1) (fun v273 => scr xs L (l3 + 2) (fun v274 => scr xs L (l3 + 3) (fun v275 => scr xs L (l3 + 4) (fun v276 => scr xs L (l3 + 5) (fun v277 => rcv h l1 7 (fun a281 => cal (f_X7_most h a281 v273 v274 v275 v276 v277) (fun v278 h279 => scr xs L (l3 + 1) (fun v284 => scr xs L (l3 + 2) (fun v285 => scr xs L (l3 + 3) (fun v286 => scr xs L (l3 + 4) (fun v287 => scr xs L (l3 + 5) (fun v288 => rcv h279 l2 8 (fun a292 => cal (f_X8_most h279 a292 v284 v285 v286 v287 v288) (fun v289 h290 => if v278 = v289 then f_L_law_845 xs L (f_L_law_28 xs L n) h290 l1 l2 l3 else none)))))))))))))) else if v21 = 17 then scr xs L (l3 + 1) (fun v295 => rcv h l1 7 (fun a299 => cal (f_X7_breach h a299 v295) (fun v296 h297 => scr xs L (l3 + 1) (fun v302 => rcv h297 l2 8 (fun a306 => cal (f_X8_breach h297 a306 v302) (fun v303 h304 => if v296 = v303 then f_L_law_845 xs L (f_L_law_28 xs L n) h304 l1 l2 l3 else none)))))) else if v21 = 18 then scr xs L (l3 + 1) (fun v309 => rcv h l1 7 (fun a313 => cal (f_X7_count h a313 v309) (fun v310 h311 => scr xs L (l3 + 1) (fun v316 => rcv h311 l2 8 (fun a320 => cal (f_X8_count h311 a320 v316) (fun v317 h318 => if v310 = v317 then f_L_law_845 xs L (f_L_law_28 xs L n) h318 l1 l2 l3 else none)))))) else f_L_law_845 xs L (f_L_law_28 xs L n) h l1 l2 l3))
def f_L_law (xs : Nat → Int32) (L : Nat) (h : AH) : Option (Unit × AH) := nO h 7 (fun a323 h324 => bd (cellF xs L) (fun v325 => rcv h324 (some a323) 7 (fun a329 => cal (f_X7_init h324 a329 v325) (fun v326 h327 => nO h327 8 (fun a332 h333 => bd (cellF xs L) (fun v334 => rcv h333 (some a332) 8 (fun a338 => cal (f_X8_init h333 a338 v334) (fun v335 h336 => f_L_law_28 xs L 520 h336 (some a323) (some a332) 1))))))))
set_option maxRecDepth 100000 in
set_option maxHeartbeats 4000000 in
theorem t_L_law_845 {p : Program} {l : Launch} {e : Env} {s : State} {m : MethodId} {below : List Frame} {meth : Method} {c : Code} {D : RG} {b0 L : Nat} {xs : Nat → Int32} {hh : AH} (X : r_C p c cL_law 4 s m #[Value.ref b0] RL D s.heap.size) (hr : meth.sig.returnType = ret) (hk : meth.locks = false) (hX : va_X b0 L xs s s.heap) (hbl : b0 < s.heap.size) (hLs : L < 2 ^ 31) {k_28 : AH → Option Nat → Option Nat → Int32 → Option (Unit × AH)} {ce sl cb sb : Nat} (r_28 : ∀ (h : AH) (H : Heap) (locs : List Loc) (ls : Array Slot) (l1 : Option Nat) (l2 : Option Nat) (l3 : Int32), r_B D s.heap.size s h H locs → lv_has ls 4 [(0, .ref b0), (1, va_rf l1), (2, va_rf l2), (3, .int l3)] → k_28 h l1 l2 l3 = some ((), hh) → W p l e room_1 s m #[Value.ref b0] below meth c H locs cb sb (lw_Z below #[Value.ref b0] s) (F0 m 28 ls [])) (hce : ce + 0 ≤ cb) (hse : sl + 0 ≤ sb) (hcb : cb ≤ 600000) (hsb : sb ≤ 7302250) {h : AH} {H : Heap} {locs : List Loc} {ls : Array Slot} {l1 : Option Nat} {l2 : Option Nat} {l3 : Int32} (B : r_B D s.heap.size s h H locs) (hl : lv_has ls 4 [(0, .ref b0), (1, va_rf l1), (2, va_rf l2), (3, .int l3)]) (hf : f_L_law_845 xs L k_28 h l1 l2 l3 = some ((), hh)) : W p l e room_1 s m #[Value.ref b0] below meth c H locs ce sl (lw_Z below #[Value.ref b0] s) (F0 m 845 ls []) := by
  obtain ⟨⟨hx, hb, hml, hown, hts⟩, -⟩ := id X
  unfold f_L_law_845 at hf
  refine W.cs (cells' := (ce + 0)) (slots' := (sl + 0)) rfl rfl ?_
  refine r_iinc (lv' := fun v1 => [(3, .int v1), (0, .ref b0), (1, va_rf l1), (2, va_rf l2)]) hx hb hf dL_law_845 hl (k := 3) rfl (by decide) (by decide) (fun v => by first | rfl | simp [va_cat, cat_i, cat_r, cat_l]) (fun v1 ls hl hf => ?_)
  refine lv_goto (tgt := 28) hx hb dL_law_848 (by decide) ?_
  refine W.widen (k := cb) (n := sb) (by omega) (by omega) ?_
  exact r_28 _ _ _ _ _ _ _ B (lv_sub hl [1, 2, 3, 0] rfl) hf
set_option maxRecDepth 100000 in
set_option maxHeartbeats 4000000 in
theorem t_L_law_289 {p : Program} {l : Launch} {e : Env} {s : State} {m : MethodId} {below : List Frame} {meth : Method} {c : Code} {D : RG} {b0 L : Nat} {xs : Nat → Int32} {hh : AH} (X : r_C p c cL_law 4 s m #[Value.ref b0] RL D s.heap.size) (hr : meth.sig.returnType = ret) (hk : meth.locks = false) (hX : va_X b0 L xs s s.heap) (hbl : b0 < s.heap.size) (hLs : L < 2 ^ 31) {k_28 : AH → Option Nat → Option Nat → Int32 → Option (Unit × AH)} {ce sl cb sb : Nat} (r_28 : ∀ (h : AH) (H : Heap) (locs : List Loc) (ls : Array Slot) (l1 : Option Nat) (l2 : Option Nat) (l3 : Int32), r_B D s.heap.size s h H locs → lv_has ls 4 [(0, .ref b0), (1, va_rf l1), (2, va_rf l2), (3, .int l3)] → k_28 h l1 l2 l3 = some ((), hh) → W p l e room_1 s m #[Value.ref b0] below meth c H locs cb sb (lw_Z below #[Value.ref b0] s) (F0 m 28 ls [])) (hce : ce + 0 ≤ cb) (hse : sl + 0 ≤ sb) (hcb : cb ≤ 600000) (hsb : sb ≤ 7302250) {h : AH} {H : Heap} {locs : List Loc} {ls : Array Slot} {l1 : Option Nat} {l2 : Option Nat} {l3 : Int32} {s0 : Int32} {s1 : Option Nat} {s2 : Int32} {s3 : Int32} {s4 : Int32} {s5 : Int32} {s6 : Int32} (B : r_B D s.heap.size s h H locs) (hl : lv_has ls 4 [(0, .ref b0), (1, va_rf l1), (2, va_rf l2), (3, .int l3)]) (hf : f_L_law_289 xs L k_28 h l1 l2 l3 s0 s1 s2 s3 s4 s5 s6 = some ((), hh)) : W p l e room_1 s m #[Value.ref b0] below meth c H locs ce sl (lw_Z below #[Value.ref b0] s) (F0 m 289 ls [.int s6, .int s5, .int s4, .int s3, .int s2, va_rf s1, .int s0]) := by
  obtain ⟨⟨hx, hb, hml, hown, hts⟩, -⟩ := id X
  unfold f_L_law_289 at hf
  refine W.cs (cells' := (ce + 0)) (slots' := (sl + 0)) rfl rfl ?_
  refine rcv_inv hf ?_
  intro a5 e6 s7 hf
  refine cal_inv hf ?_
  intro v2 h3 e4 hf
  refine r_call B (va_runV (As := [.int s2, .int s3, .int s4, .int s5, .int s6]) (rest := [.int s0]) X.1 (c_X8_field (l := l) (D := D) (b := s.heap.size) e4) (r_cwV X rfl m_239 m_240 m_241 m_5 m_242 rfl rfl hd_X8_field ⟨Nat.le_of_ble_eq_true rfl, Nat.le_of_ble_eq_true rfl⟩) (r_preV X B s7 rfl [.int s2, .int s3, .int s4, .int s5, .int s6]) rfl rfl hl.1 (by rw [e6]; rfl) (lv_room (by simp [va_cat, cat_i, cat_r, cat_l])) dL_law_289 ⟨(by first | (show _ ≤ 600000; omega) | (show _ ≤ 7302250; omega)), (by first | (show _ ≤ 600000; omega) | (show _ ≤ 7302250; omega))⟩) ?_
  intro H locs B
  refine W.cs (cells' := (ce + 0)) (slots' := (sl + 0)) rfl rfl (W.eq (g2 := F0 m 292 ls [.int v2, .int s0]) rfl ?_)
  refine lv_icmp_eq (tgt := 845) hx hb dL_law_292 (by decide) (fun q_ => ?_) (fun q_ => ?_)
  · have hf := (r_ite hf).1 q_
    exact t_L_law_845 X hr hk hX hbl hLs r_28 (by omega) (by omega) (by omega) (by omega) B (lv_sub hl [0, 1, 2, 3] rfl) hf
  · have hf := (r_ite hf).2 q_
    refine lv_iconst (v := 0) hx hb dL_law_295 (by decide) ?_
    cases hf
set_option maxRecDepth 100000 in
set_option maxHeartbeats 4000000 in
theorem t_L_law_252 {p : Program} {l : Launch} {e : Env} {s : State} {m : MethodId} {below : List Frame} {meth : Method} {c : Code} {D : RG} {b0 L : Nat} {xs : Nat → Int32} {hh : AH} (X : r_C p c cL_law 4 s m #[Value.ref b0] RL D s.heap.size) (hr : meth.sig.returnType = ret) (hk : meth.locks = false) (hX : va_X b0 L xs s s.heap) (hbl : b0 < s.heap.size) (hLs : L < 2 ^ 31) {k_28 : AH → Option Nat → Option Nat → Int32 → Option (Unit × AH)} {ce sl cb sb : Nat} (r_28 : ∀ (h : AH) (H : Heap) (locs : List Loc) (ls : Array Slot) (l1 : Option Nat) (l2 : Option Nat) (l3 : Int32), r_B D s.heap.size s h H locs → lv_has ls 4 [(0, .ref b0), (1, va_rf l1), (2, va_rf l2), (3, .int l3)] → k_28 h l1 l2 l3 = some ((), hh) → W p l e room_1 s m #[Value.ref b0] below meth c H locs cb sb (lw_Z below #[Value.ref b0] s) (F0 m 28 ls [])) (hce : ce + 1 ≤ cb) (hse : sl + 12 ≤ sb) (hcb : cb ≤ 600000) (hsb : sb ≤ 7302250) {h : AH} {H : Heap} {locs : List Loc} {ls : Array Slot} {l1 : Option Nat} {l2 : Option Nat} {l3 : Int32} {s0 : Option Nat} {s1 : Int32} {s2 : Int32} {s3 : Int32} {s4 : Int32} {s5 : Int32} (B : r_B D s.heap.size s h H locs) (hl : lv_has ls 4 [(0, .ref b0), (1, va_rf l1), (2, va_rf l2), (3, .int l3)]) (hf : f_L_law_252 xs L k_28 h l1 l2 l3 s0 s1 s2 s3 s4 s5 = some ((), hh)) : W p l e room_1 s m #[Value.ref b0] below meth c H locs ce sl (lw_Z below #[Value.ref b0] s) (F0 m 252 ls [.int s5, .int s4, .int s3, .int s2, .int s1, va_rf s0]) := by
  obtain ⟨⟨hx, hb, hml, hown, hts⟩, -⟩ := id X
  unfold f_L_law_252 at hf
  refine W.cs (cells' := (ce + 0)) (slots' := (sl + 0)) rfl rfl ?_
  refine rcv_inv hf ?_
  intro a11 e12 s13 hf
  refine cal_inv hf ?_
  intro v8 h9 e10 hf
  refine r_call B (va_runV (As := [.int s1, .int s2, .int s3, .int s4, .int s5]) (rest := []) X.1 (c_X7_field (l := l) (D := D) (b := s.heap.size) e10) (r_cwV X rfl m_201 m_202 m_203 m_2 m_204 rfl rfl hd_X7_field ⟨Nat.le_of_ble_eq_true rfl, Nat.le_of_ble_eq_true rfl⟩) (r_preV X B s13 rfl [.int s1, .int s2, .int s3, .int s4, .int s5]) rfl rfl hl.1 (by rw [e12]; rfl) (lv_room (by simp [va_cat, cat_i, cat_r, cat_l])) dL_law_252 ⟨(by first | (show _ ≤ 600000; omega) | (show _ ≤ 7302250; omega)), (by first | (show _ ≤ 600000; omega) | (show _ ≤ 7302250; omega))⟩) ?_
  intro H locs B
  refine W.cs (cells' := (ce + 1)) (slots' := (sl + 12)) rfl rfl (W.eq (g2 := F0 m 255 ls [.int v8]) rfl ?_)
  refine r_aload_n hx hb dL_law_255 rfl (lv_at hl 2 rfl) ?_
  refine lv_aload_n hx hb dL_law_256 rfl (lv_at hl 0 rfl) ?_
  refine lv_iload_n hx hb dL_law_257 rfl (lv_at hl 3 rfl) ?_
  refine lv_iconst (v := 1) hx hb dL_law_258 (by decide) ?_
  refine lv_iadd hx hb dL_law_259 ?_
  refine r_scr X hX hbl B hf dL_law_260 (fun v14 hf => ?_)
  refine lv_aload_n hx hb dL_law_261 rfl (lv_at hl 0 rfl) ?_
  refine lv_iload_n hx hb dL_law_262 rfl (lv_at hl 3 rfl) ?_
  refine lv_iconst (v := 2) hx hb dL_law_263 (by decide) ?_
  refine lv_iadd hx hb dL_law_264 ?_
  refine r_scr X hX hbl B hf dL_law_265 (fun v15 hf => ?_)
  refine lv_aload_n hx hb dL_law_266 rfl (lv_at hl 0 rfl) ?_
  refine lv_iload_n hx hb dL_law_267 rfl (lv_at hl 3 rfl) ?_
  refine lv_iconst (v := 3) hx hb dL_law_268 (by decide) ?_
  refine lv_iadd hx hb dL_law_269 ?_
  refine r_scr X hX hbl B hf dL_law_270 (fun v16 hf => ?_)
  refine lv_aload_n hx hb dL_law_271 rfl (lv_at hl 0 rfl) ?_
  refine lv_iload_n hx hb dL_law_272 rfl (lv_at hl 3 rfl) ?_
  refine lv_iconst (v := 4) hx hb dL_law_273 (by decide) ?_
  refine lv_iadd hx hb dL_law_274 ?_
  refine r_scr X hX hbl B hf dL_law_275 (fun v17 hf => ?_)
  refine lv_aload_n hx hb dL_law_276 rfl (lv_at hl 0 rfl) ?_
  refine lv_iload_n hx hb dL_law_277 rfl (lv_at hl 3 rfl) ?_
  refine lv_iconst (v := 5) hx hb dL_law_278 (by decide) ?_
  refine lv_iadd hx hb dL_law_279 ?_
  refine r_scr X hX hbl B hf dL_law_280 (fun v18 hf => ?_)
  refine lv_if_eq (tgt := 288) hx hb dL_law_281 (by decide) (fun q_ => ?_) (fun q_ => ?_)
  · have hf := (r_ite hf).1 q_
    refine lv_iconst (v := 0) hx hb dL_law_288 (by decide) ?_
    exact t_L_law_289 X hr hk hX hbl hLs r_28 (by omega) (by omega) (by omega) (by omega) B (lv_sub hl [0, 1, 2, 3] rfl) hf
  · have hf := (r_ite hf).2 q_
    refine lv_iconst (v := 1) hx hb dL_law_284 (by decide) ?_
    refine lv_goto (tgt := 289) hx hb dL_law_285 (by decide) ?_
    exact t_L_law_289 X hr hk hX hbl hLs r_28 (by omega) (by omega) (by omega) (by omega) B (lv_sub hl [0, 1, 2, 3] rfl) hf
set_option maxRecDepth 100000 in
set_option maxHeartbeats 4000000 in
theorem t_L_law_28 {p : Program} {l : Launch} {e : Env} {s : State} {m : MethodId} {below : List Frame} {meth : Method} {c : Code} {D : RG} {b0 L : Nat} {xs : Nat → Int32} {hh : AH} (X : r_C p c cL_law 4 s m #[Value.ref b0] RL D s.heap.size) (hr : meth.sig.returnType = ret) (hk : meth.locks = false) (hX : va_X b0 L xs s s.heap) (hbl : b0 < s.heap.size) (hLs : L < 2 ^ 31) : ∀ (n : Nat) (_ : n ≤ 520) (h : AH) (H : Heap) (locs : List Loc) (ls : Array Slot) (l1 : Option Nat) (l2 : Option Nat) (l3 : Int32), r_B D s.heap.size s h H locs → lv_has ls 4 [(0, .ref b0), (1, va_rf l1), (2, va_rf l2), (3, .int l3)] → f_L_law_28 xs L n h l1 l2 l3 = some ((), hh) → W p l e room_1 s m #[Value.ref b0] below meth c H locs (77 + 1 * (520 - n)) (1924 + 12 * (520 - n)) (lw_Z below #[Value.ref b0] s) (F0 m 28 ls []) := by
  obtain ⟨⟨hx, hb, hml, hown, hts⟩, -⟩ := id X
  intro n
  induction n with
  | zero =>
    intro hle h H locs ls l1 l2 l3 B hl hf
    cases hf
  | succ n ih =>
    intro hle h H locs ls l1 l2 l3 B hl hf
    unfold f_L_law_28 at hf
    refine W.cs (cells' := ((77 + 1 * (520 - (n + 1))) + 0)) (slots' := ((1924 + 12 * (520 - (n + 1))) + 0)) rfl rfl ?_
    refine lv_iload_n hx hb dL_law_28 rfl (lv_at hl 3 rfl) ?_
    refine lv_aload_n hx hb dL_law_29 rfl (lv_at hl 0 rfl) ?_
    refine va_slen hx hb hX hbl (Nat.not_le.mpr hbl) B.2 dL_law_30 ?_
    refine lv_bipush (v := 6) hx hb dL_law_31 (by decide) ?_
    refine lv_isub hx hb dL_law_33 ?_
    refine lv_icmp_gt (tgt := 851) hx hb dL_law_34 (by decide) (fun q_ => ?_) (fun q_ => ?_)
    · have hf := (r_ite hf).1 q_
      refine lv_iconst (v := 1) hx hb dL_law_851 (by decide) ?_
      refine va_forget (fun q hq => B.2.2.2 q hq) ?_
      refine W.widen (k := 600000) (n := 7302250) (by omega) (by omega) ?_
      exact lw_ret hx hb hr hk dL_law_852
    · have hf := (r_ite hf).2 q_
      refine lv_aload_n hx hb dL_law_37 rfl (lv_at hl 0 rfl) ?_
      refine lv_iload_n hx hb dL_law_38 rfl (lv_at hl 3 rfl) ?_
      refine r_scr X hX hbl B hf dL_law_39 (fun v20 hf => ?_)
      refine lv_bipush (v := 31) hx hb dL_law_40 (by decide) ?_
      refine lv_iand hx hb dL_law_42 ?_
      refine r_bd hf (fun v21 hf => ?_)
      by_cases q_0 : v21 = 0
      · have hf := (r_ite hf).1 q_0
        refine lv_tableIn (off := 89) (tgt := 132) hx hb dL_law_43 (by rw [q_0]; decide) (by rw [q_0]; decide) (by rw [q_0]; rfl) (by decide) ?_
        refine r_aload_n hx hb dL_law_132 rfl (lv_at hl 1 rfl) ?_
        refine lv_aload_n hx hb dL_law_133 rfl (lv_at hl 0 rfl) ?_
        refine lv_iload_n hx hb dL_law_134 rfl (lv_at hl 3 rfl) ?_
        refine lv_iconst (v := 1) hx hb dL_law_135 (by decide) ?_
        refine lv_iadd hx hb dL_law_136 ?_
        refine r_scr X hX hbl B hf dL_law_137 (fun v22 hf => ?_)
        refine lv_aload_n hx hb dL_law_138 rfl (lv_at hl 0 rfl) ?_
        refine lv_iload_n hx hb dL_law_139 rfl (lv_at hl 3 rfl) ?_
        refine lv_iconst (v := 2) hx hb dL_law_140 (by decide) ?_
        refine lv_iadd hx hb dL_law_141 ?_
        refine r_scr X hX hbl B hf dL_law_142 (fun v23 hf => ?_)
        refine lv_aload_n hx hb dL_law_143 rfl (lv_at hl 0 rfl) ?_
        refine lv_iload_n hx hb dL_law_144 rfl (lv_at hl 3 rfl) ?_
        refine lv_iconst (v := 3) hx hb dL_law_145 (by decide) ?_
        refine lv_iadd hx hb dL_law_146 ?_
        refine r_scr X hX hbl B hf dL_law_147 (fun v24 hf => ?_)
        refine lv_aload_n hx hb dL_law_148 rfl (lv_at hl 0 rfl) ?_
        refine lv_iload_n hx hb dL_law_149 rfl (lv_at hl 3 rfl) ?_
        refine lv_iconst (v := 4) hx hb dL_law_150 (by decide) ?_
        refine lv_iadd hx hb dL_law_151 ?_
        refine r_scr X hX hbl B hf dL_law_152 (fun v25 hf => ?_)
        refine rcv_inv hf ?_
        intro a29 e30 s31 hf
        refine cal_inv hf ?_
        intro v26 h27 e28 hf
        refine r_call B (va_runV (As := [.int v22, .int v23, .int v24, .int v25]) (rest := []) X.1 (c_X7_tank (l := l) (D := D) (b := s.heap.size) e28) (r_cwV X rfl m_155 m_156 m_157 m_2 m_158 rfl rfl hd_X7_tank ⟨Nat.le_of_ble_eq_true rfl, Nat.le_of_ble_eq_true rfl⟩) (r_preV X B s31 rfl [.int v22, .int v23, .int v24, .int v25]) rfl rfl hl.1 (by rw [e30]; rfl) (lv_room (by simp [va_cat, cat_i, cat_r, cat_l])) dL_law_153 ⟨(by first | (show _ ≤ 600000; omega) | (show _ ≤ 7302250; omega)), (by first | (show _ ≤ 600000; omega) | (show _ ≤ 7302250; omega))⟩) ?_
        intro H locs B
        refine W.cs (cells' := ((77 + 1 * (520 - (n + 1))) + 0)) (slots' := ((1924 + 12 * (520 - (n + 1))) + 0)) rfl rfl (W.eq (g2 := F0 m 156 ls [.int v26]) rfl ?_)
        refine r_aload_n hx hb dL_law_156 rfl (lv_at hl 2 rfl) ?_
        refine lv_aload_n hx hb dL_law_157 rfl (lv_at hl 0 rfl) ?_
        refine lv_iload_n hx hb dL_law_158 rfl (lv_at hl 3 rfl) ?_
        refine lv_iconst (v := 1) hx hb dL_law_159 (by decide) ?_
        refine lv_iadd hx hb dL_law_160 ?_
        refine r_scr X hX hbl B hf dL_law_161 (fun v32 hf => ?_)
        refine lv_aload_n hx hb dL_law_162 rfl (lv_at hl 0 rfl) ?_
        refine lv_iload_n hx hb dL_law_163 rfl (lv_at hl 3 rfl) ?_
        refine lv_iconst (v := 2) hx hb dL_law_164 (by decide) ?_
        refine lv_iadd hx hb dL_law_165 ?_
        refine r_scr X hX hbl B hf dL_law_166 (fun v33 hf => ?_)
        refine lv_aload_n hx hb dL_law_167 rfl (lv_at hl 0 rfl) ?_
        refine lv_iload_n hx hb dL_law_168 rfl (lv_at hl 3 rfl) ?_
        refine lv_iconst (v := 3) hx hb dL_law_169 (by decide) ?_
        refine lv_iadd hx hb dL_law_170 ?_
        refine r_scr X hX hbl B hf dL_law_171 (fun v34 hf => ?_)
        refine lv_aload_n hx hb dL_law_172 rfl (lv_at hl 0 rfl) ?_
        refine lv_iload_n hx hb dL_law_173 rfl (lv_at hl 3 rfl) ?_
        refine lv_iconst (v := 4) hx hb dL_law_174 (by decide) ?_
        refine lv_iadd hx hb dL_law_175 ?_
        refine r_scr X hX hbl B hf dL_law_176 (fun v35 hf => ?_)
        refine rcv_inv hf ?_
        intro a39 e40 s41 hf
        refine cal_inv hf ?_
        intro v36 h37 e38 hf
        refine r_call B (va_runV (As := [.int v32, .int v33, .int v34, .int v35]) (rest := [.int v26]) X.1 (c_X8_tank (l := l) (D := D) (b := s.heap.size) e38) (r_cwV X rfl m_169 m_170 m_171 m_5 m_172 rfl rfl hd_X8_tank ⟨Nat.le_of_ble_eq_true rfl, Nat.le_of_ble_eq_true rfl⟩) (r_preV X B s41 rfl [.int v32, .int v33, .int v34, .int v35]) rfl rfl hl.1 (by rw [e40]; rfl) (lv_room (by simp [va_cat, cat_i, cat_r, cat_l])) dL_law_177 ⟨(by first | (show _ ≤ 600000; omega) | (show _ ≤ 7302250; omega)), (by first | (show _ ≤ 600000; omega) | (show _ ≤ 7302250; omega))⟩) ?_
        intro H locs B
        refine W.cs (cells' := ((77 + 1 * (520 - (n + 1))) + 0)) (slots' := ((1924 + 12 * (520 - (n + 1))) + 0)) rfl rfl (W.eq (g2 := F0 m 180 ls [.int v36, .int v26]) rfl ?_)
        refine lv_icmp_eq (tgt := 845) hx hb dL_law_180 (by decide) (fun q_ => ?_) (fun q_ => ?_)
        · have hf := (r_ite hf).1 q_
          exact t_L_law_845 X hr hk hX hbl hLs (ih (by omega)) (by omega) (by omega) (by omega) (by omega) B (lv_sub hl [0, 1, 2, 3] rfl) hf
        · have hf := (r_ite hf).2 q_
          refine lv_iconst (v := 0) hx hb dL_law_183 (by decide) ?_
          cases hf
      · have hf := (r_ite hf).2 q_0
        by_cases q_1 : v21 = 1
        · have hf := (r_ite hf).1 q_1
          refine lv_tableIn (off := 142) (tgt := 185) hx hb dL_law_43 (by rw [q_1]; decide) (by rw [q_1]; decide) (by rw [q_1]; rfl) (by decide) ?_
          refine r_aload_n hx hb dL_law_185 rfl (lv_at hl 1 rfl) ?_
          refine lv_aload_n hx hb dL_law_186 rfl (lv_at hl 0 rfl) ?_
          refine lv_iload_n hx hb dL_law_187 rfl (lv_at hl 3 rfl) ?_
          refine lv_iconst (v := 1) hx hb dL_law_188 (by decide) ?_
          refine lv_iadd hx hb dL_law_189 ?_
          refine r_scr X hX hbl B hf dL_law_190 (fun v42 hf => ?_)
          refine lv_aload_n hx hb dL_law_191 rfl (lv_at hl 0 rfl) ?_
          refine lv_iload_n hx hb dL_law_192 rfl (lv_at hl 3 rfl) ?_
          refine lv_iconst (v := 2) hx hb dL_law_193 (by decide) ?_
          refine lv_iadd hx hb dL_law_194 ?_
          refine r_scr X hX hbl B hf dL_law_195 (fun v43 hf => ?_)
          refine rcv_inv hf ?_
          intro a47 e48 s49 hf
          refine cal_inv hf ?_
          intro v44 h45 e46 hf
          refine r_call B (va_runV (As := [.int v42, .int v43]) (rest := []) X.1 (c_X7_water (l := l) (D := D) (b := s.heap.size) e46) (r_cwV X rfl m_181 m_182 m_183 m_2 m_184 rfl rfl hd_X7_water ⟨Nat.le_of_ble_eq_true rfl, Nat.le_of_ble_eq_true rfl⟩) (r_preV X B s49 rfl [.int v42, .int v43]) rfl rfl hl.1 (by rw [e48]; rfl) (lv_room (by simp [va_cat, cat_i, cat_r, cat_l])) dL_law_196 ⟨(by first | (show _ ≤ 600000; omega) | (show _ ≤ 7302250; omega)), (by first | (show _ ≤ 600000; omega) | (show _ ≤ 7302250; omega))⟩) ?_
          intro H locs B
          refine W.cs (cells' := ((77 + 1 * (520 - (n + 1))) + 0)) (slots' := ((1924 + 12 * (520 - (n + 1))) + 0)) rfl rfl (W.eq (g2 := F0 m 199 ls [.int v44]) rfl ?_)
          refine r_aload_n hx hb dL_law_199 rfl (lv_at hl 2 rfl) ?_
          refine lv_aload_n hx hb dL_law_200 rfl (lv_at hl 0 rfl) ?_
          refine lv_iload_n hx hb dL_law_201 rfl (lv_at hl 3 rfl) ?_
          refine lv_iconst (v := 1) hx hb dL_law_202 (by decide) ?_
          refine lv_iadd hx hb dL_law_203 ?_
          refine r_scr X hX hbl B hf dL_law_204 (fun v50 hf => ?_)
          refine lv_aload_n hx hb dL_law_205 rfl (lv_at hl 0 rfl) ?_
          refine lv_iload_n hx hb dL_law_206 rfl (lv_at hl 3 rfl) ?_
          refine lv_iconst (v := 2) hx hb dL_law_207 (by decide) ?_
          refine lv_iadd hx hb dL_law_208 ?_
          refine r_scr X hX hbl B hf dL_law_209 (fun v51 hf => ?_)
          refine rcv_inv hf ?_
          intro a55 e56 s57 hf
          refine cal_inv hf ?_
          intro v52 h53 e54 hf
          refine r_call B (va_runV (As := [.int v50, .int v51]) (rest := [.int v44]) X.1 (c_X8_water (l := l) (D := D) (b := s.heap.size) e54) (r_cwV X rfl m_192 m_193 m_194 m_5 m_195 rfl rfl hd_X8_water ⟨Nat.le_of_ble_eq_true rfl, Nat.le_of_ble_eq_true rfl⟩) (r_preV X B s57 rfl [.int v50, .int v51]) rfl rfl hl.1 (by rw [e56]; rfl) (lv_room (by simp [va_cat, cat_i, cat_r, cat_l])) dL_law_210 ⟨(by first | (show _ ≤ 600000; omega) | (show _ ≤ 7302250; omega)), (by first | (show _ ≤ 600000; omega) | (show _ ≤ 7302250; omega))⟩) ?_
          intro H locs B
          refine W.cs (cells' := ((77 + 1 * (520 - (n + 1))) + 0)) (slots' := ((1924 + 12 * (520 - (n + 1))) + 0)) rfl rfl (W.eq (g2 := F0 m 213 ls [.int v52, .int v44]) rfl ?_)
          refine lv_icmp_eq (tgt := 845) hx hb dL_law_213 (by decide) (fun q_ => ?_) (fun q_ => ?_)
          · have hf := (r_ite hf).1 q_
            exact t_L_law_845 X hr hk hX hbl hLs (ih (by omega)) (by omega) (by omega) (by omega) (by omega) B (lv_sub hl [0, 1, 2, 3] rfl) hf
          · have hf := (r_ite hf).2 q_
            refine lv_iconst (v := 0) hx hb dL_law_216 (by decide) ?_
            cases hf
        · have hf := (r_ite hf).2 q_1
          by_cases q_2 : v21 = 2
          · have hf := (r_ite hf).1 q_2
            refine lv_tableIn (off := 175) (tgt := 218) hx hb dL_law_43 (by rw [q_2]; decide) (by rw [q_2]; decide) (by rw [q_2]; rfl) (by decide) ?_
            refine r_aload_n hx hb dL_law_218 rfl (lv_at hl 1 rfl) ?_
            refine lv_aload_n hx hb dL_law_219 rfl (lv_at hl 0 rfl) ?_
            refine lv_iload_n hx hb dL_law_220 rfl (lv_at hl 3 rfl) ?_
            refine lv_iconst (v := 1) hx hb dL_law_221 (by decide) ?_
            refine lv_iadd hx hb dL_law_222 ?_
            refine r_scr X hX hbl B hf dL_law_223 (fun v58 hf => ?_)
            refine lv_aload_n hx hb dL_law_224 rfl (lv_at hl 0 rfl) ?_
            refine lv_iload_n hx hb dL_law_225 rfl (lv_at hl 3 rfl) ?_
            refine lv_iconst (v := 2) hx hb dL_law_226 (by decide) ?_
            refine lv_iadd hx hb dL_law_227 ?_
            refine r_scr X hX hbl B hf dL_law_228 (fun v59 hf => ?_)
            refine lv_aload_n hx hb dL_law_229 rfl (lv_at hl 0 rfl) ?_
            refine lv_iload_n hx hb dL_law_230 rfl (lv_at hl 3 rfl) ?_
            refine lv_iconst (v := 3) hx hb dL_law_231 (by decide) ?_
            refine lv_iadd hx hb dL_law_232 ?_
            refine r_scr X hX hbl B hf dL_law_233 (fun v60 hf => ?_)
            refine lv_aload_n hx hb dL_law_234 rfl (lv_at hl 0 rfl) ?_
            refine lv_iload_n hx hb dL_law_235 rfl (lv_at hl 3 rfl) ?_
            refine lv_iconst (v := 4) hx hb dL_law_236 (by decide) ?_
            refine lv_iadd hx hb dL_law_237 ?_
            refine r_scr X hX hbl B hf dL_law_238 (fun v61 hf => ?_)
            refine lv_aload_n hx hb dL_law_239 rfl (lv_at hl 0 rfl) ?_
            refine lv_iload_n hx hb dL_law_240 rfl (lv_at hl 3 rfl) ?_
            refine lv_iconst (v := 5) hx hb dL_law_241 (by decide) ?_
            refine lv_iadd hx hb dL_law_242 ?_
            refine r_scr X hX hbl B hf dL_law_243 (fun v62 hf => ?_)
            refine lv_if_eq (tgt := 251) hx hb dL_law_244 (by decide) (fun q_ => ?_) (fun q_ => ?_)
            · have hf := (r_ite hf).1 q_
              refine lv_iconst (v := 0) hx hb dL_law_251 (by decide) ?_
              exact t_L_law_252 X hr hk hX hbl hLs (ih (by omega)) (by omega) (by omega) (by omega) (by omega) B (lv_sub hl [0, 1, 2, 3] rfl) hf
            · have hf := (r_ite hf).2 q_
              refine lv_iconst (v := 1) hx hb dL_law_247 (by decide) ?_
              refine lv_goto (tgt := 252) hx hb dL_law_248 (by decide) ?_
              exact t_L_law_252 X hr hk hX hbl hLs (ih (by omega)) (by omega) (by omega) (by omega) (by omega) B (lv_sub hl [0, 1, 2, 3] rfl) hf
          · have hf := (r_ite hf).2 q_2
            by_cases q_3 : v21 = 3
            · have hf := (r_ite hf).1 q_3
              refine lv_tableIn (off := 254) (tgt := 297) hx hb dL_law_43 (by rw [q_3]; decide) (by rw [q_3]; decide) (by rw [q_3]; rfl) (by decide) ?_
              refine r_aload_n hx hb dL_law_297 rfl (lv_at hl 1 rfl) ?_
              refine lv_aload_n hx hb dL_law_298 rfl (lv_at hl 0 rfl) ?_
              refine lv_iload_n hx hb dL_law_299 rfl (lv_at hl 3 rfl) ?_
              refine lv_iconst (v := 1) hx hb dL_law_300 (by decide) ?_
              refine lv_iadd hx hb dL_law_301 ?_
              refine r_scr X hX hbl B hf dL_law_302 (fun v63 hf => ?_)
              refine lv_aload_n hx hb dL_law_303 rfl (lv_at hl 0 rfl) ?_
              refine lv_iload_n hx hb dL_law_304 rfl (lv_at hl 3 rfl) ?_
              refine lv_iconst (v := 2) hx hb dL_law_305 (by decide) ?_
              refine lv_iadd hx hb dL_law_306 ?_
              refine r_scr X hX hbl B hf dL_law_307 (fun v64 hf => ?_)
              refine rcv_inv hf ?_
              intro a68 e69 s70 hf
              refine cal_inv hf ?_
              intro v65 h66 e67 hf
              refine r_call B (va_runV (As := [.int v63, .int v64]) (rest := []) X.1 (c_X7_open (l := l) (D := D) (b := s.heap.size) e67) (r_cwV X rfl m_244 m_245 m_246 m_2 m_247 rfl rfl hd_X7_open ⟨Nat.le_of_ble_eq_true rfl, Nat.le_of_ble_eq_true rfl⟩) (r_preV X B s70 rfl [.int v63, .int v64]) rfl rfl hl.1 (by rw [e69]; rfl) (lv_room (by simp [va_cat, cat_i, cat_r, cat_l])) dL_law_308 ⟨(by first | (show _ ≤ 600000; omega) | (show _ ≤ 7302250; omega)), (by first | (show _ ≤ 600000; omega) | (show _ ≤ 7302250; omega))⟩) ?_
              intro H locs B
              refine W.cs (cells' := ((77 + 1 * (520 - (n + 1))) + 0)) (slots' := ((1924 + 12 * (520 - (n + 1))) + 0)) rfl rfl (W.eq (g2 := F0 m 311 ls [.int v65]) rfl ?_)
              refine r_aload_n hx hb dL_law_311 rfl (lv_at hl 2 rfl) ?_
              refine lv_aload_n hx hb dL_law_312 rfl (lv_at hl 0 rfl) ?_
              refine lv_iload_n hx hb dL_law_313 rfl (lv_at hl 3 rfl) ?_
              refine lv_iconst (v := 1) hx hb dL_law_314 (by decide) ?_
              refine lv_iadd hx hb dL_law_315 ?_
              refine r_scr X hX hbl B hf dL_law_316 (fun v71 hf => ?_)
              refine lv_aload_n hx hb dL_law_317 rfl (lv_at hl 0 rfl) ?_
              refine lv_iload_n hx hb dL_law_318 rfl (lv_at hl 3 rfl) ?_
              refine lv_iconst (v := 2) hx hb dL_law_319 (by decide) ?_
              refine lv_iadd hx hb dL_law_320 ?_
              refine r_scr X hX hbl B hf dL_law_321 (fun v72 hf => ?_)
              refine rcv_inv hf ?_
              intro a76 e77 s78 hf
              refine cal_inv hf ?_
              intro v73 h74 e75 hf
              refine r_call B (va_runV (As := [.int v71, .int v72]) (rest := [.int v65]) X.1 (c_X8_open (l := l) (D := D) (b := s.heap.size) e75) (r_cwV X rfl m_249 m_250 m_251 m_5 m_252 rfl rfl hd_X8_open ⟨Nat.le_of_ble_eq_true rfl, Nat.le_of_ble_eq_true rfl⟩) (r_preV X B s78 rfl [.int v71, .int v72]) rfl rfl hl.1 (by rw [e77]; rfl) (lv_room (by simp [va_cat, cat_i, cat_r, cat_l])) dL_law_322 ⟨(by first | (show _ ≤ 600000; omega) | (show _ ≤ 7302250; omega)), (by first | (show _ ≤ 600000; omega) | (show _ ≤ 7302250; omega))⟩) ?_
              intro H locs B
              refine W.cs (cells' := ((77 + 1 * (520 - (n + 1))) + 0)) (slots' := ((1924 + 12 * (520 - (n + 1))) + 0)) rfl rfl (W.eq (g2 := F0 m 325 ls [.int v73, .int v65]) rfl ?_)
              refine lv_icmp_eq (tgt := 845) hx hb dL_law_325 (by decide) (fun q_ => ?_) (fun q_ => ?_)
              · have hf := (r_ite hf).1 q_
                exact t_L_law_845 X hr hk hX hbl hLs (ih (by omega)) (by omega) (by omega) (by omega) (by omega) B (lv_sub hl [0, 1, 2, 3] rfl) hf
              · have hf := (r_ite hf).2 q_
                refine lv_iconst (v := 0) hx hb dL_law_328 (by decide) ?_
                cases hf
            · have hf := (r_ite hf).2 q_3
              by_cases q_4 : v21 = 4
              · have hf := (r_ite hf).1 q_4
                refine lv_tableIn (off := 287) (tgt := 330) hx hb dL_law_43 (by rw [q_4]; decide) (by rw [q_4]; decide) (by rw [q_4]; rfl) (by decide) ?_
                refine r_aload_n hx hb dL_law_330 rfl (lv_at hl 1 rfl) ?_
                refine lv_aload_n hx hb dL_law_331 rfl (lv_at hl 0 rfl) ?_
                refine lv_iload_n hx hb dL_law_332 rfl (lv_at hl 3 rfl) ?_
                refine lv_iconst (v := 1) hx hb dL_law_333 (by decide) ?_
                refine lv_iadd hx hb dL_law_334 ?_
                refine r_scr X hX hbl B hf dL_law_335 (fun v79 hf => ?_)
                refine lv_aload_n hx hb dL_law_336 rfl (lv_at hl 0 rfl) ?_
                refine lv_iload_n hx hb dL_law_337 rfl (lv_at hl 3 rfl) ?_
                refine lv_iconst (v := 2) hx hb dL_law_338 (by decide) ?_
                refine lv_iadd hx hb dL_law_339 ?_
                refine r_scr X hX hbl B hf dL_law_340 (fun v80 hf => ?_)
                refine rcv_inv hf ?_
                intro a84 e85 s86 hf
                refine cal_inv hf ?_
                intro v81 h82 e83 hf
                refine r_call B (va_runV (As := [.int v79, .int v80]) (rest := []) X.1 (c_X7_mend (l := l) (D := D) (b := s.heap.size) e83) (r_cwV X rfl m_253 m_254 m_255 m_2 m_256 rfl rfl hd_X7_mend ⟨Nat.le_of_ble_eq_true rfl, Nat.le_of_ble_eq_true rfl⟩) (r_preV X B s86 rfl [.int v79, .int v80]) rfl rfl hl.1 (by rw [e85]; rfl) (lv_room (by simp [va_cat, cat_i, cat_r, cat_l])) dL_law_341 ⟨(by first | (show _ ≤ 600000; omega) | (show _ ≤ 7302250; omega)), (by first | (show _ ≤ 600000; omega) | (show _ ≤ 7302250; omega))⟩) ?_
                intro H locs B
                refine W.cs (cells' := ((77 + 1 * (520 - (n + 1))) + 0)) (slots' := ((1924 + 12 * (520 - (n + 1))) + 0)) rfl rfl (W.eq (g2 := F0 m 344 ls [.int v81]) rfl ?_)
                refine r_aload_n hx hb dL_law_344 rfl (lv_at hl 2 rfl) ?_
                refine lv_aload_n hx hb dL_law_345 rfl (lv_at hl 0 rfl) ?_
                refine lv_iload_n hx hb dL_law_346 rfl (lv_at hl 3 rfl) ?_
                refine lv_iconst (v := 1) hx hb dL_law_347 (by decide) ?_
                refine lv_iadd hx hb dL_law_348 ?_
                refine r_scr X hX hbl B hf dL_law_349 (fun v87 hf => ?_)
                refine lv_aload_n hx hb dL_law_350 rfl (lv_at hl 0 rfl) ?_
                refine lv_iload_n hx hb dL_law_351 rfl (lv_at hl 3 rfl) ?_
                refine lv_iconst (v := 2) hx hb dL_law_352 (by decide) ?_
                refine lv_iadd hx hb dL_law_353 ?_
                refine r_scr X hX hbl B hf dL_law_354 (fun v88 hf => ?_)
                refine rcv_inv hf ?_
                intro a92 e93 s94 hf
                refine cal_inv hf ?_
                intro v89 h90 e91 hf
                refine r_call B (va_runV (As := [.int v87, .int v88]) (rest := [.int v81]) X.1 (c_X8_mend (l := l) (D := D) (b := s.heap.size) e91) (r_cwV X rfl m_257 m_258 m_259 m_5 m_260 rfl rfl hd_X8_mend ⟨Nat.le_of_ble_eq_true rfl, Nat.le_of_ble_eq_true rfl⟩) (r_preV X B s94 rfl [.int v87, .int v88]) rfl rfl hl.1 (by rw [e93]; rfl) (lv_room (by simp [va_cat, cat_i, cat_r, cat_l])) dL_law_355 ⟨(by first | (show _ ≤ 600000; omega) | (show _ ≤ 7302250; omega)), (by first | (show _ ≤ 600000; omega) | (show _ ≤ 7302250; omega))⟩) ?_
                intro H locs B
                refine W.cs (cells' := ((77 + 1 * (520 - (n + 1))) + 0)) (slots' := ((1924 + 12 * (520 - (n + 1))) + 0)) rfl rfl (W.eq (g2 := F0 m 358 ls [.int v89, .int v81]) rfl ?_)
                refine lv_icmp_eq (tgt := 845) hx hb dL_law_358 (by decide) (fun q_ => ?_) (fun q_ => ?_)
                · have hf := (r_ite hf).1 q_
                  exact t_L_law_845 X hr hk hX hbl hLs (ih (by omega)) (by omega) (by omega) (by omega) (by omega) B (lv_sub hl [0, 1, 2, 3] rfl) hf
                · have hf := (r_ite hf).2 q_
                  refine lv_iconst (v := 0) hx hb dL_law_361 (by decide) ?_
                  cases hf
              · have hf := (r_ite hf).2 q_4
                by_cases q_5 : v21 = 5
                · have hf := (r_ite hf).1 q_5
                  refine lv_tableIn (off := 320) (tgt := 363) hx hb dL_law_43 (by rw [q_5]; decide) (by rw [q_5]; decide) (by rw [q_5]; rfl) (by decide) ?_
                  refine r_aload_n hx hb dL_law_363 rfl (lv_at hl 1 rfl) ?_
                  refine lv_aload_n hx hb dL_law_364 rfl (lv_at hl 0 rfl) ?_
                  refine lv_iload_n hx hb dL_law_365 rfl (lv_at hl 3 rfl) ?_
                  refine lv_iconst (v := 1) hx hb dL_law_366 (by decide) ?_
                  refine lv_iadd hx hb dL_law_367 ?_
                  refine r_scr X hX hbl B hf dL_law_368 (fun v95 hf => ?_)
                  refine lv_aload_n hx hb dL_law_369 rfl (lv_at hl 0 rfl) ?_
                  refine lv_iload_n hx hb dL_law_370 rfl (lv_at hl 3 rfl) ?_
                  refine lv_iconst (v := 2) hx hb dL_law_371 (by decide) ?_
                  refine lv_iadd hx hb dL_law_372 ?_
                  refine r_scr X hX hbl B hf dL_law_373 (fun v96 hf => ?_)
                  refine rcv_inv hf ?_
                  intro a100 e101 s102 hf
                  refine cal_inv hf ?_
                  intro v97 h98 e99 hf
                  refine r_call B (va_runV (As := [.int v95, .int v96]) (rest := []) X.1 (c_X7_dredge (l := l) (D := D) (b := s.heap.size) e99) (r_cwV X rfl m_261 m_262 m_263 m_2 m_264 rfl rfl hd_X7_dredge ⟨Nat.le_of_ble_eq_true rfl, Nat.le_of_ble_eq_true rfl⟩) (r_preV X B s102 rfl [.int v95, .int v96]) rfl rfl hl.1 (by rw [e101]; rfl) (lv_room (by simp [va_cat, cat_i, cat_r, cat_l])) dL_law_374 ⟨(by first | (show _ ≤ 600000; omega) | (show _ ≤ 7302250; omega)), (by first | (show _ ≤ 600000; omega) | (show _ ≤ 7302250; omega))⟩) ?_
                  intro H locs B
                  refine W.cs (cells' := ((77 + 1 * (520 - (n + 1))) + 0)) (slots' := ((1924 + 12 * (520 - (n + 1))) + 0)) rfl rfl (W.eq (g2 := F0 m 377 ls [.int v97]) rfl ?_)
                  refine r_aload_n hx hb dL_law_377 rfl (lv_at hl 2 rfl) ?_
                  refine lv_aload_n hx hb dL_law_378 rfl (lv_at hl 0 rfl) ?_
                  refine lv_iload_n hx hb dL_law_379 rfl (lv_at hl 3 rfl) ?_
                  refine lv_iconst (v := 1) hx hb dL_law_380 (by decide) ?_
                  refine lv_iadd hx hb dL_law_381 ?_
                  refine r_scr X hX hbl B hf dL_law_382 (fun v103 hf => ?_)
                  refine lv_aload_n hx hb dL_law_383 rfl (lv_at hl 0 rfl) ?_
                  refine lv_iload_n hx hb dL_law_384 rfl (lv_at hl 3 rfl) ?_
                  refine lv_iconst (v := 2) hx hb dL_law_385 (by decide) ?_
                  refine lv_iadd hx hb dL_law_386 ?_
                  refine r_scr X hX hbl B hf dL_law_387 (fun v104 hf => ?_)
                  refine rcv_inv hf ?_
                  intro a108 e109 s110 hf
                  refine cal_inv hf ?_
                  intro v105 h106 e107 hf
                  refine r_call B (va_runV (As := [.int v103, .int v104]) (rest := [.int v97]) X.1 (c_X8_dredge (l := l) (D := D) (b := s.heap.size) e107) (r_cwV X rfl m_266 m_267 m_268 m_5 m_269 rfl rfl hd_X8_dredge ⟨Nat.le_of_ble_eq_true rfl, Nat.le_of_ble_eq_true rfl⟩) (r_preV X B s110 rfl [.int v103, .int v104]) rfl rfl hl.1 (by rw [e109]; rfl) (lv_room (by simp [va_cat, cat_i, cat_r, cat_l])) dL_law_388 ⟨(by first | (show _ ≤ 600000; omega) | (show _ ≤ 7302250; omega)), (by first | (show _ ≤ 600000; omega) | (show _ ≤ 7302250; omega))⟩) ?_
                  intro H locs B
                  refine W.cs (cells' := ((77 + 1 * (520 - (n + 1))) + 0)) (slots' := ((1924 + 12 * (520 - (n + 1))) + 0)) rfl rfl (W.eq (g2 := F0 m 391 ls [.int v105, .int v97]) rfl ?_)
                  refine lv_icmp_eq (tgt := 845) hx hb dL_law_391 (by decide) (fun q_ => ?_) (fun q_ => ?_)
                  · have hf := (r_ite hf).1 q_
                    exact t_L_law_845 X hr hk hX hbl hLs (ih (by omega)) (by omega) (by omega) (by omega) (by omega) B (lv_sub hl [0, 1, 2, 3] rfl) hf
                  · have hf := (r_ite hf).2 q_
                    refine lv_iconst (v := 0) hx hb dL_law_394 (by decide) ?_
                    cases hf
                · have hf := (r_ite hf).2 q_5
                  by_cases q_6 : v21 = 6
                  · have hf := (r_ite hf).1 q_6
                    refine lv_tableIn (off := 353) (tgt := 396) hx hb dL_law_43 (by rw [q_6]; decide) (by rw [q_6]; decide) (by rw [q_6]; rfl) (by decide) ?_
                    refine r_aload_n hx hb dL_law_396 rfl (lv_at hl 1 rfl) ?_
                    refine lv_aload_n hx hb dL_law_397 rfl (lv_at hl 0 rfl) ?_
                    refine lv_iload_n hx hb dL_law_398 rfl (lv_at hl 3 rfl) ?_
                    refine lv_iconst (v := 1) hx hb dL_law_399 (by decide) ?_
                    refine lv_iadd hx hb dL_law_400 ?_
                    refine r_scr X hX hbl B hf dL_law_401 (fun v111 hf => ?_)
                    refine lv_aload_n hx hb dL_law_402 rfl (lv_at hl 0 rfl) ?_
                    refine lv_iload_n hx hb dL_law_403 rfl (lv_at hl 3 rfl) ?_
                    refine lv_iconst (v := 2) hx hb dL_law_404 (by decide) ?_
                    refine lv_iadd hx hb dL_law_405 ?_
                    refine r_scr X hX hbl B hf dL_law_406 (fun v112 hf => ?_)
                    refine lv_aload_n hx hb dL_law_407 rfl (lv_at hl 0 rfl) ?_
                    refine lv_iload_n hx hb dL_law_408 rfl (lv_at hl 3 rfl) ?_
                    refine lv_iconst (v := 3) hx hb dL_law_409 (by decide) ?_
                    refine lv_iadd hx hb dL_law_410 ?_
                    refine r_scr X hX hbl B hf dL_law_411 (fun v113 hf => ?_)
                    refine lv_aload_n hx hb dL_law_412 rfl (lv_at hl 0 rfl) ?_
                    refine lv_iload_n hx hb dL_law_413 rfl (lv_at hl 3 rfl) ?_
                    refine lv_iconst (v := 4) hx hb dL_law_414 (by decide) ?_
                    refine lv_iadd hx hb dL_law_415 ?_
                    refine r_scr X hX hbl B hf dL_law_416 (fun v114 hf => ?_)
                    refine lv_aload_n hx hb dL_law_417 rfl (lv_at hl 0 rfl) ?_
                    refine lv_iload_n hx hb dL_law_418 rfl (lv_at hl 3 rfl) ?_
                    refine lv_iconst (v := 5) hx hb dL_law_419 (by decide) ?_
                    refine lv_iadd hx hb dL_law_420 ?_
                    refine r_scr X hX hbl B hf dL_law_421 (fun v115 hf => ?_)
                    refine rcv_inv hf ?_
                    intro a119 e120 s121 hf
                    refine cal_inv hf ?_
                    intro v116 h117 e118 hf
                    refine r_call B (va_runV (As := [.int v111, .int v112, .int v113, .int v114, .int v115]) (rest := []) X.1 (c_X7_feed (l := l) (D := D) (b := s.heap.size) e118) (r_cwV X rfl m_270 m_271 m_272 m_2 m_273 rfl rfl hd_X7_feed ⟨Nat.le_of_ble_eq_true rfl, Nat.le_of_ble_eq_true rfl⟩) (r_preV X B s121 rfl [.int v111, .int v112, .int v113, .int v114, .int v115]) rfl rfl hl.1 (by rw [e120]; rfl) (lv_room (by simp [va_cat, cat_i, cat_r, cat_l])) dL_law_422 ⟨(by first | (show _ ≤ 600000; omega) | (show _ ≤ 7302250; omega)), (by first | (show _ ≤ 600000; omega) | (show _ ≤ 7302250; omega))⟩) ?_
                    intro H locs B
                    refine W.cs (cells' := ((77 + 1 * (520 - (n + 1))) + 0)) (slots' := ((1924 + 12 * (520 - (n + 1))) + 0)) rfl rfl (W.eq (g2 := F0 m 425 ls [.int v116]) rfl ?_)
                    refine r_aload_n hx hb dL_law_425 rfl (lv_at hl 2 rfl) ?_
                    refine lv_aload_n hx hb dL_law_426 rfl (lv_at hl 0 rfl) ?_
                    refine lv_iload_n hx hb dL_law_427 rfl (lv_at hl 3 rfl) ?_
                    refine lv_iconst (v := 1) hx hb dL_law_428 (by decide) ?_
                    refine lv_iadd hx hb dL_law_429 ?_
                    refine r_scr X hX hbl B hf dL_law_430 (fun v122 hf => ?_)
                    refine lv_aload_n hx hb dL_law_431 rfl (lv_at hl 0 rfl) ?_
                    refine lv_iload_n hx hb dL_law_432 rfl (lv_at hl 3 rfl) ?_
                    refine lv_iconst (v := 2) hx hb dL_law_433 (by decide) ?_
                    refine lv_iadd hx hb dL_law_434 ?_
                    refine r_scr X hX hbl B hf dL_law_435 (fun v123 hf => ?_)
                    refine lv_aload_n hx hb dL_law_436 rfl (lv_at hl 0 rfl) ?_
                    refine lv_iload_n hx hb dL_law_437 rfl (lv_at hl 3 rfl) ?_
                    refine lv_iconst (v := 3) hx hb dL_law_438 (by decide) ?_
                    refine lv_iadd hx hb dL_law_439 ?_
                    refine r_scr X hX hbl B hf dL_law_440 (fun v124 hf => ?_)
                    refine lv_aload_n hx hb dL_law_441 rfl (lv_at hl 0 rfl) ?_
                    refine lv_iload_n hx hb dL_law_442 rfl (lv_at hl 3 rfl) ?_
                    refine lv_iconst (v := 4) hx hb dL_law_443 (by decide) ?_
                    refine lv_iadd hx hb dL_law_444 ?_
                    refine r_scr X hX hbl B hf dL_law_445 (fun v125 hf => ?_)
                    refine lv_aload_n hx hb dL_law_446 rfl (lv_at hl 0 rfl) ?_
                    refine lv_iload_n hx hb dL_law_447 rfl (lv_at hl 3 rfl) ?_
                    refine lv_iconst (v := 5) hx hb dL_law_448 (by decide) ?_
                    refine lv_iadd hx hb dL_law_449 ?_
                    refine r_scr X hX hbl B hf dL_law_450 (fun v126 hf => ?_)
                    refine rcv_inv hf ?_
                    intro a130 e131 s132 hf
                    refine cal_inv hf ?_
                    intro v127 h128 e129 hf
                    refine r_call B (va_runV (As := [.int v122, .int v123, .int v124, .int v125, .int v126]) (rest := [.int v116]) X.1 (c_X8_feed (l := l) (D := D) (b := s.heap.size) e129) (r_cwV X rfl m_283 m_284 m_285 m_5 m_286 rfl rfl hd_X8_feed ⟨Nat.le_of_ble_eq_true rfl, Nat.le_of_ble_eq_true rfl⟩) (r_preV X B s132 rfl [.int v122, .int v123, .int v124, .int v125, .int v126]) rfl rfl hl.1 (by rw [e131]; rfl) (lv_room (by simp [va_cat, cat_i, cat_r, cat_l])) dL_law_451 ⟨(by first | (show _ ≤ 600000; omega) | (show _ ≤ 7302250; omega)), (by first | (show _ ≤ 600000; omega) | (show _ ≤ 7302250; omega))⟩) ?_
                    intro H locs B
                    refine W.cs (cells' := ((77 + 1 * (520 - (n + 1))) + 0)) (slots' := ((1924 + 12 * (520 - (n + 1))) + 0)) rfl rfl (W.eq (g2 := F0 m 454 ls [.int v127, .int v116]) rfl ?_)
                    refine lv_icmp_eq (tgt := 845) hx hb dL_law_454 (by decide) (fun q_ => ?_) (fun q_ => ?_)
                    · have hf := (r_ite hf).1 q_
                      exact t_L_law_845 X hr hk hX hbl hLs (ih (by omega)) (by omega) (by omega) (by omega) (by omega) B (lv_sub hl [0, 1, 2, 3] rfl) hf
                    · have hf := (r_ite hf).2 q_
                      refine lv_iconst (v := 0) hx hb dL_law_457 (by decide) ?_
                      cases hf
                  · have hf := (r_ite hf).2 q_6
                    by_cases q_7 : v21 = 7
                    · have hf := (r_ite hf).1 q_7
                      refine lv_tableIn (off := 416) (tgt := 459) hx hb dL_law_43 (by rw [q_7]; decide) (by rw [q_7]; decide) (by rw [q_7]; rfl) (by decide) ?_
                      refine r_aload_n hx hb dL_law_459 rfl (lv_at hl 1 rfl) ?_
                      refine lv_aload_n hx hb dL_law_460 rfl (lv_at hl 0 rfl) ?_
                      refine lv_iload_n hx hb dL_law_461 rfl (lv_at hl 3 rfl) ?_
                      refine lv_iconst (v := 1) hx hb dL_law_462 (by decide) ?_
                      refine lv_iadd hx hb dL_law_463 ?_
                      refine r_scr X hX hbl B hf dL_law_464 (fun v133 hf => ?_)
                      refine rcv_inv hf ?_
                      intro a137 e138 s139 hf
                      refine cal_inv hf ?_
                      intro v134 h135 e136 hf
                      refine r_call B (va_runV (As := [.int v133]) (rest := []) X.1 (c_X7_custom (l := l) (D := D) (b := s.heap.size) e136) (r_cwV X rfl m_292 m_293 m_294 m_2 m_295 rfl rfl hd_X7_custom ⟨Nat.le_of_ble_eq_true rfl, Nat.le_of_ble_eq_true rfl⟩) (r_preV X B s139 rfl [.int v133]) rfl rfl hl.1 (by rw [e138]; rfl) (lv_room (by simp [va_cat, cat_i, cat_r, cat_l])) dL_law_465 ⟨(by first | (show _ ≤ 600000; omega) | (show _ ≤ 7302250; omega)), (by first | (show _ ≤ 600000; omega) | (show _ ≤ 7302250; omega))⟩) ?_
                      intro H locs B
                      refine W.cs (cells' := ((77 + 1 * (520 - (n + 1))) + 0)) (slots' := ((1924 + 12 * (520 - (n + 1))) + 0)) rfl rfl (W.eq (g2 := F0 m 468 ls [.int v134]) rfl ?_)
                      refine r_aload_n hx hb dL_law_468 rfl (lv_at hl 2 rfl) ?_
                      refine lv_aload_n hx hb dL_law_469 rfl (lv_at hl 0 rfl) ?_
                      refine lv_iload_n hx hb dL_law_470 rfl (lv_at hl 3 rfl) ?_
                      refine lv_iconst (v := 1) hx hb dL_law_471 (by decide) ?_
                      refine lv_iadd hx hb dL_law_472 ?_
                      refine r_scr X hX hbl B hf dL_law_473 (fun v140 hf => ?_)
                      refine rcv_inv hf ?_
                      intro a144 e145 s146 hf
                      refine cal_inv hf ?_
                      intro v141 h142 e143 hf
                      refine r_call B (va_runV (As := [.int v140]) (rest := [.int v134]) X.1 (c_X8_custom_ (l := l) (D := D) (b := s.heap.size) e143) (r_cwV X rfl m_413 m_414 m_415 m_5 m_416 rfl rfl hd_X8_custom_ ⟨Nat.le_of_ble_eq_true rfl, Nat.le_of_ble_eq_true rfl⟩) (r_preV X B s146 rfl [.int v140]) rfl rfl hl.1 (by rw [e145]; rfl) (lv_room (by simp [va_cat, cat_i, cat_r, cat_l])) dL_law_474 ⟨(by first | (show _ ≤ 600000; omega) | (show _ ≤ 7302250; omega)), (by first | (show _ ≤ 600000; omega) | (show _ ≤ 7302250; omega))⟩) ?_
                      intro H locs B
                      refine W.cs (cells' := ((77 + 1 * (520 - (n + 1))) + 0)) (slots' := ((1924 + 12 * (520 - (n + 1))) + 0)) rfl rfl (W.eq (g2 := F0 m 477 ls [.int v141, .int v134]) rfl ?_)
                      refine lv_icmp_eq (tgt := 845) hx hb dL_law_477 (by decide) (fun q_ => ?_) (fun q_ => ?_)
                      · have hf := (r_ite hf).1 q_
                        exact t_L_law_845 X hr hk hX hbl hLs (ih (by omega)) (by omega) (by omega) (by omega) (by omega) B (lv_sub hl [0, 1, 2, 3] rfl) hf
                      · have hf := (r_ite hf).2 q_
                        refine lv_iconst (v := 0) hx hb dL_law_480 (by decide) ?_
                        cases hf
                    · have hf := (r_ite hf).2 q_7
                      by_cases q_8 : v21 = 8
                      · have hf := (r_ite hf).1 q_8
                        refine lv_tableIn (off := 439) (tgt := 482) hx hb dL_law_43 (by rw [q_8]; decide) (by rw [q_8]; decide) (by rw [q_8]; rfl) (by decide) ?_
                        refine r_aload_n hx hb dL_law_482 rfl (lv_at hl 1 rfl) ?_
                        refine rcv_inv hf ?_
                        intro a150 e151 s152 hf
                        refine cal_inv hf ?_
                        intro v147 h148 e149 hf
                        refine r_call B (va_runV (As := []) (rest := []) X.1 (c_X7_fault (l := l) (D := D) (b := s.heap.size) e149) (r_cwV X rfl m_448 m_449 m_450 m_2 m_451 rfl rfl hd_X7_fault ⟨Nat.le_of_ble_eq_true rfl, Nat.le_of_ble_eq_true rfl⟩) (r_preV X B s152 rfl []) rfl rfl hl.1 (by rw [e151]; rfl) (lv_room (by simp [va_cat, cat_i, cat_r, cat_l])) dL_law_483 ⟨(by first | (show _ ≤ 600000; omega) | (show _ ≤ 7302250; omega)), (by first | (show _ ≤ 600000; omega) | (show _ ≤ 7302250; omega))⟩) ?_
                        intro H locs B
                        refine W.cs (cells' := ((77 + 1 * (520 - (n + 1))) + 0)) (slots' := ((1924 + 12 * (520 - (n + 1))) + 0)) rfl rfl (W.eq (g2 := F0 m 486 ls [.int v147]) rfl ?_)
                        refine r_aload_n hx hb dL_law_486 rfl (lv_at hl 2 rfl) ?_
                        refine rcv_inv hf ?_
                        intro a156 e157 s158 hf
                        refine cal_inv hf ?_
                        intro v153 h154 e155 hf
                        refine r_call B (va_runV (As := []) (rest := [.int v147]) X.1 (c_X8_fault (l := l) (D := D) (b := s.heap.size) e155) (r_cwV X rfl m_452 m_453 m_454 m_5 m_455 rfl rfl hd_X8_fault ⟨Nat.le_of_ble_eq_true rfl, Nat.le_of_ble_eq_true rfl⟩) (r_preV X B s158 rfl []) rfl rfl hl.1 (by rw [e157]; rfl) (lv_room (by simp [va_cat, cat_i, cat_r, cat_l])) dL_law_487 ⟨(by first | (show _ ≤ 600000; omega) | (show _ ≤ 7302250; omega)), (by first | (show _ ≤ 600000; omega) | (show _ ≤ 7302250; omega))⟩) ?_
                        intro H locs B
                        refine W.cs (cells' := ((77 + 1 * (520 - (n + 1))) + 0)) (slots' := ((1924 + 12 * (520 - (n + 1))) + 0)) rfl rfl (W.eq (g2 := F0 m 490 ls [.int v153, .int v147]) rfl ?_)
                        refine lv_icmp_eq (tgt := 845) hx hb dL_law_490 (by decide) (fun q_ => ?_) (fun q_ => ?_)
                        · have hf := (r_ite hf).1 q_
                          exact t_L_law_845 X hr hk hX hbl hLs (ih (by omega)) (by omega) (by omega) (by omega) (by omega) B (lv_sub hl [0, 1, 2, 3] rfl) hf
                        · have hf := (r_ite hf).2 q_
                          refine lv_iconst (v := 0) hx hb dL_law_493 (by decide) ?_
                          cases hf
                      · have hf := (r_ite hf).2 q_8
                        by_cases q_9 : v21 = 9
                        · have hf := (r_ite hf).1 q_9
                          refine lv_tableIn (off := 452) (tgt := 495) hx hb dL_law_43 (by rw [q_9]; decide) (by rw [q_9]; decide) (by rw [q_9]; rfl) (by decide) ?_
                          refine r_aload_n hx hb dL_law_495 rfl (lv_at hl 1 rfl) ?_
                          refine lv_aload_n hx hb dL_law_496 rfl (lv_at hl 0 rfl) ?_
                          refine lv_iload_n hx hb dL_law_497 rfl (lv_at hl 3 rfl) ?_
                          refine lv_iconst (v := 1) hx hb dL_law_498 (by decide) ?_
                          refine lv_iadd hx hb dL_law_499 ?_
                          refine r_scr X hX hbl B hf dL_law_500 (fun v159 hf => ?_)
                          refine rcv_inv hf ?_
                          intro a163 e164 s165 hf
                          refine cal_inv hf ?_
                          intro v160 h161 e162 hf
                          refine r_call B (va_runV (As := [.int v159]) (rest := []) X.1 (c_X7_day (l := l) (D := D) (b := s.heap.size) e162) (r_cwV X rfl m_456 m_457 m_458 m_2 m_459 rfl rfl hd_X7_day ⟨Nat.le_of_ble_eq_true rfl, Nat.le_of_ble_eq_true rfl⟩) (r_preV X B s165 rfl [.int v159]) rfl rfl hl.1 (by rw [e164]; rfl) (lv_room (by simp [va_cat, cat_i, cat_r, cat_l])) dL_law_501 ⟨(by first | (show _ ≤ 600000; omega) | (show _ ≤ 7302250; omega)), (by first | (show _ ≤ 600000; omega) | (show _ ≤ 7302250; omega))⟩) ?_
                          intro H locs B
                          refine W.cs (cells' := ((77 + 1 * (520 - (n + 1))) + 0)) (slots' := ((1924 + 12 * (520 - (n + 1))) + 0)) rfl rfl (W.eq (g2 := F0 m 504 ls [.int v160]) rfl ?_)
                          refine r_aload_n hx hb dL_law_504 rfl (lv_at hl 2 rfl) ?_
                          refine lv_aload_n hx hb dL_law_505 rfl (lv_at hl 0 rfl) ?_
                          refine lv_iload_n hx hb dL_law_506 rfl (lv_at hl 3 rfl) ?_
                          refine lv_iconst (v := 1) hx hb dL_law_507 (by decide) ?_
                          refine lv_iadd hx hb dL_law_508 ?_
                          refine r_scr X hX hbl B hf dL_law_509 (fun v166 hf => ?_)
                          refine rcv_inv hf ?_
                          intro a170 e171 s172 hf
                          refine cal_inv hf ?_
                          intro v167 h168 e169 hf
                          refine r_call B (va_runV (As := [.int v166]) (rest := [.int v160]) X.1 (c_X8_day (l := l) (D := D) (b := s.heap.size) e169) (r_cwV X rfl m_557 m_558 m_559 m_5 m_560 rfl rfl hd_X8_day ⟨Nat.le_of_ble_eq_true rfl, Nat.le_of_ble_eq_true rfl⟩) (r_preV X B s172 rfl [.int v166]) rfl rfl hl.1 (by rw [e171]; rfl) (lv_room (by simp [va_cat, cat_i, cat_r, cat_l])) dL_law_510 ⟨(by first | (show _ ≤ 600000; omega) | (show _ ≤ 7302250; omega)), (by first | (show _ ≤ 600000; omega) | (show _ ≤ 7302250; omega))⟩) ?_
                          intro H locs B
                          refine W.cs (cells' := ((77 + 1 * (520 - (n + 1))) + 0)) (slots' := ((1924 + 12 * (520 - (n + 1))) + 0)) rfl rfl (W.eq (g2 := F0 m 513 ls [.int v167, .int v160]) rfl ?_)
                          refine lv_icmp_eq (tgt := 845) hx hb dL_law_513 (by decide) (fun q_ => ?_) (fun q_ => ?_)
                          · have hf := (r_ite hf).1 q_
                            exact t_L_law_845 X hr hk hX hbl hLs (ih (by omega)) (by omega) (by omega) (by omega) (by omega) B (lv_sub hl [0, 1, 2, 3] rfl) hf
                          · have hf := (r_ite hf).2 q_
                            refine lv_iconst (v := 0) hx hb dL_law_516 (by decide) ?_
                            cases hf
                        · have hf := (r_ite hf).2 q_9
                          by_cases q_10 : v21 = 10
                          · have hf := (r_ite hf).1 q_10
                            refine lv_tableIn (off := 475) (tgt := 518) hx hb dL_law_43 (by rw [q_10]; decide) (by rw [q_10]; decide) (by rw [q_10]; rfl) (by decide) ?_
                            refine r_aload_n hx hb dL_law_518 rfl (lv_at hl 1 rfl) ?_
                            refine lv_aload_n hx hb dL_law_519 rfl (lv_at hl 0 rfl) ?_
                            refine lv_iload_n hx hb dL_law_520 rfl (lv_at hl 3 rfl) ?_
                            refine lv_iconst (v := 1) hx hb dL_law_521 (by decide) ?_
                            refine lv_iadd hx hb dL_law_522 ?_
                            refine r_scr X hX hbl B hf dL_law_523 (fun v173 hf => ?_)
                            refine lv_aload_n hx hb dL_law_524 rfl (lv_at hl 0 rfl) ?_
                            refine lv_iload_n hx hb dL_law_525 rfl (lv_at hl 3 rfl) ?_
                            refine lv_iconst (v := 2) hx hb dL_law_526 (by decide) ?_
                            refine lv_iadd hx hb dL_law_527 ?_
                            refine r_scr X hX hbl B hf dL_law_528 (fun v174 hf => ?_)
                            refine rcv_inv hf ?_
                            intro a178 e179 s180 hf
                            refine cal_inv hf ?_
                            intro v175 h176 e177 hf
                            refine r_call B (va_runV (As := [.int v173, .int v174]) (rest := []) X.1 (c_X7_told (l := l) (D := D) (b := s.heap.size) e177) (r_cwV X rfl m_593 m_594 m_595 m_2 m_596 rfl rfl hd_X7_told ⟨Nat.le_of_ble_eq_true rfl, Nat.le_of_ble_eq_true rfl⟩) (r_preV X B s180 rfl [.int v173, .int v174]) rfl rfl hl.1 (by rw [e179]; rfl) (lv_room (by simp [va_cat, cat_i, cat_r, cat_l])) dL_law_529 ⟨(by first | (show _ ≤ 600000; omega) | (show _ ≤ 7302250; omega)), (by first | (show _ ≤ 600000; omega) | (show _ ≤ 7302250; omega))⟩) ?_
                            intro H locs B
                            refine W.cs (cells' := ((77 + 1 * (520 - (n + 1))) + 0)) (slots' := ((1924 + 12 * (520 - (n + 1))) + 0)) rfl rfl (W.eq (g2 := F0 m 532 ls [.int v175]) rfl ?_)
                            refine r_aload_n hx hb dL_law_532 rfl (lv_at hl 2 rfl) ?_
                            refine lv_aload_n hx hb dL_law_533 rfl (lv_at hl 0 rfl) ?_
                            refine lv_iload_n hx hb dL_law_534 rfl (lv_at hl 3 rfl) ?_
                            refine lv_iconst (v := 1) hx hb dL_law_535 (by decide) ?_
                            refine lv_iadd hx hb dL_law_536 ?_
                            refine r_scr X hX hbl B hf dL_law_537 (fun v181 hf => ?_)
                            refine lv_aload_n hx hb dL_law_538 rfl (lv_at hl 0 rfl) ?_
                            refine lv_iload_n hx hb dL_law_539 rfl (lv_at hl 3 rfl) ?_
                            refine lv_iconst (v := 2) hx hb dL_law_540 (by decide) ?_
                            refine lv_iadd hx hb dL_law_541 ?_
                            refine r_scr X hX hbl B hf dL_law_542 (fun v182 hf => ?_)
                            refine rcv_inv hf ?_
                            intro a186 e187 s188 hf
                            refine cal_inv hf ?_
                            intro v183 h184 e185 hf
                            refine r_call B (va_runV (As := [.int v181, .int v182]) (rest := [.int v175]) X.1 (c_X8_told (l := l) (D := D) (b := s.heap.size) e185) (r_cwV X rfl m_603 m_604 m_605 m_5 m_606 rfl rfl hd_X8_told ⟨Nat.le_of_ble_eq_true rfl, Nat.le_of_ble_eq_true rfl⟩) (r_preV X B s188 rfl [.int v181, .int v182]) rfl rfl hl.1 (by rw [e187]; rfl) (lv_room (by simp [va_cat, cat_i, cat_r, cat_l])) dL_law_543 ⟨(by first | (show _ ≤ 600000; omega) | (show _ ≤ 7302250; omega)), (by first | (show _ ≤ 600000; omega) | (show _ ≤ 7302250; omega))⟩) ?_
                            intro H locs B
                            refine W.cs (cells' := ((77 + 1 * (520 - (n + 1))) + 0)) (slots' := ((1924 + 12 * (520 - (n + 1))) + 0)) rfl rfl (W.eq (g2 := F0 m 546 ls [.int v183, .int v175]) rfl ?_)
                            refine lv_icmp_eq (tgt := 845) hx hb dL_law_546 (by decide) (fun q_ => ?_) (fun q_ => ?_)
                            · have hf := (r_ite hf).1 q_
                              exact t_L_law_845 X hr hk hX hbl hLs (ih (by omega)) (by omega) (by omega) (by omega) (by omega) B (lv_sub hl [0, 1, 2, 3] rfl) hf
                            · have hf := (r_ite hf).2 q_
                              refine lv_iconst (v := 0) hx hb dL_law_549 (by decide) ?_
                              cases hf
                          · have hf := (r_ite hf).2 q_10
                            by_cases q_11 : v21 = 11
                            · have hf := (r_ite hf).1 q_11
                              refine lv_tableIn (off := 508) (tgt := 551) hx hb dL_law_43 (by rw [q_11]; decide) (by rw [q_11]; decide) (by rw [q_11]; rfl) (by decide) ?_
                              refine r_aload_n hx hb dL_law_551 rfl (lv_at hl 1 rfl) ?_
                              refine lv_aload_n hx hb dL_law_552 rfl (lv_at hl 0 rfl) ?_
                              refine lv_iload_n hx hb dL_law_553 rfl (lv_at hl 3 rfl) ?_
                              refine lv_iconst (v := 1) hx hb dL_law_554 (by decide) ?_
                              refine lv_iadd hx hb dL_law_555 ?_
                              refine r_scr X hX hbl B hf dL_law_556 (fun v189 hf => ?_)
                              refine lv_aload_n hx hb dL_law_557 rfl (lv_at hl 0 rfl) ?_
                              refine lv_iload_n hx hb dL_law_558 rfl (lv_at hl 3 rfl) ?_
                              refine lv_iconst (v := 2) hx hb dL_law_559 (by decide) ?_
                              refine lv_iadd hx hb dL_law_560 ?_
                              refine r_scr X hX hbl B hf dL_law_561 (fun v190 hf => ?_)
                              refine rcv_inv hf ?_
                              intro a194 e195 s196 hf
                              refine cal_inv hf ?_
                              intro v191 h192 e193 hf
                              refine r_call B (va_runV (As := [.int v189, .int v190]) (rest := []) X.1 (c_X7_fieldOf (l := l) (D := D) (b := s.heap.size) e193) (r_cwV X rfl m_607 m_608 m_609 m_2 m_610 rfl rfl hd_X7_fieldOf ⟨Nat.le_of_ble_eq_true rfl, Nat.le_of_ble_eq_true rfl⟩) (r_preV X B s196 rfl [.int v189, .int v190]) rfl rfl hl.1 (by rw [e195]; rfl) (lv_room (by simp [va_cat, cat_i, cat_r, cat_l])) dL_law_562 ⟨(by first | (show _ ≤ 600000; omega) | (show _ ≤ 7302250; omega)), (by first | (show _ ≤ 600000; omega) | (show _ ≤ 7302250; omega))⟩) ?_
                              intro H locs B
                              refine W.cs (cells' := ((77 + 1 * (520 - (n + 1))) + 0)) (slots' := ((1924 + 12 * (520 - (n + 1))) + 0)) rfl rfl (W.eq (g2 := F0 m 565 ls [.int v191]) rfl ?_)
                              refine r_aload_n hx hb dL_law_565 rfl (lv_at hl 2 rfl) ?_
                              refine lv_aload_n hx hb dL_law_566 rfl (lv_at hl 0 rfl) ?_
                              refine lv_iload_n hx hb dL_law_567 rfl (lv_at hl 3 rfl) ?_
                              refine lv_iconst (v := 1) hx hb dL_law_568 (by decide) ?_
                              refine lv_iadd hx hb dL_law_569 ?_
                              refine r_scr X hX hbl B hf dL_law_570 (fun v197 hf => ?_)
                              refine lv_aload_n hx hb dL_law_571 rfl (lv_at hl 0 rfl) ?_
                              refine lv_iload_n hx hb dL_law_572 rfl (lv_at hl 3 rfl) ?_
                              refine lv_iconst (v := 2) hx hb dL_law_573 (by decide) ?_
                              refine lv_iadd hx hb dL_law_574 ?_
                              refine r_scr X hX hbl B hf dL_law_575 (fun v198 hf => ?_)
                              refine rcv_inv hf ?_
                              intro a202 e203 s204 hf
                              refine cal_inv hf ?_
                              intro v199 h200 e201 hf
                              refine r_call B (va_runV (As := [.int v197, .int v198]) (rest := [.int v191]) X.1 (c_X8_fieldOf (l := l) (D := D) (b := s.heap.size) e201) (r_cwV X rfl m_618 m_619 m_620 m_5 m_621 rfl rfl hd_X8_fieldOf ⟨Nat.le_of_ble_eq_true rfl, Nat.le_of_ble_eq_true rfl⟩) (r_preV X B s204 rfl [.int v197, .int v198]) rfl rfl hl.1 (by rw [e203]; rfl) (lv_room (by simp [va_cat, cat_i, cat_r, cat_l])) dL_law_576 ⟨(by first | (show _ ≤ 600000; omega) | (show _ ≤ 7302250; omega)), (by first | (show _ ≤ 600000; omega) | (show _ ≤ 7302250; omega))⟩) ?_
                              intro H locs B
                              refine W.cs (cells' := ((77 + 1 * (520 - (n + 1))) + 0)) (slots' := ((1924 + 12 * (520 - (n + 1))) + 0)) rfl rfl (W.eq (g2 := F0 m 579 ls [.int v199, .int v191]) rfl ?_)
                              refine lv_icmp_eq (tgt := 845) hx hb dL_law_579 (by decide) (fun q_ => ?_) (fun q_ => ?_)
                              · have hf := (r_ite hf).1 q_
                                exact t_L_law_845 X hr hk hX hbl hLs (ih (by omega)) (by omega) (by omega) (by omega) (by omega) B (lv_sub hl [0, 1, 2, 3] rfl) hf
                              · have hf := (r_ite hf).2 q_
                                refine lv_iconst (v := 0) hx hb dL_law_582 (by decide) ?_
                                cases hf
                            · have hf := (r_ite hf).2 q_11
                              by_cases q_12 : v21 = 12
                              · have hf := (r_ite hf).1 q_12
                                refine lv_tableIn (off := 541) (tgt := 584) hx hb dL_law_43 (by rw [q_12]; decide) (by rw [q_12]; decide) (by rw [q_12]; rfl) (by decide) ?_
                                refine r_aload_n hx hb dL_law_584 rfl (lv_at hl 1 rfl) ?_
                                refine lv_aload_n hx hb dL_law_585 rfl (lv_at hl 0 rfl) ?_
                                refine lv_iload_n hx hb dL_law_586 rfl (lv_at hl 3 rfl) ?_
                                refine lv_iconst (v := 1) hx hb dL_law_587 (by decide) ?_
                                refine lv_iadd hx hb dL_law_588 ?_
                                refine r_scr X hX hbl B hf dL_law_589 (fun v205 hf => ?_)
                                refine lv_aload_n hx hb dL_law_590 rfl (lv_at hl 0 rfl) ?_
                                refine lv_iload_n hx hb dL_law_591 rfl (lv_at hl 3 rfl) ?_
                                refine lv_iconst (v := 2) hx hb dL_law_592 (by decide) ?_
                                refine lv_iadd hx hb dL_law_593 ?_
                                refine r_scr X hX hbl B hf dL_law_594 (fun v206 hf => ?_)
                                refine rcv_inv hf ?_
                                intro a210 e211 s212 hf
                                refine cal_inv hf ?_
                                intro v207 h208 e209 hf
                                refine r_call B (va_runV (As := [.int v205, .int v206]) (rest := []) X.1 (c_X7_order (l := l) (D := D) (b := s.heap.size) e209) (r_cwV X rfl m_622 m_623 m_624 m_2 m_625 rfl rfl hd_X7_order ⟨Nat.le_of_ble_eq_true rfl, Nat.le_of_ble_eq_true rfl⟩) (r_preV X B s212 rfl [.int v205, .int v206]) rfl rfl hl.1 (by rw [e211]; rfl) (lv_room (by simp [va_cat, cat_i, cat_r, cat_l])) dL_law_595 ⟨(by first | (show _ ≤ 600000; omega) | (show _ ≤ 7302250; omega)), (by first | (show _ ≤ 600000; omega) | (show _ ≤ 7302250; omega))⟩) ?_
                                intro H locs B
                                refine W.cs (cells' := ((77 + 1 * (520 - (n + 1))) + 0)) (slots' := ((1924 + 12 * (520 - (n + 1))) + 0)) rfl rfl (W.eq (g2 := F0 m 598 ls [.int v207]) rfl ?_)
                                refine r_aload_n hx hb dL_law_598 rfl (lv_at hl 2 rfl) ?_
                                refine lv_aload_n hx hb dL_law_599 rfl (lv_at hl 0 rfl) ?_
                                refine lv_iload_n hx hb dL_law_600 rfl (lv_at hl 3 rfl) ?_
                                refine lv_iconst (v := 1) hx hb dL_law_601 (by decide) ?_
                                refine lv_iadd hx hb dL_law_602 ?_
                                refine r_scr X hX hbl B hf dL_law_603 (fun v213 hf => ?_)
                                refine lv_aload_n hx hb dL_law_604 rfl (lv_at hl 0 rfl) ?_
                                refine lv_iload_n hx hb dL_law_605 rfl (lv_at hl 3 rfl) ?_
                                refine lv_iconst (v := 2) hx hb dL_law_606 (by decide) ?_
                                refine lv_iadd hx hb dL_law_607 ?_
                                refine r_scr X hX hbl B hf dL_law_608 (fun v214 hf => ?_)
                                refine rcv_inv hf ?_
                                intro a218 e219 s220 hf
                                refine cal_inv hf ?_
                                intro v215 h216 e217 hf
                                refine r_call B (va_runV (As := [.int v213, .int v214]) (rest := [.int v207]) X.1 (c_X8_order (l := l) (D := D) (b := s.heap.size) e217) (r_cwV X rfl m_628 m_629 m_630 m_5 m_631 rfl rfl hd_X8_order ⟨Nat.le_of_ble_eq_true rfl, Nat.le_of_ble_eq_true rfl⟩) (r_preV X B s220 rfl [.int v213, .int v214]) rfl rfl hl.1 (by rw [e219]; rfl) (lv_room (by simp [va_cat, cat_i, cat_r, cat_l])) dL_law_609 ⟨(by first | (show _ ≤ 600000; omega) | (show _ ≤ 7302250; omega)), (by first | (show _ ≤ 600000; omega) | (show _ ≤ 7302250; omega))⟩) ?_
                                intro H locs B
                                refine W.cs (cells' := ((77 + 1 * (520 - (n + 1))) + 0)) (slots' := ((1924 + 12 * (520 - (n + 1))) + 0)) rfl rfl (W.eq (g2 := F0 m 612 ls [.int v215, .int v207]) rfl ?_)
                                refine lv_icmp_eq (tgt := 845) hx hb dL_law_612 (by decide) (fun q_ => ?_) (fun q_ => ?_)
                                · have hf := (r_ite hf).1 q_
                                  exact t_L_law_845 X hr hk hX hbl hLs (ih (by omega)) (by omega) (by omega) (by omega) (by omega) B (lv_sub hl [0, 1, 2, 3] rfl) hf
                                · have hf := (r_ite hf).2 q_
                                  refine lv_iconst (v := 0) hx hb dL_law_615 (by decide) ?_
                                  cases hf
                              · have hf := (r_ite hf).2 q_12
                                by_cases q_13 : v21 = 13
                                · have hf := (r_ite hf).1 q_13
                                  refine lv_tableIn (off := 574) (tgt := 617) hx hb dL_law_43 (by rw [q_13]; decide) (by rw [q_13]; decide) (by rw [q_13]; rfl) (by decide) ?_
                                  refine r_aload_n hx hb dL_law_617 rfl (lv_at hl 1 rfl) ?_
                                  refine lv_aload_n hx hb dL_law_618 rfl (lv_at hl 0 rfl) ?_
                                  refine lv_iload_n hx hb dL_law_619 rfl (lv_at hl 3 rfl) ?_
                                  refine lv_iconst (v := 1) hx hb dL_law_620 (by decide) ?_
                                  refine lv_iadd hx hb dL_law_621 ?_
                                  refine r_scr X hX hbl B hf dL_law_622 (fun v221 hf => ?_)
                                  refine rcv_inv hf ?_
                                  intro a225 e226 s227 hf
                                  refine cal_inv hf ?_
                                  intro v222 h223 e224 hf
                                  refine r_call B (va_runV (As := [.int v221]) (rest := []) X.1 (c_X7_owner (l := l) (D := D) (b := s.heap.size) e224) (r_cwV X rfl m_632 m_633 m_634 m_2 m_635 rfl rfl hd_X7_owner ⟨Nat.le_of_ble_eq_true rfl, Nat.le_of_ble_eq_true rfl⟩) (r_preV X B s227 rfl [.int v221]) rfl rfl hl.1 (by rw [e226]; rfl) (lv_room (by simp [va_cat, cat_i, cat_r, cat_l])) dL_law_623 ⟨(by first | (show _ ≤ 600000; omega) | (show _ ≤ 7302250; omega)), (by first | (show _ ≤ 600000; omega) | (show _ ≤ 7302250; omega))⟩) ?_
                                  intro H locs B
                                  refine W.cs (cells' := ((77 + 1 * (520 - (n + 1))) + 0)) (slots' := ((1924 + 12 * (520 - (n + 1))) + 0)) rfl rfl (W.eq (g2 := F0 m 626 ls [.int v222]) rfl ?_)
                                  refine r_aload_n hx hb dL_law_626 rfl (lv_at hl 2 rfl) ?_
                                  refine lv_aload_n hx hb dL_law_627 rfl (lv_at hl 0 rfl) ?_
                                  refine lv_iload_n hx hb dL_law_628 rfl (lv_at hl 3 rfl) ?_
                                  refine lv_iconst (v := 1) hx hb dL_law_629 (by decide) ?_
                                  refine lv_iadd hx hb dL_law_630 ?_
                                  refine r_scr X hX hbl B hf dL_law_631 (fun v228 hf => ?_)
                                  refine rcv_inv hf ?_
                                  intro a232 e233 s234 hf
                                  refine cal_inv hf ?_
                                  intro v229 h230 e231 hf
                                  refine r_call B (va_runV (As := [.int v228]) (rest := [.int v222]) X.1 (c_X8_owner (l := l) (D := D) (b := s.heap.size) e231) (r_cwV X rfl m_636 m_637 m_638 m_5 m_639 rfl rfl hd_X8_owner ⟨Nat.le_of_ble_eq_true rfl, Nat.le_of_ble_eq_true rfl⟩) (r_preV X B s234 rfl [.int v228]) rfl rfl hl.1 (by rw [e233]; rfl) (lv_room (by simp [va_cat, cat_i, cat_r, cat_l])) dL_law_632 ⟨(by first | (show _ ≤ 600000; omega) | (show _ ≤ 7302250; omega)), (by first | (show _ ≤ 600000; omega) | (show _ ≤ 7302250; omega))⟩) ?_
                                  intro H locs B
                                  refine W.cs (cells' := ((77 + 1 * (520 - (n + 1))) + 0)) (slots' := ((1924 + 12 * (520 - (n + 1))) + 0)) rfl rfl (W.eq (g2 := F0 m 635 ls [.int v229, .int v222]) rfl ?_)
                                  refine lv_icmp_eq (tgt := 845) hx hb dL_law_635 (by decide) (fun q_ => ?_) (fun q_ => ?_)
                                  · have hf := (r_ite hf).1 q_
                                    exact t_L_law_845 X hr hk hX hbl hLs (ih (by omega)) (by omega) (by omega) (by omega) (by omega) B (lv_sub hl [0, 1, 2, 3] rfl) hf
                                  · have hf := (r_ite hf).2 q_
                                    refine lv_iconst (v := 0) hx hb dL_law_638 (by decide) ?_
                                    cases hf
                                · have hf := (r_ite hf).2 q_13
                                  by_cases q_14 : v21 = 14
                                  · have hf := (r_ite hf).1 q_14
                                    refine lv_tableIn (off := 597) (tgt := 640) hx hb dL_law_43 (by rw [q_14]; decide) (by rw [q_14]; decide) (by rw [q_14]; rfl) (by decide) ?_
                                    refine r_aload_n hx hb dL_law_640 rfl (lv_at hl 1 rfl) ?_
                                    refine lv_aload_n hx hb dL_law_641 rfl (lv_at hl 0 rfl) ?_
                                    refine lv_iload_n hx hb dL_law_642 rfl (lv_at hl 3 rfl) ?_
                                    refine lv_iconst (v := 1) hx hb dL_law_643 (by decide) ?_
                                    refine lv_iadd hx hb dL_law_644 ?_
                                    refine r_scr X hX hbl B hf dL_law_645 (fun v235 hf => ?_)
                                    refine lv_aload_n hx hb dL_law_646 rfl (lv_at hl 0 rfl) ?_
                                    refine lv_iload_n hx hb dL_law_647 rfl (lv_at hl 3 rfl) ?_
                                    refine lv_iconst (v := 2) hx hb dL_law_648 (by decide) ?_
                                    refine lv_iadd hx hb dL_law_649 ?_
                                    refine r_scr X hX hbl B hf dL_law_650 (fun v236 hf => ?_)
                                    refine lv_aload_n hx hb dL_law_651 rfl (lv_at hl 0 rfl) ?_
                                    refine lv_iload_n hx hb dL_law_652 rfl (lv_at hl 3 rfl) ?_
                                    refine lv_iconst (v := 3) hx hb dL_law_653 (by decide) ?_
                                    refine lv_iadd hx hb dL_law_654 ?_
                                    refine r_scr X hX hbl B hf dL_law_655 (fun v237 hf => ?_)
                                    refine rcv_inv hf ?_
                                    intro a241 e242 s243 hf
                                    refine cal_inv hf ?_
                                    intro v238 h239 e240 hf
                                    refine r_call B (va_runV (As := [.int v235, .int v236, .int v237]) (rest := []) X.1 (c_X7_tried (l := l) (D := D) (b := s.heap.size) e240) (r_cwV X rfl m_640 m_641 m_642 m_2 m_643 rfl rfl hd_X7_tried ⟨Nat.le_of_ble_eq_true rfl, Nat.le_of_ble_eq_true rfl⟩) (r_preV X B s243 rfl [.int v235, .int v236, .int v237]) rfl rfl hl.1 (by rw [e242]; rfl) (lv_room (by simp [va_cat, cat_i, cat_r, cat_l])) dL_law_656 ⟨(by first | (show _ ≤ 600000; omega) | (show _ ≤ 7302250; omega)), (by first | (show _ ≤ 600000; omega) | (show _ ≤ 7302250; omega))⟩) ?_
                                    intro H locs B
                                    refine W.cs (cells' := ((77 + 1 * (520 - (n + 1))) + 0)) (slots' := ((1924 + 12 * (520 - (n + 1))) + 0)) rfl rfl (W.eq (g2 := F0 m 659 ls [.int v238]) rfl ?_)
                                    refine r_aload_n hx hb dL_law_659 rfl (lv_at hl 2 rfl) ?_
                                    refine lv_aload_n hx hb dL_law_660 rfl (lv_at hl 0 rfl) ?_
                                    refine lv_iload_n hx hb dL_law_661 rfl (lv_at hl 3 rfl) ?_
                                    refine lv_iconst (v := 1) hx hb dL_law_662 (by decide) ?_
                                    refine lv_iadd hx hb dL_law_663 ?_
                                    refine r_scr X hX hbl B hf dL_law_664 (fun v244 hf => ?_)
                                    refine lv_aload_n hx hb dL_law_665 rfl (lv_at hl 0 rfl) ?_
                                    refine lv_iload_n hx hb dL_law_666 rfl (lv_at hl 3 rfl) ?_
                                    refine lv_iconst (v := 2) hx hb dL_law_667 (by decide) ?_
                                    refine lv_iadd hx hb dL_law_668 ?_
                                    refine r_scr X hX hbl B hf dL_law_669 (fun v245 hf => ?_)
                                    refine lv_aload_n hx hb dL_law_670 rfl (lv_at hl 0 rfl) ?_
                                    refine lv_iload_n hx hb dL_law_671 rfl (lv_at hl 3 rfl) ?_
                                    refine lv_iconst (v := 3) hx hb dL_law_672 (by decide) ?_
                                    refine lv_iadd hx hb dL_law_673 ?_
                                    refine r_scr X hX hbl B hf dL_law_674 (fun v246 hf => ?_)
                                    refine rcv_inv hf ?_
                                    intro a250 e251 s252 hf
                                    refine cal_inv hf ?_
                                    intro v247 h248 e249 hf
                                    refine r_call B (va_runV (As := [.int v244, .int v245, .int v246]) (rest := [.int v238]) X.1 (c_X8_tried (l := l) (D := D) (b := s.heap.size) e249) (r_cwV X rfl m_651 m_652 m_653 m_5 m_654 rfl rfl hd_X8_tried ⟨Nat.le_of_ble_eq_true rfl, Nat.le_of_ble_eq_true rfl⟩) (r_preV X B s252 rfl [.int v244, .int v245, .int v246]) rfl rfl hl.1 (by rw [e251]; rfl) (lv_room (by simp [va_cat, cat_i, cat_r, cat_l])) dL_law_675 ⟨(by first | (show _ ≤ 600000; omega) | (show _ ≤ 7302250; omega)), (by first | (show _ ≤ 600000; omega) | (show _ ≤ 7302250; omega))⟩) ?_
                                    intro H locs B
                                    refine W.cs (cells' := ((77 + 1 * (520 - (n + 1))) + 0)) (slots' := ((1924 + 12 * (520 - (n + 1))) + 0)) rfl rfl (W.eq (g2 := F0 m 678 ls [.int v247, .int v238]) rfl ?_)
                                    refine lv_icmp_eq (tgt := 845) hx hb dL_law_678 (by decide) (fun q_ => ?_) (fun q_ => ?_)
                                    · have hf := (r_ite hf).1 q_
                                      exact t_L_law_845 X hr hk hX hbl hLs (ih (by omega)) (by omega) (by omega) (by omega) (by omega) B (lv_sub hl [0, 1, 2, 3] rfl) hf
                                    · have hf := (r_ite hf).2 q_
                                      refine lv_iconst (v := 0) hx hb dL_law_681 (by decide) ?_
                                      cases hf
                                  · have hf := (r_ite hf).2 q_14
                                    by_cases q_15 : v21 = 15
                                    · have hf := (r_ite hf).1 q_15
                                      refine lv_tableIn (off := 640) (tgt := 683) hx hb dL_law_43 (by rw [q_15]; decide) (by rw [q_15]; decide) (by rw [q_15]; rfl) (by decide) ?_
                                      refine r_aload_n hx hb dL_law_683 rfl (lv_at hl 1 rfl) ?_
                                      refine lv_aload_n hx hb dL_law_684 rfl (lv_at hl 0 rfl) ?_
                                      refine lv_iload_n hx hb dL_law_685 rfl (lv_at hl 3 rfl) ?_
                                      refine lv_iconst (v := 1) hx hb dL_law_686 (by decide) ?_
                                      refine lv_iadd hx hb dL_law_687 ?_
                                      refine r_scr X hX hbl B hf dL_law_688 (fun v253 hf => ?_)
                                      refine lv_aload_n hx hb dL_law_689 rfl (lv_at hl 0 rfl) ?_
                                      refine lv_iload_n hx hb dL_law_690 rfl (lv_at hl 3 rfl) ?_
                                      refine lv_iconst (v := 2) hx hb dL_law_691 (by decide) ?_
                                      refine lv_iadd hx hb dL_law_692 ?_
                                      refine r_scr X hX hbl B hf dL_law_693 (fun v254 hf => ?_)
                                      refine lv_aload_n hx hb dL_law_694 rfl (lv_at hl 0 rfl) ?_
                                      refine lv_iload_n hx hb dL_law_695 rfl (lv_at hl 3 rfl) ?_
                                      refine lv_iconst (v := 3) hx hb dL_law_696 (by decide) ?_
                                      refine lv_iadd hx hb dL_law_697 ?_
                                      refine r_scr X hX hbl B hf dL_law_698 (fun v255 hf => ?_)
                                      refine lv_aload_n hx hb dL_law_699 rfl (lv_at hl 0 rfl) ?_
                                      refine lv_iload_n hx hb dL_law_700 rfl (lv_at hl 3 rfl) ?_
                                      refine lv_iconst (v := 4) hx hb dL_law_701 (by decide) ?_
                                      refine lv_iadd hx hb dL_law_702 ?_
                                      refine r_scr X hX hbl B hf dL_law_703 (fun v256 hf => ?_)
                                      refine rcv_inv hf ?_
                                      intro a260 e261 s262 hf
                                      refine cal_inv hf ?_
                                      intro v257 h258 e259 hf
                                      refine r_call B (va_runV (As := [.int v253, .int v254, .int v255, .int v256]) (rest := []) X.1 (c_X7_lost (l := l) (D := D) (b := s.heap.size) e259) (r_cwV X rfl m_666 m_667 m_668 m_2 m_669 rfl rfl hd_X7_lost ⟨Nat.le_of_ble_eq_true rfl, Nat.le_of_ble_eq_true rfl⟩) (r_preV X B s262 rfl [.int v253, .int v254, .int v255, .int v256]) rfl rfl hl.1 (by rw [e261]; rfl) (lv_room (by simp [va_cat, cat_i, cat_r, cat_l])) dL_law_704 ⟨(by first | (show _ ≤ 600000; omega) | (show _ ≤ 7302250; omega)), (by first | (show _ ≤ 600000; omega) | (show _ ≤ 7302250; omega))⟩) ?_
                                      intro H locs B
                                      refine W.cs (cells' := ((77 + 1 * (520 - (n + 1))) + 0)) (slots' := ((1924 + 12 * (520 - (n + 1))) + 0)) rfl rfl (W.eq (g2 := F0 m 707 ls [.int v257]) rfl ?_)
                                      refine r_aload_n hx hb dL_law_707 rfl (lv_at hl 2 rfl) ?_
                                      refine lv_aload_n hx hb dL_law_708 rfl (lv_at hl 0 rfl) ?_
                                      refine lv_iload_n hx hb dL_law_709 rfl (lv_at hl 3 rfl) ?_
                                      refine lv_iconst (v := 1) hx hb dL_law_710 (by decide) ?_
                                      refine lv_iadd hx hb dL_law_711 ?_
                                      refine r_scr X hX hbl B hf dL_law_712 (fun v263 hf => ?_)
                                      refine lv_aload_n hx hb dL_law_713 rfl (lv_at hl 0 rfl) ?_
                                      refine lv_iload_n hx hb dL_law_714 rfl (lv_at hl 3 rfl) ?_
                                      refine lv_iconst (v := 2) hx hb dL_law_715 (by decide) ?_
                                      refine lv_iadd hx hb dL_law_716 ?_
                                      refine r_scr X hX hbl B hf dL_law_717 (fun v264 hf => ?_)
                                      refine lv_aload_n hx hb dL_law_718 rfl (lv_at hl 0 rfl) ?_
                                      refine lv_iload_n hx hb dL_law_719 rfl (lv_at hl 3 rfl) ?_
                                      refine lv_iconst (v := 3) hx hb dL_law_720 (by decide) ?_
                                      refine lv_iadd hx hb dL_law_721 ?_
                                      refine r_scr X hX hbl B hf dL_law_722 (fun v265 hf => ?_)
                                      refine lv_aload_n hx hb dL_law_723 rfl (lv_at hl 0 rfl) ?_
                                      refine lv_iload_n hx hb dL_law_724 rfl (lv_at hl 3 rfl) ?_
                                      refine lv_iconst (v := 4) hx hb dL_law_725 (by decide) ?_
                                      refine lv_iadd hx hb dL_law_726 ?_
                                      refine r_scr X hX hbl B hf dL_law_727 (fun v266 hf => ?_)
                                      refine rcv_inv hf ?_
                                      intro a270 e271 s272 hf
                                      refine cal_inv hf ?_
                                      intro v267 h268 e269 hf
                                      refine r_call B (va_runV (As := [.int v263, .int v264, .int v265, .int v266]) (rest := [.int v257]) X.1 (c_X8_lost (l := l) (D := D) (b := s.heap.size) e269) (r_cwV X rfl m_671 m_672 m_673 m_5 m_674 rfl rfl hd_X8_lost ⟨Nat.le_of_ble_eq_true rfl, Nat.le_of_ble_eq_true rfl⟩) (r_preV X B s272 rfl [.int v263, .int v264, .int v265, .int v266]) rfl rfl hl.1 (by rw [e271]; rfl) (lv_room (by simp [va_cat, cat_i, cat_r, cat_l])) dL_law_728 ⟨(by first | (show _ ≤ 600000; omega) | (show _ ≤ 7302250; omega)), (by first | (show _ ≤ 600000; omega) | (show _ ≤ 7302250; omega))⟩) ?_
                                      intro H locs B
                                      refine W.cs (cells' := ((77 + 1 * (520 - (n + 1))) + 0)) (slots' := ((1924 + 12 * (520 - (n + 1))) + 0)) rfl rfl (W.eq (g2 := F0 m 731 ls [.int v267, .int v257]) rfl ?_)
                                      refine lv_icmp_eq (tgt := 845) hx hb dL_law_731 (by decide) (fun q_ => ?_) (fun q_ => ?_)
                                      · have hf := (r_ite hf).1 q_
                                        exact t_L_law_845 X hr hk hX hbl hLs (ih (by omega)) (by omega) (by omega) (by omega) (by omega) B (lv_sub hl [0, 1, 2, 3] rfl) hf
                                      · have hf := (r_ite hf).2 q_
                                        refine lv_iconst (v := 0) hx hb dL_law_734 (by decide) ?_
                                        cases hf
                                    · have hf := (r_ite hf).2 q_15
                                      by_cases q_16 : v21 = 16
                                      · have hf := (r_ite hf).1 q_16
                                        refine lv_tableIn (off := 693) (tgt := 736) hx hb dL_law_43 (by rw [q_16]; decide) (by rw [q_16]; decide) (by rw [q_16]; rfl) (by decide) ?_
                                        refine r_aload_n hx hb dL_law_736 rfl (lv_at hl 1 rfl) ?_
                                        refine lv_aload_n hx hb dL_law_737 rfl (lv_at hl 0 rfl) ?_
                                        refine lv_iload_n hx hb dL_law_738 rfl (lv_at hl 3 rfl) ?_
                                        refine lv_iconst (v := 1) hx hb dL_law_739 (by decide) ?_
                                        refine lv_iadd hx hb dL_law_740 ?_
                                        refine r_scr X hX hbl B hf dL_law_741 (fun v273 hf => ?_)
                                        refine lv_aload_n hx hb dL_law_742 rfl (lv_at hl 0 rfl) ?_
                                        refine lv_iload_n hx hb dL_law_743 rfl (lv_at hl 3 rfl) ?_
                                        refine lv_iconst (v := 2) hx hb dL_law_744 (by decide) ?_
                                        refine lv_iadd hx hb dL_law_745 ?_
                                        refine r_scr X hX hbl B hf dL_law_746 (fun v274 hf => ?_)
                                        refine lv_aload_n hx hb dL_law_747 rfl (lv_at hl 0 rfl) ?_
                                        refine lv_iload_n hx hb dL_law_748 rfl (lv_at hl 3 rfl) ?_
                                        refine lv_iconst (v := 3) hx hb dL_law_749 (by decide) ?_
                                        refine lv_iadd hx hb dL_law_750 ?_
                                        refine r_scr X hX hbl B hf dL_law_751 (fun v275 hf => ?_)
                                        refine lv_aload_n hx hb dL_law_752 rfl (lv_at hl 0 rfl) ?_
                                        refine lv_iload_n hx hb dL_law_753 rfl (lv_at hl 3 rfl) ?_
                                        refine lv_iconst (v := 4) hx hb dL_law_754 (by decide) ?_
                                        refine lv_iadd hx hb dL_law_755 ?_
                                        refine r_scr X hX hbl B hf dL_law_756 (fun v276 hf => ?_)
                                        refine lv_aload_n hx hb dL_law_757 rfl (lv_at hl 0 rfl) ?_
                                        refine lv_iload_n hx hb dL_law_758 rfl (lv_at hl 3 rfl) ?_
                                        refine lv_iconst (v := 5) hx hb dL_law_759 (by decide) ?_
                                        refine lv_iadd hx hb dL_law_760 ?_
                                        refine r_scr X hX hbl B hf dL_law_761 (fun v277 hf => ?_)
                                        refine rcv_inv hf ?_
                                        intro a281 e282 s283 hf
                                        refine cal_inv hf ?_
                                        intro v278 h279 e280 hf
                                        refine r_call B (va_runV (As := [.int v273, .int v274, .int v275, .int v276, .int v277]) (rest := []) X.1 (c_X7_most (l := l) (D := D) (b := s.heap.size) e280) (r_cwV X rfl m_676 m_677 m_678 m_2 m_679 rfl rfl hd_X7_most ⟨Nat.le_of_ble_eq_true rfl, Nat.le_of_ble_eq_true rfl⟩) (r_preV X B s283 rfl [.int v273, .int v274, .int v275, .int v276, .int v277]) rfl rfl hl.1 (by rw [e282]; rfl) (lv_room (by simp [va_cat, cat_i, cat_r, cat_l])) dL_law_762 ⟨(by first | (show _ ≤ 600000; omega) | (show _ ≤ 7302250; omega)), (by first | (show _ ≤ 600000; omega) | (show _ ≤ 7302250; omega))⟩) ?_
                                        intro H locs B
                                        refine W.cs (cells' := ((77 + 1 * (520 - (n + 1))) + 0)) (slots' := ((1924 + 12 * (520 - (n + 1))) + 0)) rfl rfl (W.eq (g2 := F0 m 765 ls [.int v278]) rfl ?_)
                                        refine r_aload_n hx hb dL_law_765 rfl (lv_at hl 2 rfl) ?_
                                        refine lv_aload_n hx hb dL_law_766 rfl (lv_at hl 0 rfl) ?_
                                        refine lv_iload_n hx hb dL_law_767 rfl (lv_at hl 3 rfl) ?_
                                        refine lv_iconst (v := 1) hx hb dL_law_768 (by decide) ?_
                                        refine lv_iadd hx hb dL_law_769 ?_
                                        refine r_scr X hX hbl B hf dL_law_770 (fun v284 hf => ?_)
                                        refine lv_aload_n hx hb dL_law_771 rfl (lv_at hl 0 rfl) ?_
                                        refine lv_iload_n hx hb dL_law_772 rfl (lv_at hl 3 rfl) ?_
                                        refine lv_iconst (v := 2) hx hb dL_law_773 (by decide) ?_
                                        refine lv_iadd hx hb dL_law_774 ?_
                                        refine r_scr X hX hbl B hf dL_law_775 (fun v285 hf => ?_)
                                        refine lv_aload_n hx hb dL_law_776 rfl (lv_at hl 0 rfl) ?_
                                        refine lv_iload_n hx hb dL_law_777 rfl (lv_at hl 3 rfl) ?_
                                        refine lv_iconst (v := 3) hx hb dL_law_778 (by decide) ?_
                                        refine lv_iadd hx hb dL_law_779 ?_
                                        refine r_scr X hX hbl B hf dL_law_780 (fun v286 hf => ?_)
                                        refine lv_aload_n hx hb dL_law_781 rfl (lv_at hl 0 rfl) ?_
                                        refine lv_iload_n hx hb dL_law_782 rfl (lv_at hl 3 rfl) ?_
                                        refine lv_iconst (v := 4) hx hb dL_law_783 (by decide) ?_
                                        refine lv_iadd hx hb dL_law_784 ?_
                                        refine r_scr X hX hbl B hf dL_law_785 (fun v287 hf => ?_)
                                        refine lv_aload_n hx hb dL_law_786 rfl (lv_at hl 0 rfl) ?_
                                        refine lv_iload_n hx hb dL_law_787 rfl (lv_at hl 3 rfl) ?_
                                        refine lv_iconst (v := 5) hx hb dL_law_788 (by decide) ?_
                                        refine lv_iadd hx hb dL_law_789 ?_
                                        refine r_scr X hX hbl B hf dL_law_790 (fun v288 hf => ?_)
                                        refine rcv_inv hf ?_
                                        intro a292 e293 s294 hf
                                        refine cal_inv hf ?_
                                        intro v289 h290 e291 hf
                                        refine r_call B (va_runV (As := [.int v284, .int v285, .int v286, .int v287, .int v288]) (rest := [.int v278]) X.1 (c_X8_most (l := l) (D := D) (b := s.heap.size) e291) (r_cwV X rfl m_688 m_689 m_690 m_5 m_691 rfl rfl hd_X8_most ⟨Nat.le_of_ble_eq_true rfl, Nat.le_of_ble_eq_true rfl⟩) (r_preV X B s294 rfl [.int v284, .int v285, .int v286, .int v287, .int v288]) rfl rfl hl.1 (by rw [e293]; rfl) (lv_room (by simp [va_cat, cat_i, cat_r, cat_l])) dL_law_791 ⟨(by first | (show _ ≤ 600000; omega) | (show _ ≤ 7302250; omega)), (by first | (show _ ≤ 600000; omega) | (show _ ≤ 7302250; omega))⟩) ?_
                                        intro H locs B
                                        refine W.cs (cells' := ((77 + 1 * (520 - (n + 1))) + 0)) (slots' := ((1924 + 12 * (520 - (n + 1))) + 0)) rfl rfl (W.eq (g2 := F0 m 794 ls [.int v289, .int v278]) rfl ?_)
                                        refine lv_icmp_eq (tgt := 845) hx hb dL_law_794 (by decide) (fun q_ => ?_) (fun q_ => ?_)
                                        · have hf := (r_ite hf).1 q_
                                          exact t_L_law_845 X hr hk hX hbl hLs (ih (by omega)) (by omega) (by omega) (by omega) (by omega) B (lv_sub hl [0, 1, 2, 3] rfl) hf
                                        · have hf := (r_ite hf).2 q_
                                          refine lv_iconst (v := 0) hx hb dL_law_797 (by decide) ?_
                                          cases hf
                                      · have hf := (r_ite hf).2 q_16
                                        by_cases q_17 : v21 = 17
                                        · have hf := (r_ite hf).1 q_17
                                          refine lv_tableIn (off := 756) (tgt := 799) hx hb dL_law_43 (by rw [q_17]; decide) (by rw [q_17]; decide) (by rw [q_17]; rfl) (by decide) ?_
                                          refine r_aload_n hx hb dL_law_799 rfl (lv_at hl 1 rfl) ?_
                                          refine lv_aload_n hx hb dL_law_800 rfl (lv_at hl 0 rfl) ?_
                                          refine lv_iload_n hx hb dL_law_801 rfl (lv_at hl 3 rfl) ?_
                                          refine lv_iconst (v := 1) hx hb dL_law_802 (by decide) ?_
                                          refine lv_iadd hx hb dL_law_803 ?_
                                          refine r_scr X hX hbl B hf dL_law_804 (fun v295 hf => ?_)
                                          refine rcv_inv hf ?_
                                          intro a299 e300 s301 hf
                                          refine cal_inv hf ?_
                                          intro v296 h297 e298 hf
                                          refine r_call B (va_runV (As := [.int v295]) (rest := []) X.1 (c_X7_breach (l := l) (D := D) (b := s.heap.size) e298) (r_cwV X rfl m_692 m_693 m_694 m_2 m_695 rfl rfl hd_X7_breach ⟨Nat.le_of_ble_eq_true rfl, Nat.le_of_ble_eq_true rfl⟩) (r_preV X B s301 rfl [.int v295]) rfl rfl hl.1 (by rw [e300]; rfl) (lv_room (by simp [va_cat, cat_i, cat_r, cat_l])) dL_law_805 ⟨(by first | (show _ ≤ 600000; omega) | (show _ ≤ 7302250; omega)), (by first | (show _ ≤ 600000; omega) | (show _ ≤ 7302250; omega))⟩) ?_
                                          intro H locs B
                                          refine W.cs (cells' := ((77 + 1 * (520 - (n + 1))) + 0)) (slots' := ((1924 + 12 * (520 - (n + 1))) + 0)) rfl rfl (W.eq (g2 := F0 m 808 ls [.int v296]) rfl ?_)
                                          refine r_aload_n hx hb dL_law_808 rfl (lv_at hl 2 rfl) ?_
                                          refine lv_aload_n hx hb dL_law_809 rfl (lv_at hl 0 rfl) ?_
                                          refine lv_iload_n hx hb dL_law_810 rfl (lv_at hl 3 rfl) ?_
                                          refine lv_iconst (v := 1) hx hb dL_law_811 (by decide) ?_
                                          refine lv_iadd hx hb dL_law_812 ?_
                                          refine r_scr X hX hbl B hf dL_law_813 (fun v302 hf => ?_)
                                          refine rcv_inv hf ?_
                                          intro a306 e307 s308 hf
                                          refine cal_inv hf ?_
                                          intro v303 h304 e305 hf
                                          refine r_call B (va_runV (As := [.int v302]) (rest := [.int v296]) X.1 (c_X8_breach (l := l) (D := D) (b := s.heap.size) e305) (r_cwV X rfl m_696 m_697 m_698 m_5 m_699 rfl rfl hd_X8_breach ⟨Nat.le_of_ble_eq_true rfl, Nat.le_of_ble_eq_true rfl⟩) (r_preV X B s308 rfl [.int v302]) rfl rfl hl.1 (by rw [e307]; rfl) (lv_room (by simp [va_cat, cat_i, cat_r, cat_l])) dL_law_814 ⟨(by first | (show _ ≤ 600000; omega) | (show _ ≤ 7302250; omega)), (by first | (show _ ≤ 600000; omega) | (show _ ≤ 7302250; omega))⟩) ?_
                                          intro H locs B
                                          refine W.cs (cells' := ((77 + 1 * (520 - (n + 1))) + 0)) (slots' := ((1924 + 12 * (520 - (n + 1))) + 0)) rfl rfl (W.eq (g2 := F0 m 817 ls [.int v303, .int v296]) rfl ?_)
                                          refine lv_icmp_eq (tgt := 845) hx hb dL_law_817 (by decide) (fun q_ => ?_) (fun q_ => ?_)
                                          · have hf := (r_ite hf).1 q_
                                            exact t_L_law_845 X hr hk hX hbl hLs (ih (by omega)) (by omega) (by omega) (by omega) (by omega) B (lv_sub hl [0, 1, 2, 3] rfl) hf
                                          · have hf := (r_ite hf).2 q_
                                            refine lv_iconst (v := 0) hx hb dL_law_820 (by decide) ?_
                                            cases hf
                                        · have hf := (r_ite hf).2 q_17
                                          by_cases q_18 : v21 = 18
                                          · have hf := (r_ite hf).1 q_18
                                            refine lv_tableIn (off := 779) (tgt := 822) hx hb dL_law_43 (by rw [q_18]; decide) (by rw [q_18]; decide) (by rw [q_18]; rfl) (by decide) ?_
                                            refine r_aload_n hx hb dL_law_822 rfl (lv_at hl 1 rfl) ?_
                                            refine lv_aload_n hx hb dL_law_823 rfl (lv_at hl 0 rfl) ?_
                                            refine lv_iload_n hx hb dL_law_824 rfl (lv_at hl 3 rfl) ?_
                                            refine lv_iconst (v := 1) hx hb dL_law_825 (by decide) ?_
                                            refine lv_iadd hx hb dL_law_826 ?_
                                            refine r_scr X hX hbl B hf dL_law_827 (fun v309 hf => ?_)
                                            refine rcv_inv hf ?_
                                            intro a313 e314 s315 hf
                                            refine cal_inv hf ?_
                                            intro v310 h311 e312 hf
                                            refine r_call B (va_runV (As := [.int v309]) (rest := []) X.1 (c_X7_count (l := l) (D := D) (b := s.heap.size) e312) (r_cwV X rfl m_700 m_701 m_702 m_2 m_703 rfl rfl hd_X7_count ⟨Nat.le_of_ble_eq_true rfl, Nat.le_of_ble_eq_true rfl⟩) (r_preV X B s315 rfl [.int v309]) rfl rfl hl.1 (by rw [e314]; rfl) (lv_room (by simp [va_cat, cat_i, cat_r, cat_l])) dL_law_828 ⟨(by first | (show _ ≤ 600000; omega) | (show _ ≤ 7302250; omega)), (by first | (show _ ≤ 600000; omega) | (show _ ≤ 7302250; omega))⟩) ?_
                                            intro H locs B
                                            refine W.cs (cells' := ((77 + 1 * (520 - (n + 1))) + 0)) (slots' := ((1924 + 12 * (520 - (n + 1))) + 0)) rfl rfl (W.eq (g2 := F0 m 831 ls [.int v310]) rfl ?_)
                                            refine r_aload_n hx hb dL_law_831 rfl (lv_at hl 2 rfl) ?_
                                            refine lv_aload_n hx hb dL_law_832 rfl (lv_at hl 0 rfl) ?_
                                            refine lv_iload_n hx hb dL_law_833 rfl (lv_at hl 3 rfl) ?_
                                            refine lv_iconst (v := 1) hx hb dL_law_834 (by decide) ?_
                                            refine lv_iadd hx hb dL_law_835 ?_
                                            refine r_scr X hX hbl B hf dL_law_836 (fun v316 hf => ?_)
                                            refine rcv_inv hf ?_
                                            intro a320 e321 s322 hf
                                            refine cal_inv hf ?_
                                            intro v317 h318 e319 hf
                                            refine r_call B (va_runV (As := [.int v316]) (rest := [.int v310]) X.1 (c_X8_count (l := l) (D := D) (b := s.heap.size) e319) (r_cwV X rfl m_712 m_713 m_714 m_5 m_715 rfl rfl hd_X8_count ⟨Nat.le_of_ble_eq_true rfl, Nat.le_of_ble_eq_true rfl⟩) (r_preV X B s322 rfl [.int v316]) rfl rfl hl.1 (by rw [e321]; rfl) (lv_room (by simp [va_cat, cat_i, cat_r, cat_l])) dL_law_837 ⟨(by first | (show _ ≤ 600000; omega) | (show _ ≤ 7302250; omega)), (by first | (show _ ≤ 600000; omega) | (show _ ≤ 7302250; omega))⟩) ?_
                                            intro H locs B
                                            refine W.cs (cells' := ((77 + 1 * (520 - (n + 1))) + 0)) (slots' := ((1924 + 12 * (520 - (n + 1))) + 0)) rfl rfl (W.eq (g2 := F0 m 840 ls [.int v317, .int v310]) rfl ?_)
                                            refine lv_icmp_eq (tgt := 845) hx hb dL_law_840 (by decide) (fun q_ => ?_) (fun q_ => ?_)
                                            · have hf := (r_ite hf).1 q_
                                              exact t_L_law_845 X hr hk hX hbl hLs (ih (by omega)) (by omega) (by omega) (by omega) (by omega) B (lv_sub hl [0, 1, 2, 3] rfl) hf
                                            · have hf := (r_ite hf).2 q_
                                              refine lv_iconst (v := 0) hx hb dL_law_843 (by decide) ?_
                                              cases hf
                                          · have hf := (r_ite hf).2 q_18
                                            have w_0 := lv_neT (a := 0) q_0 (by decide)
                                            have w_1 := lv_neT (a := 1) q_1 (by decide)
                                            have w_2 := lv_neT (a := 2) q_2 (by decide)
                                            have w_3 := lv_neT (a := 3) q_3 (by decide)
                                            have w_4 := lv_neT (a := 4) q_4 (by decide)
                                            have w_5 := lv_neT (a := 5) q_5 (by decide)
                                            have w_6 := lv_neT (a := 6) q_6 (by decide)
                                            have w_7 := lv_neT (a := 7) q_7 (by decide)
                                            have w_8 := lv_neT (a := 8) q_8 (by decide)
                                            have w_9 := lv_neT (a := 9) q_9 (by decide)
                                            have w_10 := lv_neT (a := 10) q_10 (by decide)
                                            have w_11 := lv_neT (a := 11) q_11 (by decide)
                                            have w_12 := lv_neT (a := 12) q_12 (by decide)
                                            have w_13 := lv_neT (a := 13) q_13 (by decide)
                                            have w_14 := lv_neT (a := 14) q_14 (by decide)
                                            have w_15 := lv_neT (a := 15) q_15 (by decide)
                                            have w_16 := lv_neT (a := 16) q_16 (by decide)
                                            have w_17 := lv_neT (a := 17) q_17 (by decide)
                                            have w_18 := lv_neT (a := 18) q_18 (by decide)
                                            refine lv_tableOut (tgt := 845) hx hb dL_law_43 (by omega) (by decide) ?_
                                            exact t_L_law_845 X hr hk hX hbl hLs (ih (by omega)) (by omega) (by omega) (by omega) (by omega) B (lv_sub hl [0, 1, 2, 3] rfl) hf
set_option maxRecDepth 100000 in
set_option maxHeartbeats 4000000 in
theorem c_L_law {p : Program} {l : Launch} {e : Env} {s : State} {m : MethodId} {below : List Frame} {meth : Method} {c : Code} {D : RG} {b0 L : Nat} {xs : Nat → Int32} {hh : AH} (X : r_C p c cL_law 4 s m #[Value.ref b0] RL D s.heap.size) (hr : meth.sig.returnType = ret) (hk : meth.locks = false) (hX : va_X b0 L xs s s.heap) (hbl : b0 < s.heap.size) (hLs : L < 2 ^ 31) {h : AH} {H : Heap} {locs : List Loc} {ls : Array Slot} (B : r_B D s.heap.size s h H locs) (hl : lv_has ls 4 [(0, .ref b0)]) (hf : f_L_law xs L h = some ((), hh)) : W p l e room_1 s m #[Value.ref b0] below meth c H locs 0 0 (lw_Z below #[Value.ref b0] s) (F0 m 0 ls []) := by
  obtain ⟨⟨hx, hb, hml, hown, hts⟩, -⟩ := id X
  unfold f_L_law at hf
  refine r_new X B hf rfl inlX7 tyX7_ok m_0 m_1 m_2 (by first | (show _ ≤ 600000; omega) | (show _ ≤ 7302250; omega)) (by first | (show _ ≤ 600000; omega) | (show _ ≤ 7302250; omega)) dL_law_0 (by decide) (fun a323 h324 H B hf => ?_)
  refine W.cs (cells' := 1) (slots' := 15) rfl rfl ?_
  refine lv_dup hx hb dL_law_3 (va_cat _) ?_
  refine lv_aload_n hx hb dL_law_4 rfl (lv_at hl 0 rfl) ?_
  refine lv_iconst (v := 0) hx hb dL_law_5 (by decide) ?_
  refine r_lcell X hX hbl B hLs hl.1 (by simp [va_cat, cat_i, cat_r, cat_l]) ⟨by show _ ≤ 600000; omega, by show _ ≤ 7302250; omega⟩ (Nat.le_of_ble_eq_true rfl) (Nat.le_of_ble_eq_true rfl) dL_law_6 ?_
  intro H locs B
  refine r_bd hf (fun v325 hf => ?_)
  refine rcv_inv hf ?_
  intro a329 e330 s331 hf
  refine cal_inv hf ?_
  intro v326 h327 e328 hf
  refine r_call B (va_runI (b := a329) (As := [.int v325]) (rest := [va_rf (some a323)]) X.1 (c_X7_init (l := l) (D := D) (b := s.heap.size) e328) (r_cwI X rfl m_10 m_11 m_2 m_12 rfl rfl hd_X7_init ⟨Nat.le_of_ble_eq_true rfl, Nat.le_of_ble_eq_true rfl⟩) (r_preS X B (.ref a329 :: [.int v325])) rfl rfl hl.1 (by rw [e330]; rfl) (lv_room (by simp [va_cat, cat_i, cat_r, cat_l])) dL_law_9 ⟨(by first | (show _ ≤ 600000; omega) | (show _ ≤ 7302250; omega)), (by first | (show _ ≤ 600000; omega) | (show _ ≤ 7302250; omega))⟩) ?_
  intro H locs B
  refine W.cs (cells' := 48) (slots' := 656) rfl rfl (W.eq (g2 := F0 m 12 ls [va_rf (some a323)]) rfl ?_)
  refine r_astore_n (i := 1) (lv' := [(1, va_rf (some a323)), (0, .ref b0)]) hx hb dL_law_12 rfl hl (by decide) (by first | rfl | simp [va_cat, cat_i, cat_r, cat_l]) (fun ls hl => ?_)
  refine r_new X B hf rfl inlX8 tyX8_ok m_3 m_4 m_5 (by first | (show _ ≤ 600000; omega) | (show _ ≤ 7302250; omega)) (by first | (show _ ≤ 600000; omega) | (show _ ≤ 7302250; omega)) dL_law_13 (by decide) (fun a332 h333 H B hf => ?_)
  refine W.cs (cells' := 49) (slots' := 703) rfl rfl ?_
  refine lv_dup hx hb dL_law_16 (va_cat _) ?_
  refine lv_aload_n hx hb dL_law_17 rfl (lv_at hl 1 rfl) ?_
  refine lv_iconst (v := 0) hx hb dL_law_18 (by decide) ?_
  refine r_lcell X hX hbl B hLs hl.1 (by simp [va_cat, cat_i, cat_r, cat_l]) ⟨by show _ ≤ 600000; omega, by show _ ≤ 7302250; omega⟩ (Nat.le_of_ble_eq_true rfl) (Nat.le_of_ble_eq_true rfl) dL_law_19 ?_
  intro H locs B
  refine r_bd hf (fun v334 hf => ?_)
  refine rcv_inv hf ?_
  intro a338 e339 s340 hf
  refine cal_inv hf ?_
  intro v335 h336 e337 hf
  refine r_call B (va_runI (b := a338) (As := [.int v334]) (rest := [va_rf (some a332)]) X.1 (c_X8_init (l := l) (D := D) (b := s.heap.size) e337) (r_cwI X rfl m_115 m_116 m_5 m_117 rfl rfl hd_X8_init ⟨Nat.le_of_ble_eq_true rfl, Nat.le_of_ble_eq_true rfl⟩) (r_preS X B (.ref a338 :: [.int v334])) rfl rfl hl.1 (by rw [e339]; rfl) (lv_room (by simp [va_cat, cat_i, cat_r, cat_l])) dL_law_22 ⟨(by first | (show _ ≤ 600000; omega) | (show _ ≤ 7302250; omega)), (by first | (show _ ≤ 600000; omega) | (show _ ≤ 7302250; omega))⟩) ?_
  intro H locs B
  refine W.cs (cells' := 77) (slots' := 1924) rfl rfl (W.eq (g2 := F0 m 25 ls [va_rf (some a332)]) rfl ?_)
  refine r_astore_n (i := 2) (lv' := [(2, va_rf (some a332)), (1, va_rf (some a323)), (0, .ref b0)]) hx hb dL_law_25 rfl hl (by decide) (by first | rfl | simp [va_cat, cat_i, cat_r, cat_l]) (fun ls hl => ?_)
  refine lv_iconst (v := 1) hx hb dL_law_26 (by decide) ?_
  refine lv_istore_n (i := 3) (lv' := [(3, .int 1), (2, va_rf (some a332)), (1, va_rf (some a323)), (0, .ref b0)]) hx hb dL_law_27 rfl hl (by decide) (by first | rfl | simp [va_cat, cat_i, cat_r, cat_l]) (fun ls hl => ?_)
  exact t_L_law_28 X hr hk hX hbl hLs 520 (by decide) _ _ _ _ _ _ _ B (lv_sub hl [3, 2, 1, 0] rfl) hf
