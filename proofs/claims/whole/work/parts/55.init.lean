/-! ===== new objects: the class ===== -/
section IN
variable {α : Type} {h : AH} {t : Sh} {a : Nat}
theorem nw_1 : (newS h t).1 = h.1 + 1 := rfl
theorem nw_se : (newS h t).2.1 h.1 = some t := if_pos rfl
theorem nw_sn (ha : a ≠ h.1) : (newS h t).2.1 a = h.2.1 a := if_neg ha
theorem nw_ie : (newS h t).2.2.1 h.1 = fun _ => 0 := by funext k; exact if_pos rfl
theorem nw_in (ha : a ≠ h.1) : (newS h t).2.2.1 a = h.2.2.1 a := by funext k; exact if_neg ha
theorem nw_re : (newS h t).2.2.2 h.1 = fun _ => none := by funext k; exact if_pos rfl
theorem nw_rn (ha : a ≠ h.1) : (newS h t).2.2.2 a = h.2.2.2 a := by funext k; exact if_neg ha
theorem sR_u {k : Nat} {x : Option Nat} : (setR h a k x).2.2.2 = u2 h.2.2.2 a k x := rfl
theorem ev_nAl {ty : FieldType} {x : Int32} {N M : Nat} {K : Nat → AH → Option α} (hx : ¬ (x < 0 ∨ N < x.toNatClampNeg)) (e : x.toNatClampNeg = M) : nA h ty x N K = K h.1 (newS h (.inr (ty, M))) := by
  unfold nA
  rw [if_neg hx, e]
/-- an array comes and a field of object o holds it -/
def nAp (h : AH) (ty : FieldType) (M o k : Nat) : AH := setR (newS h (.inr (ty, M))) o k (some h.1)
def i6 (h : AH) (a : Nat) : AH := setI (setI (setI (setI (setI (nAp h .byte 300 a 0) a 1 0) a 2 0) a 3 0) a 4 0) a 5 0
def i0 (h : AH) (a : Nat) : AH := setI (setI (setI (setI (setI (nAp h .int 10 a 0) a 1 0) a 2 9) a 3 0) a 4 0) a 5 0
def i4 (h : AH) (a : Nat) : AH := setI (setI (setI (setI h a 0 0) a 1 0) a 2 0) a 3 0
def i3 (h : AH) (a : Nat) : AH := setI (setI (setI (setI (setI h a 0 0) a 1 0) a 2 0) a 3 0) a 4 0
theorem v_i6 (sa : h.2.1 a = some (.inl 6)) (ha : a < h.1) : f_X6_init h a = some ((), i6 h a) := by
  have s1 : (nAp h .byte 300 a 0).2.1 a = some (.inl 6) := (nw_sn (by omega)).trans sa
  unfold f_X6_init
  rw [ev_nAl (M := 300) (by decide) (by decide), ev_pR (by rw [nw_sn (by omega)]; exact sa), show setR (newS h (.inr (.byte, 300))) a 0 (some h.1) = nAp h .byte 300 a 0 from rfl, ev_pI s1, ev_pI (by simp only [sI_s]; exact s1), ev_pI (by simp only [sI_s]; exact s1), ev_pI (by simp only [sI_s]; exact s1), ev_pI (by simp only [sI_s]; exact s1)]
  rfl
theorem v_i0 (sa : h.2.1 a = some (.inl 0)) (ha : a < h.1) : f_X0_init h a = some ((), i0 h a) := by
  have s1 : (nAp h .int 10 a 0).2.1 a = some (.inl 0) := (nw_sn (by omega)).trans sa
  unfold f_X0_init
  rw [ev_nAl (M := 10) (by decide) (by decide), ev_pR (by rw [nw_sn (by omega)]; exact sa), show setR (newS h (.inr (.int, 10))) a 0 (some h.1) = nAp h .int 10 a 0 from rfl, ev_pI s1, ev_pI (by simp only [sI_s]; exact s1), ev_pI (by simp only [sI_s]; exact s1), ev_pZ0 (by simp only [sI_s]; exact s1), ev_pI (by simp only [sI_s]; exact s1)]
  rfl
theorem v_i4 (sa : h.2.1 a = some (.inl 4)) : f_X4_init h a = some ((), i4 h a) := by
  unfold f_X4_init
  rw [ev_pI sa, ev_pI (by simp only [sI_s]; exact sa), ev_pI (by simp only [sI_s]; exact sa), ev_pI (by simp only [sI_s]; exact sa)]
  rfl
theorem v_i3 (sa : h.2.1 a = some (.inl 3)) : f_X3_init h a = some ((), i3 h a) := by
  unfold f_X3_init
  rw [ev_pI sa, ev_pI (by simp only [sI_s]; exact sa), ev_pZ0 (by simp only [sI_s]; exact sa), ev_pI (by simp only [sI_s]; exact sa), ev_pI (by simp only [sI_s]; exact sa)]
  rfl
/-- a stage adds cells from h.1 on and writes into o alone of the older -/
def Grow (o : Nat) (h h' : AH) : Prop := h.1 ≤ h'.1 ∧ (∀ a, a < h.1 → h'.2.1 a = h.2.1 a) ∧ (∀ a, a < h.1 → a ≠ o → h'.2.2.1 a = h.2.2.1 a) ∧ ∀ a, a < h.1 → a ≠ o → h'.2.2.2 a = h.2.2.2 a
theorem Grow.rf {o : Nat} : Grow o h h := ⟨Nat.le_refl _, fun _ _ => rfl, fun _ _ _ => rfl, fun _ _ _ => rfl⟩
theorem Grow.tr {o : Nat} {h1 h2 : AH} (p : Grow o h h1) (q : Grow o h1 h2) : Grow o h h2 := ⟨Nat.le_trans p.1 q.1, fun a ha => (q.2.1 a (Nat.lt_of_lt_of_le ha p.1)).trans (p.2.1 a ha), fun a ha hn => (q.2.2.1 a (Nat.lt_of_lt_of_le ha p.1) hn).trans (p.2.2.1 a ha hn), fun a ha hn => (q.2.2.2 a (Nat.lt_of_lt_of_le ha p.1) hn).trans (p.2.2.2 a ha hn)⟩
theorem Grow.new {o : Nat} : Grow o h (newS h t) := ⟨Nat.le_succ _, fun a ha => nw_sn (by omega), fun a ha _ => nw_in (by omega), fun a ha _ => nw_rn (by omega)⟩
theorem Grow.sI {o k : Nat} {x : Int32} : Grow o h (setI h o k x) := ⟨Nat.le_refl _, fun _ _ => rfl, fun a _ hn => by rw [sI_u, u2_ne _ _ hn], fun _ _ _ => rfl⟩
theorem Grow.sR {o k : Nat} {x : Option Nat} : Grow o h (setR h o k x) := ⟨Nat.le_refl _, fun _ _ => rfl, fun _ _ _ => rfl, fun a _ hn => by rw [sR_u, u2_ne _ _ hn]⟩
/-- a new object o1 and what its constructor makes, all new -/
theorem Grow.lift {o o1 : Nat} {h1 h2 : AH} (p : Grow o h h1) (q : Grow o1 h1 h2) (ho : h.1 ≤ o1) : Grow o h h2 := ⟨Nat.le_trans p.1 q.1, fun a ha => (q.2.1 a (Nat.lt_of_lt_of_le ha p.1)).trans (p.2.1 a ha), fun a ha hn => (q.2.2.1 a (Nat.lt_of_lt_of_le ha p.1) (by omega)).trans (p.2.2.1 a ha hn), fun a ha hn => (q.2.2.2 a (Nat.lt_of_lt_of_le ha p.1) (by omega)).trans (p.2.2.2 a ha hn)⟩
theorem g_i6 : Grow a h (i6 h a) := (((((Grow.new.tr Grow.sR).tr Grow.sI).tr Grow.sI).tr Grow.sI).tr Grow.sI).tr Grow.sI
theorem g_i0 : Grow a h (i0 h a) := (((((Grow.new.tr Grow.sR).tr Grow.sI).tr Grow.sI).tr Grow.sI).tr Grow.sI).tr Grow.sI
theorem g_i4 : Grow a h (i4 h a) := ((Grow.sI.tr Grow.sI).tr Grow.sI).tr Grow.sI
theorem g_i3 : Grow a h (i3 h a) := (((Grow.sI.tr Grow.sI).tr Grow.sI).tr Grow.sI).tr Grow.sI
end IN
section I7
variable {z n : Nat}
/-- the class's object and what it holds, before its tanks -/
def B7 (z n : Nat) (h : AH) : Prop := h.1 = z + 10 ∧
  (h.2.1 z = some (.inl 7) ∧ h.2.1 (z + 1) = some (.inr (.object RX1, 40)) ∧ h.2.1 (z + 2) = some (.inl 6) ∧ h.2.1 (z + 3) = some (.inr (.byte, 300)) ∧ h.2.1 (z + 4) = some (.inl 0) ∧ h.2.1 (z + 5) = some (.inr (.int, 10)) ∧ h.2.1 (z + 6) = some (.inl 0) ∧ h.2.1 (z + 7) = some (.inr (.int, 10)) ∧ h.2.1 (z + 8) = some (.inl 4) ∧ h.2.1 (z + 9) = some (.inr (.object RX5, n))) ∧
  (h.2.2.2 z 0 = some (z + 9) ∧ h.2.2.2 z 1 = some (z + 1) ∧ h.2.2.2 z 2 = some (z + 2) ∧ h.2.2.2 z 3 = some (z + 4) ∧ h.2.2.2 z 4 = some (z + 6) ∧ h.2.2.2 z 6 = some (z + 8) ∧ (∀ f, h.2.2.2 (z + 1) f = none) ∧ h.2.2.2 (z + 2) 0 = some (z + 3) ∧ h.2.2.2 (z + 4) 0 = some (z + 5) ∧ h.2.2.2 (z + 6) 0 = some (z + 7)) ∧
  (h.2.2.1 z 7 = 0 ∧ h.2.2.1 z 8 = 0 ∧ h.2.2.1 z 9 = 0 ∧ h.2.2.1 z 10 = 0 ∧ h.2.2.1 z 11 = -1 ∧ h.2.2.1 z 12 = -1 ∧ h.2.2.1 z 13 = -1 ∧ h.2.2.1 z 14 = -1) ∧
  (h.2.2.1 (z + 2) 1 = 0 ∧ (∀ k, h.2.2.1 (z + 3) k = 0) ∧ h.2.2.1 (z + 4) 1 = 0 ∧ h.2.2.1 (z + 4) 2 = 9 ∧ h.2.2.1 (z + 4) 3 = 0 ∧ h.2.2.1 (z + 4) 4 = 0 ∧ h.2.2.1 (z + 8) 0 = 0 ∧ h.2.2.1 (z + 8) 1 = 0 ∧ h.2.2.1 (z + 8) 2 = 0 ∧ h.2.2.1 (z + 8) 3 = 0)
theorem mm_n (v : Int32) : ∃ n, 2 ≤ n ∧ n ≤ 11 ∧ mx 2 (mn 11 v) = nI n := by
  have e11 : (11 : Int32) = nI 11 := rfl
  have e2 : (2 : Int32) = nI 2 := rfl
  unfold mn
  by_cases h1 : v < 11
  · rw [if_pos h1]
    unfold mx
    by_cases h2 : 2 < v
    · rw [if_pos h2]
      have hv : ¬ v < 0 := fun q => by
        rw [Int32.lt_iff_toInt_lt] at q h2
        have z0 : (0 : Int32).toInt = 0 := by decide
        have z2 : (2 : Int32).toInt = 2 := by decide
        omega
      obtain ⟨k, hk, rfl⟩ := nI_of hv
      rw [e11, nI_lt_iff hk (by omega)] at h1
      rw [e2, nI_lt_iff (by omega) hk] at h2
      exact ⟨k, by omega, by omega, rfl⟩
    · rw [if_neg h2]
      exact ⟨2, by omega, by omega, rfl⟩
  · rw [if_neg h1]
    exact ⟨11, by omega, by omega, by decide⟩
/-- a new object at the heap's end is made and put into a field of z -/
theorem stg {t : Sh} {fld : Nat} {g X : AH} (G : Grow g.1 (newS g t) X) (hz : z < g.1) : Grow z g (setR X z fld (some g.1)) ∧ (setR X z fld (some g.1)).2.1 g.1 = some t ∧ (setR X z fld (some g.1)).2.2.2 z fld = some g.1 ∧ (∀ k, k ≠ fld → (setR X z fld (some g.1)).2.2.2 z k = g.2.2.2 z k) ∧ (setR X z fld (some g.1)).2.2.1 z = g.2.2.1 z ∧ ∀ a, g.1 ≤ a → (setR X z fld (some g.1)).2.2.1 a = X.2.2.1 a ∧ (setR X z fld (some g.1)).2.2.2 a = X.2.2.2 a ∧ (setR X z fld (some g.1)).2.1 a = X.2.1 a := by
  have n1 : (newS g t).1 = g.1 + 1 := rfl
  refine ⟨((Grow.new).lift G (Nat.le_refl _)).tr Grow.sR, ?_, u2s, fun k hk => ?_, ?_, fun a ha => ⟨rfl, ?_, rfl⟩⟩
  · rw [sR_s, G.2.1 _ (by omega)]
    exact nw_se
  · rw [sR_u, u2n (Or.inr hk), G.2.2.2 z (by omega) (by omega), nw_rn (by omega)]
  · rw [sR_i, G.2.2.1 z (by omega) (by omega), nw_in (by omega)]
  · rw [sR_u, u2_ne _ _ (by omega)]
theorem f_i6 {h : AH} {a : Nat} (ha : a < h.1) : (i6 h a).1 = h.1 + 1 ∧ (i6 h a).2.1 h.1 = some (.inr (.byte, 300)) ∧ (i6 h a).2.2.2 a 0 = some h.1 ∧ (i6 h a).2.2.1 a 1 = 0 ∧ ∀ k, (i6 h a).2.2.1 h.1 k = 0 := by
  refine ⟨rfl, nw_se, u2s, ?_, fun k => ?_⟩
  · unfold i6
    simp (disch := (refine Or.inr ?_; omega)) only [sI_u, u2n, u2s]
  · have ne : h.1 ≠ a := by omega
    unfold i6
    simp only [sI_u, u2_ne _ _ ne]
    have e : (nAp h .byte 300 a 0).2.2.1 h.1 = fun _ => 0 := nw_ie (t := .inr (.byte, 300))
    rw [e]
theorem f_i0 {h : AH} {a : Nat} : (i0 h a).1 = h.1 + 1 ∧ (i0 h a).2.1 h.1 = some (.inr (.int, 10)) ∧ (i0 h a).2.2.2 a 0 = some h.1 ∧ (i0 h a).2.2.1 a 1 = 0 ∧ (i0 h a).2.2.1 a 2 = 9 ∧ (i0 h a).2.2.1 a 3 = 0 ∧ (i0 h a).2.2.1 a 4 = 0 := by
  refine ⟨rfl, nw_se, u2s, ?_, ?_, ?_, ?_⟩ <;> (unfold i0; simp (disch := (refine Or.inr ?_; omega)) only [sI_u, u2n, u2s])
theorem f_i4 {h : AH} {a : Nat} : (i4 h a).1 = h.1 ∧ (i4 h a).2.2.1 a 0 = 0 ∧ (i4 h a).2.2.1 a 1 = 0 ∧ (i4 h a).2.2.1 a 2 = 0 ∧ (i4 h a).2.2.1 a 3 = 0 := by
  refine ⟨rfl, ?_, ?_, ?_, ?_⟩ <;> (unfold i4; simp (disch := (refine Or.inr ?_; omega)) only [sI_u, u2n, u2s])
theorem f_i3 {h : AH} {a : Nat} : (i3 h a).1 = h.1 ∧ (i3 h a).2.2.1 a 0 = 0 ∧ (i3 h a).2.2.1 a 1 = 0 ∧ (i3 h a).2.2.1 a 2 = 0 ∧ (i3 h a).2.2.1 a 3 = 0 ∧ (i3 h a).2.2.1 a 4 = 0 := by
  refine ⟨rfl, ?_, ?_, ?_, ?_, ?_⟩ <;> (unfold i3; simp (disch := (refine Or.inr ?_; omega)) only [sI_u, u2n, u2s])
theorem v_base7 (h2 : 2 ≤ n) (h11 : n ≤ 11) {v : Int32} (hv : mx 2 (mn 11 v) = nI n) : ∃ g, f_X7_init (newS (z, fun _ => none, fun _ _ => 0, fun _ _ => none) (.inl 7)) z v = f_X7_init_123 12 g z none (nI n - 1) ∧ B7 z n g := by
  unfold f_X7_init
  have s0 : (newS (z, fun _ => none, fun _ _ => 0, fun _ _ => none) (.inl 7)).2.1 z = some (.inl 7) := if_pos rfl
  have q0 : (newS (z, fun _ => none, fun _ _ => 0, fun _ _ => none) (.inl 7)).1 = z + 1 := rfl
  generalize newS (z, fun _ => none, fun _ _ => 0, fun _ _ => none) (.inl 7) = g0 at s0 q0
  -- the fields' row
  rw [ev_nAl (M := 40) (by decide) (by decide), ev_pR (by rw [nw_sn (by omega)]; exact s0)]
  have G1 : Grow z g0 (nAp g0 (.object RX1) 40 z 1) := Grow.new.tr Grow.sR
  have q1 : (nAp g0 (.object RX1) 40 z 1).1 = z + 2 := by show g0.1 + 1 = _; rw [q0]
  have a1 : (nAp g0 (.object RX1) 40 z 1).2.1 (z + 1) = some (.inr (.object RX1, 40)) := by rw [← q0]; exact nw_se
  have b1 : (nAp g0 (.object RX1) 40 z 1).2.2.2 z 1 = some (z + 1) := by rw [← q0]; exact u2s
  have c1 : ∀ f, (nAp g0 (.object RX1) 40 z 1).2.2.2 (z + 1) f = none := fun f => by
    rw [← q0]
    show u2 _ _ _ _ _ _ = _
    rw [u2n (Or.inl (by omega)), nw_re]
  have s1 : (nAp g0 (.object RX1) 40 z 1).2.1 z = some (.inl 7) := (G1.2.1 z (by omega)).trans s0
  rw [show setR (newS g0 (.inr (.object RX1, 40))) z 1 (some g0.1) = nAp g0 (.object RX1) 40 z 1 from rfl]
  generalize nAp g0 (.object RX1) 40 z 1 = g1 at G1 q1 a1 b1 c1 s1
  -- the tape
  have sN : ∀ {g : AH} {t : Sh}, z < g.1 → g.2.1 z = some (.inl 7) → (newS g t).2.1 z = some (.inl 7) := fun q1 q2 => (nw_sn (by omega)).trans q2
  have n2 : (newS g1 (.inl 6)).1 = z + 3 := by show g1.1 + 1 = _; rw [q1]
  obtain ⟨G2, a2, b2, r2, i2, k2⟩ := stg (z := z) (fld := 2) (t := .inl 6) (g := g1) (g_i6 (h := newS g1 (.inl 6)) (a := g1.1)) (by omega)
  obtain ⟨u1, u2', u3, u4, u5⟩ := f_i6 (h := newS g1 (.inl 6)) (a := g1.1) (by omega)
  rw [ev_nO, ev_rcv nw_se, cal_eq (v_i6 nw_se (by omega)), ev_pR (by rw [g_i6.2.1 z (by omega)]; exact sN (by omega) s1)]
  have e2 := (setR (i6 (newS g1 (.inl 6)) g1.1) z 2 (some g1.1)).1
  have q2 : (setR (i6 (newS g1 (.inl 6)) g1.1) z 2 (some g1.1)).1 = z + 4 := by
    rw [sR_1, u1, n2]
  have s2 := (G2.2.1 z (by omega)).trans s1
  have v2 : (setR (i6 (newS g1 (.inl 6)) g1.1) z 2 (some g1.1)).2.1 (z + 3) = some (.inr (.byte, 300)) := by
    rw [(k2 (z + 3) (by omega)).2.2, ← n2]; exact u2'
  have w2 : (setR (i6 (newS g1 (.inl 6)) g1.1) z 2 (some g1.1)).2.2.2 (z + 2) 0 = some (z + 3) := by
    rw [(k2 (z + 2) (by omega)).2.1, ← q1, u3, n2]
  have x2 : (setR (i6 (newS g1 (.inl 6)) g1.1) z 2 (some g1.1)).2.2.1 (z + 2) 1 = 0 := by
    rw [(k2 (z + 2) (by omega)).1, ← q1]; exact u4
  have y2 : ∀ k, (setR (i6 (newS g1 (.inl 6)) g1.1) z 2 (some g1.1)).2.2.1 (z + 3) k = 0 := fun k => by
    rw [(k2 (z + 3) (by omega)).1, ← n2]; exact u5 k
  have b21 := (r2 1 (by omega)).trans b1
  clear k2 u1 u2' u3 u4 u5
  generalize setR (i6 (newS g1 (.inl 6)) g1.1) z 2 (some g1.1) = g2 at G2 a2 b2 r2 i2 q2 s2 v2 w2 x2 y2 b21
  rw [q1] at a2 b2
  -- the custom in force
  have n3 : (newS g2 (.inl 0)).1 = z + 5 := by show g2.1 + 1 = _; rw [q2]
  obtain ⟨G3, a3, b3, r3, i3', k3⟩ := stg (z := z) (fld := 3) (t := .inl 0) (g := g2) (g_i0 (h := newS g2 (.inl 0)) (a := g2.1)) (by omega)
  obtain ⟨u1, u2', u3, u4, u5, u6, u7⟩ := f_i0 (h := newS g2 (.inl 0)) (a := g2.1)
  rw [ev_nO, ev_rcv nw_se, cal_eq (v_i0 nw_se (by omega)), ev_pR (by rw [g_i0.2.1 z (by omega)]; exact sN (by omega) s2)]
  have q3 : (setR (i0 (newS g2 (.inl 0)) g2.1) z 3 (some g2.1)).1 = z + 6 := by
    rw [sR_1, u1, n3]
  have s3 := (G3.2.1 z (by omega)).trans s2
  have v3 : (setR (i0 (newS g2 (.inl 0)) g2.1) z 3 (some g2.1)).2.1 (z + 5) = some (.inr (.int, 10)) := by
    rw [(k3 (z + 5) (by omega)).2.2, ← n3]; exact u2'
  have w3 : (setR (i0 (newS g2 (.inl 0)) g2.1) z 3 (some g2.1)).2.2.2 (z + 4) 0 = some (z + 5) := by
    rw [(k3 (z + 4) (by omega)).2.1, ← q2, u3, n3]
  have x3 : (setR (i0 (newS g2 (.inl 0)) g2.1) z 3 (some g2.1)).2.2.1 (z + 4) 1 = 0 ∧ (setR (i0 (newS g2 (.inl 0)) g2.1) z 3 (some g2.1)).2.2.1 (z + 4) 2 = 9 ∧ (setR (i0 (newS g2 (.inl 0)) g2.1) z 3 (some g2.1)).2.2.1 (z + 4) 3 = 0 ∧ (setR (i0 (newS g2 (.inl 0)) g2.1) z 3 (some g2.1)).2.2.1 (z + 4) 4 = 0 := by
    rw [(k3 (z + 4) (by omega)).1, ← q2]; exact ⟨u4, u5, u6, u7⟩
  have b31 := (r3 1 (by omega)).trans b21
  have b32 := (r3 2 (by omega)).trans b2
  clear k3 u1 u2' u3 u4 u5 u6 u7
  generalize setR (i0 (newS g2 (.inl 0)) g2.1) z 3 (some g2.1) = g3 at G3 a3 b3 r3 i3' q3 s3 v3 w3 x3 b31 b32
  rw [q2] at a3 b3
  -- the draft
  have n4 : (newS g3 (.inl 0)).1 = z + 7 := by show g3.1 + 1 = _; rw [q3]
  obtain ⟨G4, a4, b4, r4, i4', k4⟩ := stg (z := z) (fld := 4) (t := .inl 0) (g := g3) (g_i0 (h := newS g3 (.inl 0)) (a := g3.1)) (by omega)
  obtain ⟨u1, u2', u3, -⟩ := f_i0 (h := newS g3 (.inl 0)) (a := g3.1)
  rw [ev_nO, ev_rcv nw_se, cal_eq (v_i0 nw_se (by omega)), ev_pR (by rw [g_i0.2.1 z (by omega)]; exact sN (by omega) s3)]
  have q4 : (setR (i0 (newS g3 (.inl 0)) g3.1) z 4 (some g3.1)).1 = z + 8 := by
    rw [sR_1, u1, n4]
  have s4 := (G4.2.1 z (by omega)).trans s3
  have v4 : (setR (i0 (newS g3 (.inl 0)) g3.1) z 4 (some g3.1)).2.1 (z + 7) = some (.inr (.int, 10)) := by
    rw [(k4 (z + 7) (by omega)).2.2, ← n4]; exact u2'
  have w4 : (setR (i0 (newS g3 (.inl 0)) g3.1) z 4 (some g3.1)).2.2.2 (z + 6) 0 = some (z + 7) := by
    rw [(k4 (z + 6) (by omega)).2.1, ← q3, u3, n4]
  have b41 := (r4 1 (by omega)).trans b31
  have b42 := (r4 2 (by omega)).trans b32
  have b43 := (r4 3 (by omega)).trans b3
  clear k4 u1 u2' u3
  generalize setR (i0 (newS g3 (.inl 0)) g3.1) z 4 (some g3.1) = g4 at G4 a4 b4 r4 i4' q4 s4 v4 w4 b41 b42 b43
  rw [q3] at a4 b4
  -- the sums
  have n5 : (newS g4 (.inl 4)).1 = z + 9 := by show g4.1 + 1 = _; rw [q4]
  obtain ⟨G5, a5, b5, r5, i5', k5⟩ := stg (z := z) (fld := 6) (t := .inl 4) (g := g4) (g_i4 (h := newS g4 (.inl 4)) (a := g4.1)) (by omega)
  obtain ⟨u1, u2', u3, u4, u5⟩ := f_i4 (h := newS g4 (.inl 4)) (a := g4.1)
  rw [ev_nO, ev_rcv nw_se, cal_eq (v_i4 nw_se), ev_pR (by rw [g_i4.2.1 z (by omega)]; exact sN (by omega) s4)]
  have q5 : (setR (i4 (newS g4 (.inl 4)) g4.1) z 6 (some g4.1)).1 = z + 9 := by
    rw [sR_1, u1, n5]
  have s5 := (G5.2.1 z (by omega)).trans s4
  have x5 : (setR (i4 (newS g4 (.inl 4)) g4.1) z 6 (some g4.1)).2.2.1 (z + 8) 0 = 0 ∧ (setR (i4 (newS g4 (.inl 4)) g4.1) z 6 (some g4.1)).2.2.1 (z + 8) 1 = 0 ∧ (setR (i4 (newS g4 (.inl 4)) g4.1) z 6 (some g4.1)).2.2.1 (z + 8) 2 = 0 ∧ (setR (i4 (newS g4 (.inl 4)) g4.1) z 6 (some g4.1)).2.2.1 (z + 8) 3 = 0 := by
    rw [(k5 (z + 8) (by omega)).1, ← q4]; exact ⟨u2', u3, u4, u5⟩
  have b51 := (r5 1 (by omega)).trans b41
  have b52 := (r5 2 (by omega)).trans b42
  have b53 := (r5 3 (by omega)).trans b43
  have b54 := (r5 4 (by omega)).trans b4
  clear k5 u1 u2' u3 u4 u5
  generalize setR (i4 (newS g4 (.inl 4)) g4.1) z 6 (some g4.1) = g5 at G5 a5 b5 r5 i5' q5 s5 x5 b51 b52 b53 b54
  rw [q4] at a5 b5
  -- the numbers
  rw [ev_pI s5, ev_pI (by simp only [sI_s]; exact s5), ev_pI (by simp only [sI_s]; exact s5), ev_pI (by simp only [sI_s]; exact s5), ev_pI (by simp only [sI_s]; exact s5), ev_pI (by simp only [sI_s]; exact s5), ev_pI (by simp only [sI_s]; exact s5), ev_pI (by simp only [sI_s]; exact s5), ev_bd, ev_bd, hv]
  have G6 : Grow z g5 (setI (setI (setI (setI (setI (setI (setI (setI g5 z 7 0) z 8 0) z 9 0) z 10 0) z 11 (-1)) z 12 (-1)) z 13 (-1)) z 14 (-1)) := (((((((Grow.sI.tr Grow.sI).tr Grow.sI).tr Grow.sI).tr Grow.sI).tr Grow.sI).tr Grow.sI).tr Grow.sI)
  have x6 : (setI (setI (setI (setI (setI (setI (setI (setI g5 z 7 0) z 8 0) z 9 0) z 10 0) z 11 (-1)) z 12 (-1)) z 13 (-1)) z 14 (-1)).2.2.1 z 7 = 0 ∧ (setI (setI (setI (setI (setI (setI (setI (setI g5 z 7 0) z 8 0) z 9 0) z 10 0) z 11 (-1)) z 12 (-1)) z 13 (-1)) z 14 (-1)).2.2.1 z 8 = 0 ∧ (setI (setI (setI (setI (setI (setI (setI (setI g5 z 7 0) z 8 0) z 9 0) z 10 0) z 11 (-1)) z 12 (-1)) z 13 (-1)) z 14 (-1)).2.2.1 z 9 = 0 ∧ (setI (setI (setI (setI (setI (setI (setI (setI g5 z 7 0) z 8 0) z 9 0) z 10 0) z 11 (-1)) z 12 (-1)) z 13 (-1)) z 14 (-1)).2.2.1 z 10 = 0 ∧ (setI (setI (setI (setI (setI (setI (setI (setI g5 z 7 0) z 8 0) z 9 0) z 10 0) z 11 (-1)) z 12 (-1)) z 13 (-1)) z 14 (-1)).2.2.1 z 11 = -1 ∧ (setI (setI (setI (setI (setI (setI (setI (setI g5 z 7 0) z 8 0) z 9 0) z 10 0) z 11 (-1)) z 12 (-1)) z 13 (-1)) z 14 (-1)).2.2.1 z 12 = -1 ∧ (setI (setI (setI (setI (setI (setI (setI (setI g5 z 7 0) z 8 0) z 9 0) z 10 0) z 11 (-1)) z 12 (-1)) z 13 (-1)) z 14 (-1)).2.2.1 z 13 = -1 ∧ (setI (setI (setI (setI (setI (setI (setI (setI g5 z 7 0) z 8 0) z 9 0) z 10 0) z 11 (-1)) z 12 (-1)) z 13 (-1)) z 14 (-1)).2.2.1 z 14 = -1 := by
    refine ⟨?_, ?_, ?_, ?_, ?_, ?_, ?_, ?_⟩ <;> simp (disch := (refine Or.inr ?_; omega)) only [sI_u, u2n, u2s]
  have r6 : ∀ k, (setI (setI (setI (setI (setI (setI (setI (setI g5 z 7 0) z 8 0) z 9 0) z 10 0) z 11 (-1)) z 12 (-1)) z 13 (-1)) z 14 (-1)).2.2.2 z k = g5.2.2.2 z k := fun k => rfl
  have q6 : (setI (setI (setI (setI (setI (setI (setI (setI g5 z 7 0) z 8 0) z 9 0) z 10 0) z 11 (-1)) z 12 (-1)) z 13 (-1)) z 14 (-1)).1 = z + 9 := q5
  have s6 : (setI (setI (setI (setI (setI (setI (setI (setI g5 z 7 0) z 8 0) z 9 0) z 10 0) z 11 (-1)) z 12 (-1)) z 13 (-1)) z 14 (-1)).2.1 z = some (.inl 7) := s5
  generalize setI (setI (setI (setI (setI (setI (setI (setI g5 z 7 0) z 8 0) z 9 0) z 10 0) z 11 (-1)) z 12 (-1)) z 13 (-1)) z 14 (-1) = g6 at G6 x6 r6 q6 s6
  -- the tanks' row
  have hn : ¬ (nI n < 0 ∨ 11 < (nI n).toNatClampNeg) := fun q => by
    rcases q with q | q
    · exact nI_pos (by omega) q
    · rw [nI_clamp (by omega)] at q; omega
  rw [ev_nAl (M := n) hn (nI_clamp (by omega)), ev_pR (by rw [nw_sn (by omega)]; exact s6), ev_bd]
  have G7 : Grow z g6 (nAp g6 (.object RX5) n z 0) := Grow.new.tr Grow.sR
  have rz : ∀ k, k ≠ 0 → (nAp g6 (.object RX5) n z 0).2.2.2 z k = g5.2.2.2 z k := fun k hk => by
    show u2 _ _ _ _ _ _ = _
    rw [u2n (Or.inr hk), nw_rn (by omega)]
    exact r6 k
  have iz : (nAp g6 (.object RX5) n z 0).2.2.1 z = g6.2.2.1 z := nw_in (t := .inr (.object RX5, n)) (by omega)
  refine ⟨nAp g6 (.object RX5) n z 0, rfl, ?_, ⟨?_, ?_, ?_, ?_, ?_, ?_, ?_, ?_, ?_, ?_⟩, ⟨?_, ?_, ?_, ?_, ?_, ?_, fun f => ?_, ?_, ?_, ?_⟩, ?_, ?_⟩
  · show g6.1 + 1 = _; rw [q6]
  · exact (G7.2.1 z (by omega)).trans s6
  · rw [G7.2.1 _ (by omega), G6.2.1 _ (by omega), G5.2.1 _ (by omega), G4.2.1 _ (by omega), G3.2.1 _ (by omega), G2.2.1 _ (by omega)]; exact a1
  · rw [G7.2.1 _ (by omega), G6.2.1 _ (by omega), G5.2.1 _ (by omega), G4.2.1 _ (by omega), G3.2.1 _ (by omega)]; exact a2
  · rw [G7.2.1 _ (by omega), G6.2.1 _ (by omega), G5.2.1 _ (by omega), G4.2.1 _ (by omega), G3.2.1 _ (by omega)]; exact v2
  · rw [G7.2.1 _ (by omega), G6.2.1 _ (by omega), G5.2.1 _ (by omega), G4.2.1 _ (by omega)]; exact a3
  · rw [G7.2.1 _ (by omega), G6.2.1 _ (by omega), G5.2.1 _ (by omega), G4.2.1 _ (by omega)]; exact v3
  · rw [G7.2.1 _ (by omega), G6.2.1 _ (by omega), G5.2.1 _ (by omega)]; exact a4
  · rw [G7.2.1 _ (by omega), G6.2.1 _ (by omega), G5.2.1 _ (by omega)]; exact v4
  · rw [G7.2.1 _ (by omega), G6.2.1 _ (by omega)]; exact a5
  · rw [← q6]; exact nw_se
  · rw [← q6]; exact u2s
  · exact (rz 1 (by omega)).trans b51
  · exact (rz 2 (by omega)).trans b52
  · exact (rz 3 (by omega)).trans b53
  · exact (rz 4 (by omega)).trans b54
  · exact (rz 6 (by omega)).trans b5
  · rw [G7.2.2.2 _ (by omega) (by omega), G6.2.2.2 _ (by omega) (by omega), G5.2.2.2 _ (by omega) (by omega), G4.2.2.2 _ (by omega) (by omega), G3.2.2.2 _ (by omega) (by omega), G2.2.2.2 _ (by omega) (by omega)]; exact c1 f
  · rw [G7.2.2.2 _ (by omega) (by omega), G6.2.2.2 _ (by omega) (by omega), G5.2.2.2 _ (by omega) (by omega), G4.2.2.2 _ (by omega) (by omega), G3.2.2.2 _ (by omega) (by omega)]; exact w2
  · rw [G7.2.2.2 _ (by omega) (by omega), G6.2.2.2 _ (by omega) (by omega), G5.2.2.2 _ (by omega) (by omega), G4.2.2.2 _ (by omega) (by omega)]; exact w3
  · rw [G7.2.2.2 _ (by omega) (by omega), G6.2.2.2 _ (by omega) (by omega), G5.2.2.2 _ (by omega) (by omega)]; exact w4
  · rw [iz]; exact x6
  · refine ⟨?_, fun k => ?_, ?_⟩
    · rw [G7.2.2.1 _ (by omega) (by omega), G6.2.2.1 _ (by omega) (by omega), G5.2.2.1 _ (by omega) (by omega), G4.2.2.1 _ (by omega) (by omega), G3.2.2.1 _ (by omega) (by omega)]; exact x2
    · rw [G7.2.2.1 _ (by omega) (by omega), G6.2.2.1 _ (by omega) (by omega), G5.2.2.1 _ (by omega) (by omega), G4.2.2.1 _ (by omega) (by omega), G3.2.2.1 _ (by omega) (by omega)]; exact y2 k
    · rw [G7.2.2.1 (z + 4) (by omega) (by omega), G6.2.2.1 (z + 4) (by omega) (by omega), G5.2.2.1 (z + 4) (by omega) (by omega), G4.2.2.1 (z + 4) (by omega) (by omega), G7.2.2.1 (z + 8) (by omega) (by omega), G6.2.2.1 (z + 8) (by omega) (by omega)]
      obtain ⟨k1, k2, k3, k4⟩ := x3
      exact ⟨k1, k2, k3, k4, x5⟩
end I7
