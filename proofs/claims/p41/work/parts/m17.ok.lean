/-! ===== every method passes the check ===== -/
def hMt (m : Nat) : Bool :=
  true && qLwB (qMq m).2.2.1 (.initialized (qMe m).1.cls) &&
  (match (qMq m).1 with
    | 0 => qLwB (qMq m).2.2.2.1 (.instanceMethod (qMe m).1) && qLwB (qMq m).2.2.2.2.1 (.selects (qMe m).1.cls (qMe m).1 (qMe m).1) && !decide ((qMe m).1.name = "<init>")
    | 1 => qLwB (qMq m).2.2.2.1 (.static (qMe m).1)
    | 2 => qLwB (qMq m).2.2.2.1 (.instanceMethod (qMe m).1) && decide ((qMe m).1.name = "<init>") && Nat.beq (qP m).2.2.1 0
    | _ => false) &&
  plainFor (qMe m).1 && !decide ((qMe m).1.cls = "java/lang/invoke/MethodHandle") && !decide ((qMe m).1.cls = "java/lang/invoke/VarHandle") &&
  decide ((parseMethodDescriptor (qMe m).1.desc).map (fun q => q.parameters.length) = some (qMq m).2.2.2.2.2) && Nat.beq (qP m).2.2.2 (qMe m).2.2.1 && Nat.ble (qMe m).2.2.1 40 && Nat.ble (qMq m).2.2.2.2.2 (qMe m).2.2.1 && qRtB (qP m).2.2.1 (qMe m).2.2.2.1 &&
  qHdB (qMe m).1.cls (qMe m).2.1 (qP m).2.1 (qMe m).2.2.2.2 && (qP m).2.1.all (fun h => Nat.blt h.2.2.2.2 (qMe m).2.2.1) && (Nat.beq (qMq m).1 1 || (qMe m).2.2.2.2.isEmpty)
theorem hMt_ok {m : Nat} (h1 : qLb (qMq m).2.1 = some (qCw (qMe m))) (h : hMt m = true) : qOkMt m = true := by
  have e : qLwB (qMq m).2.1 (qCw (qMe m)) = true := decide_eq_true h1
  unfold qOkMt
  rw [e]
  exact h
def hEqs : List Nat → Prop
  | [] => True
  | m :: l => qLb (qMq m).2.1 = some (qCw (qMe m)) ∧ hEqs l
theorem hEqs_in : ∀ {l : List Nat}, hEqs l → ∀ m ∈ l, qLb (qMq m).2.1 = some (qCw (qMe m))
  | [], _, m, hm => absurd hm List.not_mem_nil
  | a :: l, h, m, hm => by
    rcases List.mem_cons.mp hm with rfl | hm
    · exact h.1
    · exact hEqs_in h.2 m hm
def hB (m : Nat) : Bool := hMt m && hC (qMe m).1.cls (qMe m).2.1 (decide ((qMe m).1.name = "<init>")) (qP m)
theorem h_law : hC "FacingleafLaw" code false qc_L_law = true := by decide +kernel
theorem h_no : (List.range' 0 269).all (fun m => !decide ((qMe m).1.cls = "Facingleaf") || (qMe m).2.2.2.2.isEmpty) = true := by decide +kernel
set_option maxRecDepth 100000 in
theorem h_c0 : hEqs (List.range' 0 16) := ⟨rfl, rfl, rfl, rfl, rfl, rfl, rfl, rfl, rfl, rfl, rfl, rfl, rfl, rfl, rfl, rfl, trivial⟩
set_option maxRecDepth 100000 in
theorem h_c1 : hEqs (List.range' 16 16) := ⟨rfl, rfl, rfl, rfl, rfl, rfl, rfl, rfl, rfl, rfl, rfl, rfl, rfl, rfl, rfl, rfl, trivial⟩
set_option maxRecDepth 100000 in
theorem h_c2 : hEqs (List.range' 32 16) := ⟨rfl, rfl, rfl, rfl, rfl, rfl, rfl, rfl, rfl, rfl, rfl, rfl, rfl, rfl, rfl, rfl, trivial⟩
set_option maxRecDepth 100000 in
theorem h_c3 : hEqs (List.range' 48 16) := ⟨rfl, rfl, rfl, rfl, rfl, rfl, rfl, rfl, rfl, rfl, rfl, rfl, rfl, rfl, rfl, rfl, trivial⟩
set_option maxRecDepth 100000 in
theorem h_c4 : hEqs (List.range' 64 16) := ⟨rfl, rfl, rfl, rfl, rfl, rfl, rfl, rfl, rfl, rfl, rfl, rfl, rfl, rfl, rfl, rfl, trivial⟩
set_option maxRecDepth 100000 in
theorem h_c5 : hEqs (List.range' 80 16) := ⟨rfl, rfl, rfl, rfl, rfl, rfl, rfl, rfl, rfl, rfl, rfl, rfl, rfl, rfl, rfl, rfl, trivial⟩
set_option maxRecDepth 100000 in
theorem h_c6 : hEqs (List.range' 96 16) := ⟨rfl, rfl, rfl, rfl, rfl, rfl, rfl, rfl, rfl, rfl, rfl, rfl, rfl, rfl, rfl, rfl, trivial⟩
set_option maxRecDepth 100000 in
theorem h_c7 : hEqs (List.range' 112 16) := ⟨rfl, rfl, rfl, rfl, rfl, rfl, rfl, rfl, rfl, rfl, rfl, rfl, rfl, rfl, rfl, rfl, trivial⟩
set_option maxRecDepth 100000 in
theorem h_c8 : hEqs (List.range' 128 16) := ⟨rfl, rfl, rfl, rfl, rfl, rfl, rfl, rfl, rfl, rfl, rfl, rfl, rfl, rfl, rfl, rfl, trivial⟩
set_option maxRecDepth 100000 in
theorem h_c9 : hEqs (List.range' 144 16) := ⟨rfl, rfl, rfl, rfl, rfl, rfl, rfl, rfl, rfl, rfl, rfl, rfl, rfl, rfl, rfl, rfl, trivial⟩
set_option maxRecDepth 100000 in
theorem h_c10 : hEqs (List.range' 160 16) := ⟨rfl, rfl, rfl, rfl, rfl, rfl, rfl, rfl, rfl, rfl, rfl, rfl, rfl, rfl, rfl, rfl, trivial⟩
set_option maxRecDepth 100000 in
theorem h_c11 : hEqs (List.range' 176 16) := ⟨rfl, rfl, rfl, rfl, rfl, rfl, rfl, rfl, rfl, rfl, rfl, rfl, rfl, rfl, rfl, rfl, trivial⟩
set_option maxRecDepth 100000 in
theorem h_c12 : hEqs (List.range' 192 16) := ⟨rfl, rfl, rfl, rfl, rfl, rfl, rfl, rfl, rfl, rfl, rfl, rfl, rfl, rfl, rfl, rfl, trivial⟩
set_option maxRecDepth 100000 in
theorem h_c13 : hEqs (List.range' 208 16) := ⟨rfl, rfl, rfl, rfl, rfl, rfl, rfl, rfl, rfl, rfl, rfl, rfl, rfl, rfl, rfl, rfl, trivial⟩
set_option maxRecDepth 100000 in
theorem h_c14 : hEqs (List.range' 224 16) := ⟨rfl, rfl, rfl, rfl, rfl, rfl, rfl, rfl, rfl, rfl, rfl, rfl, rfl, rfl, rfl, rfl, trivial⟩
set_option maxRecDepth 100000 in
theorem h_c15 : hEqs (List.range' 240 16) := ⟨rfl, rfl, rfl, rfl, rfl, rfl, rfl, rfl, rfl, rfl, rfl, rfl, rfl, rfl, rfl, rfl, trivial⟩
set_option maxRecDepth 100000 in
theorem h_c16 : hEqs (List.range' 256 13) := ⟨rfl, rfl, rfl, rfl, rfl, rfl, rfl, rfl, rfl, rfl, rfl, rfl, rfl, trivial⟩
theorem h_b0 : (List.range' 0 16).all hB = true := by decide +kernel
theorem h_b1 : (List.range' 16 16).all hB = true := by decide +kernel
theorem h_b2 : (List.range' 32 16).all hB = true := by decide +kernel
theorem h_b3 : (List.range' 48 16).all hB = true := by decide +kernel
theorem h_b4 : (List.range' 64 16).all hB = true := by decide +kernel
theorem h_b5 : (List.range' 80 16).all hB = true := by decide +kernel
theorem h_b6 : (List.range' 96 16).all hB = true := by decide +kernel
theorem h_b7 : (List.range' 112 16).all hB = true := by decide +kernel
theorem h_b8 : (List.range' 128 16).all hB = true := by decide +kernel
theorem h_b9 : (List.range' 144 16).all hB = true := by decide +kernel
theorem h_b10 : (List.range' 160 16).all hB = true := by decide +kernel
theorem h_b11 : (List.range' 176 16).all hB = true := by decide +kernel
theorem h_b12 : (List.range' 192 16).all hB = true := by decide +kernel
theorem h_b13 : (List.range' 208 16).all hB = true := by decide +kernel
theorem h_b14 : (List.range' 224 16).all hB = true := by decide +kernel
theorem h_b15 : (List.range' 240 16).all hB = true := by decide +kernel
theorem h_b16 : (List.range' 256 13).all hB = true := by decide +kernel
theorem h_in {p : Nat → Bool} {a n m : Nat} (h : (List.range' a n).all p = true) (h1 : a ≤ m) (h2 : m < a + n) : p m = true := List.all_eq_true.mp h m (List.mem_range'_1.mpr ⟨h1, h2⟩)
theorem h_ie {a n m : Nat} (h : hEqs (List.range' a n)) (h1 : a ≤ m) (h2 : m < a + n) : qLb (qMq m).2.1 = some (qCw (qMe m)) := hEqs_in h m (List.mem_range'_1.mpr ⟨h1, h2⟩)
theorem h_two {m : Nat} (h1 : qLb (qMq m).2.1 = some (qCw (qMe m))) (h : hB m = true) : qOkAll m = true := by
  unfold hB at h
  rw [Bool.and_eq_true] at h
  unfold qOkAll
  rw [hMt_ok h1 h.1, hC_ok h.2]
  rfl
theorem h_all (m : Nat) (hm : m < qNm) : qOkAll m = true := by
  have hm : m < 269 := hm
  by_cases q0 : m < 16
  · exact h_two (h_ie h_c0 (by omega) (by omega)) (h_in h_b0 (by omega) (by omega))
  by_cases q1 : m < 32
  · exact h_two (h_ie h_c1 (by omega) (by omega)) (h_in h_b1 (by omega) (by omega))
  by_cases q2 : m < 48
  · exact h_two (h_ie h_c2 (by omega) (by omega)) (h_in h_b2 (by omega) (by omega))
  by_cases q3 : m < 64
  · exact h_two (h_ie h_c3 (by omega) (by omega)) (h_in h_b3 (by omega) (by omega))
  by_cases q4 : m < 80
  · exact h_two (h_ie h_c4 (by omega) (by omega)) (h_in h_b4 (by omega) (by omega))
  by_cases q5 : m < 96
  · exact h_two (h_ie h_c5 (by omega) (by omega)) (h_in h_b5 (by omega) (by omega))
  by_cases q6 : m < 112
  · exact h_two (h_ie h_c6 (by omega) (by omega)) (h_in h_b6 (by omega) (by omega))
  by_cases q7 : m < 128
  · exact h_two (h_ie h_c7 (by omega) (by omega)) (h_in h_b7 (by omega) (by omega))
  by_cases q8 : m < 144
  · exact h_two (h_ie h_c8 (by omega) (by omega)) (h_in h_b8 (by omega) (by omega))
  by_cases q9 : m < 160
  · exact h_two (h_ie h_c9 (by omega) (by omega)) (h_in h_b9 (by omega) (by omega))
  by_cases q10 : m < 176
  · exact h_two (h_ie h_c10 (by omega) (by omega)) (h_in h_b10 (by omega) (by omega))
  by_cases q11 : m < 192
  · exact h_two (h_ie h_c11 (by omega) (by omega)) (h_in h_b11 (by omega) (by omega))
  by_cases q12 : m < 208
  · exact h_two (h_ie h_c12 (by omega) (by omega)) (h_in h_b12 (by omega) (by omega))
  by_cases q13 : m < 224
  · exact h_two (h_ie h_c13 (by omega) (by omega)) (h_in h_b13 (by omega) (by omega))
  by_cases q14 : m < 240
  · exact h_two (h_ie h_c14 (by omega) (by omega)) (h_in h_b14 (by omega) (by omega))
  by_cases q15 : m < 256
  · exact h_two (h_ie h_c15 (by omega) (by omega)) (h_in h_b15 (by omega) (by omega))
  by_cases q16 : m < 269
  · exact h_two (h_ie h_c16 (by omega) (by omega)) (h_in h_b16 (by omega) (by omega))
  omega
theorem h_nos (m : Nat) (hm : m < qNm) (hc : (qMe m).1.cls = "Facingleaf") : (qMe m).2.2.2.2 = [] := by
  have hm : m < 269 := hm
  have h := h_in h_no (Nat.zero_le m) (by omega)
  rw [decide_eq_true hc] at h
  exact List.isEmpty_iff.mp h
theorem h_laws : qOkC "FacingleafLaw" code false qc_L_law = true := hC_ok h_law
