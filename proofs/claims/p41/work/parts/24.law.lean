/-! ===== the start: what the tables say of it ===== -/
def qTyL : List FieldType := [.int, .boolean, .long, .object RX1, .object RX5, .object RX8, .object RX9, .array .int]
def qSp : List Nat := [728, 1585, 1781, 1837, 1869, 1870, 1882, 786, 804, 1600, 1608, 1700, 1394, 1737, 1379, 1584, 779, 1691, 1367, 1786]
theorem qSp_ok : ∀ j, j < 20 → (qLwB (qSp.getD j 0) (.stringRef (qSt.getD j ("", 0, "")).1 (qSt.getD j ("", 0, "")).2.1 (qSt.getD j ("", 0, "")).2.2) && decide ((qSt.getD j ("", 0, "")).1 = RX10)) = true := by decide +kernel
theorem qSt_len : qSt.length = 20 := by decide +kernel
def q_tw (k : Nat) (w : Cond) : Prop := lw_tbl[k]? = some w
theorem q_tw_in {k : Nat} {w : Cond} (h : q_tw k w) : w ∈ lw_tbl := List.mem_of_getElem? h
theorem q_tw0 : q_tw 212 (.arrayClass .int) := by unfold q_tw; decide +kernel
theorem q_tw1 : q_tw 327 (.arrayClass .boolean) := by unfold q_tw; decide +kernel
theorem q_tw2 : q_tw 1886 (.arrayClass .long) := by unfold q_tw; decide +kernel
theorem q_tw3 : q_tw 132 (.arrayOver (.object RX1)) := by unfold q_tw; decide +kernel
theorem q_tw4 : q_tw 594 (.arrayOver (.object RX5)) := by unfold q_tw; decide +kernel
theorem q_tw5 : q_tw 474 (.arrayOver (.object RX8)) := by unfold q_tw; decide +kernel
theorem q_tw6 : q_tw 472 (.arrayOver (.object RX9)) := by unfold q_tw; decide +kernel
theorem q_tw7 : q_tw 369 (.arrayOver (.array .int)) := by unfold q_tw; decide +kernel
theorem q_tw8 : q_tw 105 (.initialized Bundle.tN) := by unfold q_tw; decide +kernel
theorem q_tw9 : q_tw 713 (.laysStatic Bundle.tN "UNASSIGNED_STACK" Bundle.steD) := by unfold q_tw; decide +kernel
theorem q_twA : q_tw 715 (.laysStatic Bundle.tN "SUPPRESSED_SENTINEL" Bundle.listD) := by unfold q_tw; decide +kernel
def q_fw (k : Nat) (w : Cond) : Prop := (flatC (Jvm.Cond.and given_1 narrow_1))[k]? = some w
theorem q_fw_in {k : Nat} {w : Cond} (h : q_fw k w) : w ∈ flatC (Jvm.Cond.and given_1 narrow_1) := List.mem_of_getElem? h
theorem q_fw0 : q_fw 228 (.not (.castable (qX 1) (qX 0))) := by unfold q_fw; decide +kernel
theorem q_fw1 : q_fw 229 (.not (.castable (qX 2) (qX 0))) := by unfold q_fw; decide +kernel
theorem q_fw2 : q_fw 260 (.not (.castable (qX 0) (qX 1))) := by unfold q_fw; decide +kernel
theorem q_fw3 : q_fw 259 (.not (.castable (qX 2) (qX 1))) := by unfold q_fw; decide +kernel
theorem q_fw4 : q_fw 245 (.not (.castable (qX 0) (qX 2))) := by unfold q_fw; decide +kernel
theorem q_fw5 : q_fw 244 (.not (.castable (qX 1) (qX 2))) := by unfold q_fw; decide +kernel
theorem q_fw6 : q_fw 4 (.isRef (.static Bundle.tN "UNASSIGNED_STACK" Bundle.steD)) := by unfold q_fw; decide +kernel
theorem q_fw7 : q_fw 5 (.isRef (.static Bundle.tN "SUPPRESSED_SENTINEL" Bundle.listD)) := by unfold q_fw; decide +kernel
section QG
variable {s : State} {args : Array Value}
theorem q_arrP {ty : FieldType} (h : (Cond.arrayClass ty).before args s = true) : ∃ c, ArrOfT s c ty ∧ s.vm.findClass ("[" ++ ty.toString) = some c := by
  obtain ⟨c, k, comp, f1, f2, f3⟩ := Cond.arrayClass_spec h
  exact ⟨c, fun N z => ⟨(fun k h => by cases h), k, f2, comp, f3⟩, f1⟩
theorem q_arrO {C : String} (h : (Cond.arrayOver (.object C)).before args s = true) : ∃ c, ArrOfT s c (.object C) ∧ va_RA s c (.object C) := by
  obtain ⟨comp, c, k, f1, -, f2, f3, f4⟩ := Cond.arrayOver_spec h
  exact ⟨c, fun N z => ⟨(fun k h => by cases h), k, f2, comp, f3⟩, k, comp, f2, f3, f1, f4⟩
theorem q_arrA {ty : FieldType} (h : (Cond.arrayOver (.array ty)).before args s = true) : ∃ c, ArrOfT s c (.array ty) ∧ va_RA s c (.array ty) := by
  obtain ⟨comp, c, k, f1, f2, f3, f4⟩ := Cond.arrayOver_specA h
  exact ⟨c, fun N z => ⟨(fun k h => by cases h), k, f2, comp, f3⟩, f4⟩
theorem q_ks0 (hts : ∀ w ∈ lw_tbl, w.before args s = true) (hgv : (Jvm.Cond.and given_1 narrow_1).before args s = true) : ∃ (D : va_G) (cA : Nat → ClassId), qKs D cA s := by
  have hfl := flat_of_before _ hgv
  have htq : ∀ w ∈ qW, w.before args s = true := fun w hw => hts w (List.mem_filter.mp hw).1
  have hk : ∀ c : Nat, ∃ (cC : ClassId) (iS : Nat → Nat), c < 11 → u_Kn s (qCn c).1 (qCn c).2.1 (qCn c).2.2 cC iS := by
    intro c
    by_cases hc : c < 11
    · have hcp := qCp_ok c hc
      simp only [Bool.and_eq_true] at hcp
      obtain ⟨cC, iS, h⟩ := u_known htq (qU_in hc) (htq _ (qLwB_in hcp.2 rfl))
      exact ⟨cC, iS, fun _ => h⟩
    · exact ⟨0, fun _ => 0, fun h => absurd h hc⟩
  have hw0 := hts _ (q_tw_in q_tw0)
  have hw1 := hts _ (q_tw_in q_tw1)
  have hw2 := hts _ (q_tw_in q_tw2)
  have hw3 := hts _ (q_tw_in q_tw3)
  have hw4 := hts _ (q_tw_in q_tw4)
  have hw5 := hts _ (q_tw_in q_tw5)
  have hw6 := hts _ (q_tw_in q_tw6)
  have hw7 := hts _ (q_tw_in q_tw7)
  have ha : ∀ t : Nat, ∃ c : ClassId, ∀ ty, qTyL[t]? = some ty → ArrOfT s c ty ∧ va_RA s c ty := by
    intro t
    match t with
    | 0 => obtain ⟨c, h⟩ := q_arrP hw0; exact ⟨c, fun ty e => by cases e; exact h⟩
    | 1 => obtain ⟨c, h⟩ := q_arrP hw1; exact ⟨c, fun ty e => by cases e; exact h⟩
    | 2 => obtain ⟨c, h⟩ := q_arrP hw2; exact ⟨c, fun ty e => by cases e; exact h⟩
    | 3 => obtain ⟨c, h⟩ := q_arrO hw3; exact ⟨c, fun ty e => by cases e; exact h⟩
    | 4 => obtain ⟨c, h⟩ := q_arrO hw4; exact ⟨c, fun ty e => by cases e; exact h⟩
    | 5 => obtain ⟨c, h⟩ := q_arrO hw5; exact ⟨c, fun ty e => by cases e; exact h⟩
    | 6 => obtain ⟨c, h⟩ := q_arrO hw6; exact ⟨c, fun ty e => by cases e; exact h⟩
    | 7 => obtain ⟨c, h⟩ := q_arrA hw7; exact ⟨c, fun ty e => by cases e; exact h⟩
    | t + 8 => exact ⟨0, fun ty e => by simp [qTyL] at e⟩
  refine ⟨(fun c => Classical.choose (hk c), fun c => Classical.choose (Classical.choose_spec (hk c))), fun t => Classical.choose (ha t), ⟨fun c q hq => ?_, fun t q hq => ?_⟩, fun q hq => ?_, fun e1 e2 g1 g2 g3 => ?_, fun k hk => ?_, hw7, fun t ht => ?_⟩
  · have hc : c < 11 := (List.getElem?_eq_some_iff.mp hq).1
    rw [qCls_at hc] at hq
    cases hq
    exact Classical.choose_spec (Classical.choose_spec (hk c)) hc
  · have hs := Classical.choose_spec (ha t)
    match t, hq, hs with
    | 0, hq, hs => cases hq; exact hs _ rfl
    | 1, hq, hs => cases hq; exact hs _ rfl
    | 2, hq, hs => cases hq; exact hs _ rfl
    | 3, hq, hs => cases hq; exact hs _ rfl
    | 4, hq, hs => cases hq; exact hs _ rfl
    | 5, hq, hs => cases hq; exact hs _ rfl
    | 6, hq, hs => cases hq; exact hs _ rfl
    | 7, hq, hs => cases hq; exact hs _ rfl
    | t + 8, hq, hs => simp [qTy] at hq
  · obtain ⟨j, hj⟩ := List.getElem?_of_mem hq
    have hj20 : j < 20 := by rw [← qSt_len]; exact (List.getElem?_eq_some_iff.mp hj).1
    have h := q_and (qSp_ok j hj20)
    have e : qSt.getD j ("", 0, "") = q := by rw [List.getD_eq_getElem?_getD, hj]; rfl
    rw [e] at h
    have hs := hts _ (qLb_in (of_decide_eq_true h.1))
    have hn := of_decide_eq_true h.2
    obtain ⟨cur, hcur⟩ : ∃ cur, s.vm.findClass q.1 = some cur := ⟨_, by rw [hn]; exact (Classical.choose_spec (Classical.choose_spec (hk 10)) (by decide)).2.1⟩
    obtain ⟨k, cf, i, a, -, -, -, -, -, hev⟩ := Cond.stringRef_spec hcur hs
    exact ⟨a, vk_R.of hs hev⟩
  · have f0 := va_Nc.of (hfl _ (q_fw_in q_fw0))
    have f1 := va_Nc.of (hfl _ (q_fw_in q_fw1))
    have f2 := va_Nc.of (hfl _ (q_fw_in q_fw2))
    have f3 := va_Nc.of (hfl _ (q_fw_in q_fw3))
    have f4 := va_Nc.of (hfl _ (q_fw_in q_fw4))
    have f5 := va_Nc.of (hfl _ (q_fw_in q_fw5))
    rcases (show e1 = 0 ∨ e1 = 1 ∨ e1 = 2 by omega) with rfl | rfl | rfl <;> rcases (show e2 = 0 ∨ e2 = 1 ∨ e2 = 2 by omega) with rfl | rfl | rfl <;> first | exact absurd rfl g3 | assumption
  · rcases hk with rfl | rfl | rfl | rfl
    · exact va_AO.of hw3
    · exact va_AO.of hw4
    · exact va_AO.of hw5
    · exact va_AO.of hw6
  · rcases (show t = 0 ∨ t = 1 ∨ t = 2 by omega) with rfl | rfl | rfl
    · exact hw0
    · exact hw1
    · exact hw2
theorem q_zs0 (hts : ∀ w ∈ lw_tbl, w.before args s = true) (hgv : (Jvm.Cond.and given_1 narrow_1).before args s = true) : qZs (fun q => s.heap.size ≤ q) s s.heap := by
  have hfl := flat_of_before _ hgv
  exact ⟨vx_Zqof (hts _ (q_tw_in q_tw9)) (hts _ (q_tw_in q_tw8)) (hfl _ (q_fw_in q_fw6)) (fun a ha => Nat.not_le_of_lt ha), vx_Zqof (hts _ (q_tw_in q_twA)) (hts _ (q_tw_in q_tw8)) (hfl _ (q_fw_in q_fw7)) (fun a ha => Nat.not_le_of_lt ha)⟩
end QG
/-! ===== the law, from its own start to its end ===== -/
def R_law : String := "FacingleafLaw"
def lw_Q (_ : Array Value) (s : State) (o : Outcome) (t : State) : Prop := o = .returned (some (.int 1)) ∧ Framed s o t [] room_1.cells room_1.slots
def lw_Z (below : List Frame) (a : Array Value) (s : State) : State → Prop := fun t => ∃ o, t.status = .running ∧ Ended t below o ∧ lw_Q a s o t
/-- the law's own end, with 1 on the stack -/
theorem lw_ret {p : Program} {l : Launch} {e : Env} {s : State} {m : MethodId} {below : List Frame} {meth : Method} {c : Code} {b : Nat} (hx : p.tables.exec = Jvm.exec) (hb : c.code = code) (hr : meth.sig.returnType = ret) (hlocks : meth.locks = false) {pc : Nat} {H : Heap} {ls : Array Slot} (hdg : decode code pc = .ok (.ireturn, 1)) : W p l e room_1 s m #[Value.ref b] below meth c H [] room_1.cells room_1.slots (lw_Z below #[Value.ref b] s) (F0 m pc ls [.int 1]) := by
  intro T hT X
  obtain ⟨fs, hret, hrun, hended, hW, hframe⟩ := X.leave (v := some (.int 1)) (hlocks := hlocks) (fun h => by rw [hr] at h; cases h)
  have hmeth' : T.vm.method? m = some meth := X.method'
  refine ⟨T.setFrames fs, ?_, .returned (some (.int 1)), hrun, hended, rfl, ⟨_, rfl⟩, hW, hframe⟩
  jvm_step X.here [X.here.top, hx, hb, hdg, hmeth', hr, ret, narrow_b1]
  (try refine ⟨rfl, ?_⟩); (try refine ⟨rfl, ?_⟩)
  first | (intro acts; rw [hret _ acts rfl rfl rfl]) | rw [hret _ _ rfl rfl rfl]
  exact Steps.refl _
/-- what holds at the law's entry (as the kit's own, and that no handler stands there) -/
def lw_At (p : Program) (s : State) (m : MethodId) (meth : Method) (c : Code) (b L : Nat) (xs : Nat → Int32) : Prop :=
  p.tables.exec = Jvm.exec ∧ c.code = code ∧ meth.sig.returnType = ret ∧ c.maxLocals = 35 ∧ s.vm.findClass R_law = some m.cls ∧ (∀ w ∈ lw_tbl, w.before #[Value.ref b] s = true) ∧ va_X b L xs s s.heap ∧ b < s.heap.size ∧ meth.locks = false ∧ (Jvm.Cond.and given_1 narrow_1).before #[Value.ref b] s = true ∧ (∀ z ∈ c.exceptionTable.toList, False)
/-- the small machine's memory at the start: no object (what there is not counts as set) -/
def qσ0 : qS := ((fun _ => 0, fun _ _ _ => true, 0, 0, true), fun _ _ _ => 0)
/-- the small machine says true of the script -/
def qLawOK (L : Nat) (xs : Nat → Int32) : Prop := ∃ (d N : Nat) (σ' : qS), (1 ≤ d ∧ d ≤ 1397) ∧ qRun qT0 (qCall qT0 qP d N) ((L : Int), fun j => (xs j.toNat).toInt) qc_L_law N 0 (qArgs 35 [.inr (.inr (.inr true))]) [] qσ0 = some (.inl (some (.inl 1)), σ') ∧ σ'.1.2.2.1 ≤ 600000 ∧ σ'.1.2.2.2.1 ≤ 7300000
theorem q_law {p : Program} {e : Env} {s : State} {m : MethodId} {below : List Frame} {meth : Method} {c : Code} (l : Launch) (hflags : l.flags = flags0) {b L : Nat} {xs : Nat → Int32} (hL : L ≤ 260) (hAll : ∀ m, m < qNm → qOkAll m = true) (hno : ∀ m, m < qNm → (qMe m).1.cls = "Facingleaf" → (qMe m).2.2.2.2 = []) (hcell : ∀ d, 1 ≤ d → qMetC l d) (hLaw : qOkC "FacingleafLaw" code false qc_L_law = true) (hrun : qLawOK L xs) (C0 : lw_At p s m meth c b L xs) : W p l e room_1 s m #[Value.ref b] below meth c s.heap [] 0 0 (lw_Z below #[Value.ref b] s) (entryFrame m ([Value.ref b] : List Value).toArray 35) := by
  obtain ⟨h1, h2, h3, h4, h5, h6, h7, h8, h9, h10, h11⟩ := C0
  obtain ⟨d, N, σ', hd, hrun, hc, hz⟩ := hrun
  have hfl : l.stackTraces = false := by
    show (!l.flags.contains noTraceFlag) = false
    rw [hflags]
    decide
  obtain ⟨D, cA, hks⟩ := q_ks0 h6 h10
  have htq : ∀ w ∈ qW, w.before #[Value.ref b] s = true := fun w hw => h6 w (List.mem_filter.mp hw).1
  have X : qCx (d + 1) p l room_1 s m #[Value.ref b] meth c D cA (fun q => s.heap.size ≤ q) "FacingleafLaw" code 35 false [] :=
    ⟨h1, h2, h4, h5, htq, h9, hfl, (fun h => by cases h), List.eq_nil_iff_forall_not_mem.mpr h11, hks, q_zs0 h6 h10, fun _ h => h, by show d + 1 + 6 ≤ 2048; omega, by show 60 * (d + 1) + 100 ≤ 84000; omega⟩
  have hO : qOK qT0 qσ0 [] := by
    refine ⟨fun k n => ⟨fun h => (nomatch h), fun h => ?_⟩, fun _ _ _ => ⟨fun _ => ⟨by show (-2147483648 : Int) ≤ 0; decide, by show (0 : Int) ≤ 2147483647; decide⟩, ⟨by show (-9223372036854775808 : Int) ≤ 0; decide, by show (0 : Int) ≤ 9223372036854775807; decide⟩⟩, fun k n s k' d hv => ?_, fun k n s k' d hv => ?_, fun k n len k2 p q j hv => ?_⟩
    all_goals
      exfalso
      first
        | (obtain ⟨g1, g2⟩ := h; have g2 : n < 0 := g2; omega)
        | (obtain ⟨g1, g2⟩ := hv; have g2 : n < 0 := g2; omega)
  have hsl : lg_sl [Value.ref b] = [.val (.ref b)] := rfl
  have hhas := lv_entry [Value.ref b] (n := 35) (by rw [hsl]; show 1 ≤ 35; decide)
  have hLs : qLs (fun _ _ => 0) b ((lg_sl [Value.ref b] ++ List.replicate (35 - (lg_sl [Value.ref b]).length) Slot.unset).toArray) 35 (qArgs 35 [.inr (.inr (.inr true))]) := by
    refine ⟨hhas.1, hhas.2.1, rfl, fun i v hi hdv => ?_⟩
    have hi' := qArgs_at hi (qLk_o hdv)
    match i, hi' with
    | 0, hi' => cases hi'; rfl
  have S : qSI D cA b (fun q => s.heap.size ≤ q) s 35 0 (0, qσ0, fun _ _ => 0) (fun _ _ => 0) [] s.heap [] _ 0 0 (qArgs 35 [.inr (.inr (.inr true))]) [] qσ0 :=
    ⟨hO, (fun k q h => by cases h), ⟨(fun i j p q h => by cases h), (fun k q h => by cases h)⟩, ⟨Nat.le_refl _, fun _ _ _ => rfl, fun _ h => (nomatch h)⟩, hLs, qArgs_vo (fun v hv => by rw [List.mem_singleton] at hv; subst hv; trivial), (fun _ h => (nomatch h)), rfl, rfl, fun _ => Int.le_refl _, fun _ _ _ => rfl⟩
  rw [lg_entry_eq]
  refine q_run (c0 := 0) (z0 := (0, qσ0, fun _ _ => 0)) (b := b) (R := room_1) hLaw (fun m hm => (q_and (hAll m hm)).1) (fun m as σ r σ' hm hq => q_met hAll hno hfl N d m as σ r σ' hm hq) rfl (fun h hh => (nomatch hh)) (fun _ => ?_) (fun _ _ => hcell d hd.1) (qCall_le d N) X ⟨by rw [Nat.zero_add]; exact Nat.le_trans hc (by decide), by rw [Nat.zero_add]; exact Nat.le_trans hz (by decide)⟩ ?_ ?_ hrun S
  · exact ⟨xs, L, h7, h8, Nat.not_le_of_lt h8, rfl, ⟨by show (-2147483648 : Int) ≤ (L : Int); omega, by show (L : Int) ≤ 2147483647; omega⟩, fun j _ => rfl⟩
  · intro ad' objs' H locs sl cells slots pc ls S' hE
    have e1 := S'.2.2.2.2.2.2.2.1
    have e2 := S'.2.2.2.2.2.2.2.2.1
    simp only at e2
    rcases hE with ⟨x, hx, -⟩ | ⟨x, hx, -, hdg, -⟩ | ⟨q, hx, -⟩ | ⟨hx, -⟩
    · cases hx
    · exact va_forget S'.2.2.2.1.2.2 (W.widen (Nat.le_trans (by omega : _ ≤ 600000) (by decide : 600000 ≤ room_1.cells)) (Nat.le_trans (by omega : _ ≤ 7300000) (by decide : 7300000 ≤ room_1.slots)) (lw_ret h1 h2 h3 h9 hdg))
    · cases hx
    · cases hx
  · exact True.intro
