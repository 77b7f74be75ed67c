/-! ===== the rows, one by one ===== -/
theorem qi_add (x y : Int) : Int32.ofInt x + Int32.ofInt y = Int32.ofInt (x + y) := (Int32.ofInt_add x y).symm
theorem qi_sub (x y : Int) : Int32.ofInt x - Int32.ofInt y = Int32.ofInt (x - y) := (Int32.ofInt_sub x y).symm
theorem qi_mul (x y : Int) : Int32.ofInt x * Int32.ofInt y = Int32.ofInt (x * y) := (Int32.ofInt_mul x y).symm
theorem qi_b {x : Int} (h1 : -128 ≤ x) (h2 : x ≤ 127) : (Int8.ofInt x).toInt32 = Int32.ofInt x := by
  apply Int32.toInt_inj.mp
  rw [Int8.toInt_toInt32, Int8.toInt_ofInt_of_le h1 (by omega), qi_int ⟨by omega, by omega⟩]
theorem qi_s {x : Int} (h1 : -32768 ≤ x) (h2 : x ≤ 32767) : (Int16.ofInt x).toInt32 = Int32.ofInt x := by
  apply Int32.toInt_inj.mp
  rw [Int16.toInt_toInt32, Int16.toInt_ofInt_of_le h1 (by omega), qi_int ⟨by omega, by omega⟩]
theorem qi_lt {x y : Int} (hx : qIn x) (hy : qIn y) : Int32.ofInt x < Int32.ofInt y ↔ x < y := by rw [Int32.lt_iff_toInt_lt, qi_int hx, qi_int hy]
theorem qi_le {x y : Int} (hx : qIn x) (hy : qIn y) : Int32.ofInt x ≤ Int32.ofInt y ↔ x ≤ y := by rw [Int32.le_iff_toInt_le, qi_int hx, qi_int hy]
theorem qi_inj {x y : Int} (hx : qIn x) (hy : qIn y) : Int32.ofInt x = Int32.ofInt y ↔ x = y := by
  constructor
  · intro h
    have := congrArg Int32.toInt h
    rwa [qi_int hx, qi_int hy] at this
  · rintro rfl; rfl
theorem qi_nI {x : Int} (h0 : 0 ≤ x) : Int32.ofInt x = nI x.toNat := by
  obtain ⟨n, rfl⟩ := Int.eq_ofNat_of_zero_le h0
  rfl
theorem qi_l (x : Int) (h : qIn x) : (Int32.ofInt x).toInt64 = Int64.ofInt x := by
  apply Int64.toInt_inj.mp
  rw [Int32.toInt_toInt64, qi_int h, qi_lng (qi_il h)]
section QR
variable {d : Nat} {p : Program} {l : Launch} {e : Env} {R : Room} {s : State} {m : MethodId} {args : Array Value} {below : List Frame} {meth : Method} {c : Code} {Q : State → Prop}
variable {D : va_G} {cA : Nat → ClassId} {b : Nat} {A : Nat → Prop} {own : String} {cc : ByteArray} {nL c0 rt : Nat} {z0 : qZ} {ini : Bool} {hh : List (Nat × Nat × Nat × Nat)}
variable {ad : qA} {objs : List (Nat × Int)} {H : Heap} {locs : List Loc} {sl : Array Slot} {cells slots pc : Nat} {ls st : List qV} {σ : qS} {o : qO}
theorem qSI.stk {st' : List qV} (S : qSI D cA b A s nL c0 z0 ad objs H locs sl cells slots ls st σ) (h : ∀ v ∈ st', qVo σ v) : qSI D cA b A s nL c0 z0 ad objs H locs sl cells slots ls st' σ :=
  ⟨S.1, S.2.1, S.2.2.1, S.2.2.2.1, S.2.2.2.2.1, S.2.2.2.2.2.1, h, S.2.2.2.2.2.2.2⟩
theorem qSI.set {st' : List qV} {sl' : Array Slot} {j : Nat} {w : Value} {v : qV} (S : qSI D cA b A s nL c0 z0 ad objs H locs sl cells slots ls st σ) (h' : lv_has sl' nL ((j, w) :: (qLv ad b ls).filter (fun q => !(q.1 == j) && !(q.1 + 1 == j && q.2.category == 2)))) (hw : qLd v = true → w = qVl ad b v) (hv : qVo σ v) (h : ∀ v ∈ st', qVo σ v) (hd : qLd v = true := by rfl) : qSI D cA b A s nL c0 z0 ad objs H locs sl' cells slots (ls.set j v) st' σ := by
  refine ⟨S.1, S.2.1, S.2.2.1, S.2.2.2.1, S.2.2.2.2.1.store h' hd (hw hd), fun u hu => ?_, h, S.2.2.2.2.2.2.2⟩
  rcases List.mem_or_eq_of_mem_set hu with h1 | h1
  · exact S.2.2.2.2.2.1 u h1
  · rw [h1]; exact hv
theorem qSI.setH {st' : List qV} {sl' : Array Slot} {j : Nat} {w : Value} (S : qSI D cA b A s nL c0 z0 ad objs H locs sl cells slots ls st σ) (h' : lv_has sl' nL ((j, w) :: (qLv ad b ls).filter (fun q => !(q.1 == j) && !(q.1 + 1 == j && q.2.category == 2)))) (h : ∀ v ∈ st', qVo σ v) : qSI D cA b A s nL c0 z0 ad objs H locs sl' cells slots (qKl ls j q_u) st' σ := by
  refine ⟨S.1, S.2.1, S.2.2.1, S.2.2.2.1, S.2.2.2.2.1.storeH h', fun u hu => ?_, h, S.2.2.2.2.2.2.2⟩
  unfold qKl at hu
  cases ha : ls.any qLg with
  | true =>
    rw [ha] at hu
    rw [List.eq_of_mem_replicate hu]; trivial
  | false =>
    rw [ha] at hu
    rcases List.mem_or_eq_of_mem_set hu with h1 | h1
    · exact S.2.2.2.2.2.1 u h1
    · rw [h1]; trivial
theorem qSI.setL {st' : List qV} {sl' : Array Slot} {j : Nat} {x : Int} (S : qSI D cA b A s nL c0 z0 ad objs H locs sl cells slots ls st σ) (h' : lv_has sl' nL ((j, Value.long (Int64.ofInt x)) :: (qLv ad b ls).filter (fun q => !(q.1 == j) && (!(q.1 == j + 1) && !(q.1 + 1 == j && q.2.category == 2))))) (hv : qIl x) (h : ∀ v ∈ st', qVo σ v) : qSI D cA b A s nL c0 z0 ad objs H locs sl' cells slots ((ls.set j (.inr (.inr (.inl x)))).set (j + 1) q_u) st' σ := by
  refine ⟨S.1, S.2.1, S.2.2.1, S.2.2.2.1, S.2.2.2.2.1.storeL h', fun u hu => ?_, h, S.2.2.2.2.2.2.2⟩
  rcases List.mem_or_eq_of_mem_set hu with hu | h1
  · rcases List.mem_or_eq_of_mem_set hu with h1 | h1
    · exact S.2.2.2.2.2.1 u h1
    · rw [h1]; exact hv
  · rw [h1]; trivial
theorem q_top {v : qV} {r : List qV} (h : ∀ u ∈ v :: r, qVo σ u) : qVo σ v ∧ ∀ u ∈ r, qVo σ u := ⟨h v List.mem_cons_self, fun u hu => h u (List.mem_cons_of_mem _ hu)⟩
theorem q_cons {v : qV} {r : List qV} (h : qVo σ v) (h2 : ∀ u ∈ r, qVo σ u) : ∀ u ∈ v :: r, qVo σ u := fun u hu => (List.mem_cons.mp hu).elim (fun e => e ▸ h) (h2 u)
/-! constants, locals -/
theorem qr_const {x : Int} {i : Instr} {n : Nat} (hi : (i = .iconst x ∧ n = 1 ∧ -1 ≤ x ∧ x ≤ 5) ∨ (i = .bipush x ∧ n = 2 ∧ -128 ≤ x ∧ x ≤ 127) ∨ (i = .sipush x ∧ n = 3 ∧ -32768 ≤ x ∧ x ≤ 32767)) (X : qCx d p l R s m args meth c D cA A own cc nL ini hh) (S : qSI D cA b A s nL c0 z0 ad objs H locs sl cells slots ls st σ) (hdg : decode cc pc = .ok (i, n)) (hK : qKn p l e R s m args below meth c Q D cA b A own cc nL c0 z0 rt (.inl (pc + n, ls, .inl x :: st, σ))) :
    W p l e R s m args below meth c H locs cells slots Q (F0 m pc sl (st.map (qVl ad b))) := by
  have hS : ∀ u ∈ (.inl x : qV) :: st, qVo σ u := q_cons (show qIn x by rcases hi with ⟨-, -, h1, h2⟩ | ⟨-, -, h1, h2⟩ | ⟨-, -, h1, h2⟩ <;> exact ⟨by omega, by omega⟩) S.2.2.2.2.2.2.1
  have K := hK ad objs H locs sl cells slots (S.stk hS)
  rcases hi with ⟨rfl, rfl, h1, h2⟩ | ⟨rfl, rfl, h1, h2⟩ | ⟨rfl, rfl, h1, h2⟩
  · exact lv_iconst X.1 X.2.1 hdg rfl K
  · exact lv_bipush X.1 X.2.1 hdg (qi_b h1 h2) K
  · exact lv_sipush X.1 X.2.1 hdg (qi_s h1 h2) K
theorem qr_ldc {a x n : Nat} {i : Instr} (hi : (i = .ldc x ∧ n = 2) ∨ (i = .ldc_w x ∧ n = 3)) (ha : a < 2147483648) (hw : Cond.constant own x (Int32.ofNat a) ∈ qW) (X : qCx d p l R s m args meth c D cA A own cc nL ini hh) (S : qSI D cA b A s nL c0 z0 ad objs H locs sl cells slots ls st σ) (hdg : decode cc pc = .ok (i, n)) (hK : qKn p l e R s m args below meth c Q D cA b A own cc nL c0 z0 rt (.inl (pc + n, ls, .inl (a : Int) :: st, σ))) :
    W p l e R s m args below meth c H locs cells slots Q (F0 m pc sl (st.map (qVl ad b))) := by
  have hS : ∀ u ∈ (.inl (a : Int) : qV) :: st, qVo σ u := q_cons (show qIn (a : Int) from ⟨by omega, by omega⟩) S.2.2.2.2.2.2.1
  have K := hK ad objs H locs sl cells slots (S.stk hS)
  obtain ⟨hx, hb, hml, hown, hts, -⟩ := id X
  rcases hi with ⟨rfl, rfl⟩ | ⟨rfl, rfl⟩
  · exact lv_ldc hx hb hown (hts _ hw) hdg K
  · exact lv_ldcw hx hb hown (hts _ hw) hdg K
theorem qr_iload {j n : Nat} {i : Instr} (hi : (∃ k : Fin 4, i = .iload_n k ∧ k.val = j ∧ n = 1) ∨ (i = .iload j ∧ n = 2)) (X : qCx d p l R s m args meth c D cA A own cc nL ini hh) (S : qSI D cA b A s nL c0 z0 ad objs H locs sl cells slots ls st σ) (hdg : decode cc pc = .ok (i, n)) (h : qLdI ls j (pc + n) st σ = some o) (hK : qKn p l e R s m args below meth c Q D cA b A own cc nL c0 z0 rt o) :
    W p l e R s m args below meth c H locs cells slots Q (F0 m pc sl (st.map (qVl ad b))) := by
  obtain ⟨x, hx, rfl⟩ := qLdI_s h
  have K := hK ad objs H locs sl cells slots (S.stk (q_cons (S.2.2.2.2.2.1 _ (List.mem_of_getElem? hx)) S.2.2.2.2.2.2.1))
  have hl : sl[j]? = some (.val (.int (Int32.ofInt x))) := S.2.2.2.2.1.2.2.2 j _ hx rfl
  rcases hi with ⟨k, rfl, hk, rfl⟩ | ⟨rfl, rfl⟩
  · exact lv_iload_n X.1 X.2.1 hdg hk hl K
  · exact lv_iload X.1 X.2.1 hdg hl K
theorem qr_aload {j n : Nat} {i : Instr} (hi : (∃ k : Fin 4, i = .aload_n k ∧ k.val = j ∧ n = 1) ∨ (i = .aload j ∧ n = 2)) (X : qCx d p l R s m args meth c D cA A own cc nL ini hh) (S : qSI D cA b A s nL c0 z0 ad objs H locs sl cells slots ls st σ) (hdg : decode cc pc = .ok (i, n)) (h : qLdA ls j (pc + n) st σ = some o) (hK : qKn p l e R s m args below meth c Q D cA b A own cc nL c0 z0 rt o) :
    W p l e R s m args below meth c H locs cells slots Q (F0 m pc sl (st.map (qVl ad b))) := by
  obtain ⟨v, hv, hd, hr, rfl⟩ := qLdA_s h
  have K := hK ad objs H locs sl cells slots (S.stk (q_cons (S.2.2.2.2.2.1 _ (List.mem_of_getElem? hv)) S.2.2.2.2.2.2.1))
  have hl := S.2.2.2.2.1.2.2.2 j _ hv (qLk_d hd)
  rcases hr with rfl | ⟨r, rfl⟩
  · rcases hi with ⟨k, rfl, hk, rfl⟩ | ⟨rfl, rfl⟩
    · exact lv_aload_n X.1 X.2.1 hdg hk hl K
    · exact lv_aload X.1 X.2.1 hdg hl K
  · cases r with
    | none =>
      rcases hi with ⟨k, rfl, hk, rfl⟩ | ⟨rfl, rfl⟩
      · exact lv_aload_nN X.1 X.2.1 hdg hk hl K
      · exact lv_aloadN X.1 X.2.1 hdg hl K
    | some q =>
      rcases hi with ⟨k, rfl, hk, rfl⟩ | ⟨rfl, rfl⟩
      · exact lv_aload_n X.1 X.2.1 hdg hk hl K
      · exact lv_aload X.1 X.2.1 hdg hl K
theorem qr_istore {j n : Nat} {i : Instr} {x : Int} {r : List qV} (hi : (∃ k : Fin 4, i = .istore_n k ∧ k.val = j ∧ n = 1) ∨ (i = .istore j ∧ n = 2)) (X : qCx d p l R s m args meth c D cA A own cc nL ini hh) (S : qSI D cA b A s nL c0 z0 ad objs H locs sl cells slots ls (.inl x :: r) σ) (hdg : decode cc pc = .ok (i, n)) (h : qSto ls j (pc + n) (.inl x) r σ = some o) (hK : qKn p l e R s m args below meth c Q D cA b A own cc nL c0 z0 rt o) :
    W p l e R s m args below meth c H locs cells slots Q (F0 m pc sl (((.inl x : qV) :: r).map (qVl ad b))) := by
  obtain ⟨hj, rfl⟩ := qSto_s h
  obtain ⟨h1, h2⟩ := q_top S.2.2.2.2.2.2.1
  have hn : j < nL := by rw [← S.2.2.2.2.1.2.2.1]; exact hj
  have K : ∀ sl', lv_has sl' nL ((j, Value.int (Int32.ofInt x)) :: (qLv ad b ls).filter (fun q => !(q.1 == j) && !(q.1 + 1 == j && q.2.category == 2))) → W p l e R s m args below meth c H locs cells slots Q (F0 m (pc + n) sl' (r.map (qVl ad b))) := fun sl' h' => hK ad objs H locs sl' cells slots (S.set h' (fun _ => rfl) h1 h2)
  rcases hi with ⟨k, rfl, hk, rfl⟩ | ⟨rfl, rfl⟩
  · exact lv_istore_n X.1 X.2.1 hdg hk S.2.2.2.2.1.has hn rfl K
  · exact lv_istore X.1 X.2.1 hdg S.2.2.2.2.1.has hn rfl K
theorem qr_astore {j n : Nat} {i : Instr} {x : Option (Nat × Int)} {r : List qV} (hi : (∃ k : Fin 4, i = .astore_n k ∧ k.val = j ∧ n = 1) ∨ (i = .astore j ∧ n = 2)) (X : qCx d p l R s m args meth c D cA A own cc nL ini hh) (S : qSI D cA b A s nL c0 z0 ad objs H locs sl cells slots ls (.inr (.inl x) :: r) σ) (hdg : decode cc pc = .ok (i, n)) (h : qSto ls j (pc + n) (.inr (.inl x)) r σ = some o) (hK : qKn p l e R s m args below meth c Q D cA b A own cc nL c0 z0 rt o) :
    W p l e R s m args below meth c H locs cells slots Q (F0 m pc sl (((.inr (.inl x) : qV) :: r).map (qVl ad b))) := by
  obtain ⟨hj, rfl⟩ := qSto_s h
  obtain ⟨h1, h2⟩ := q_top S.2.2.2.2.2.2.1
  have hn : j < nL := by rw [← S.2.2.2.2.1.2.2.1]; exact hj
  have K : ∀ sl', lv_has sl' nL ((j, qVl ad b (.inr (.inl x))) :: (qLv ad b ls).filter (fun q => !(q.1 == j) && !(q.1 + 1 == j && q.2.category == 2))) → W p l e R s m args below meth c H locs cells slots Q (F0 m (pc + n) sl' (r.map (qVl ad b))) := fun sl' h' => hK ad objs H locs sl' cells slots (S.set h' (fun _ => rfl) h1 h2)
  cases x with
  | none =>
    rcases hi with ⟨k, rfl, hk, rfl⟩ | ⟨rfl, rfl⟩
    · exact lv_astore_nN X.1 X.2.1 hdg hk S.2.2.2.2.1.has hn rfl K
    · exact lv_astoreN X.1 X.2.1 hdg S.2.2.2.2.1.has hn rfl K
  | some q =>
    rcases hi with ⟨k, rfl, hk, rfl⟩ | ⟨rfl, rfl⟩
    · exact lv_astore_n X.1 X.2.1 hdg hk S.2.2.2.2.1.has hn rfl K
    · exact lv_astore X.1 X.2.1 hdg S.2.2.2.2.1.has hn rfl K
theorem qr_iinc {j : Nat} {x y : Int} (X : qCx d p l R s m args meth c D cA A own cc nL ini hh) (S : qSI D cA b A s nL c0 z0 ad objs H locs sl cells slots ls st σ) (hdg : decode cc pc = .ok (.iinc j x, 3)) (hy : ls[j]? = some (.inl y)) (h : qChk (qIn (y + x)) (qSto ls j (pc + 3) (.inl (y + x)) st σ) = some o) (hK : qKn p l e R s m args below meth c Q D cA b A own cc nL c0 z0 rt o) :
    W p l e R s m args below meth c H locs cells slots Q (F0 m pc sl (st.map (qVl ad b))) := by
  obtain ⟨hin, h⟩ := qChk_s h
  obtain ⟨hj, rfl⟩ := qSto_s h
  have hn : j < nL := by rw [← S.2.2.2.2.1.2.2.1]; exact hj
  obtain ⟨k, hk⟩ := List.getElem?_of_mem (qLv_mem (ad := ad) (b := b) (ls := ls) (q := (j, .int (Int32.ofInt y))) |>.mpr ⟨_, hy, rfl, rfl⟩)
  exact lv_iinc X.1 X.2.1 hdg S.2.2.2.2.1.has hk (qi_add y x) hn rfl fun sl' h' => hK ad objs H locs sl' cells slots (S.set h' (fun _ => rfl) hin S.2.2.2.2.2.2.1)
/-! arithmetic -/
theorem qr_arith {x y z : Int} {i : Instr} {r : List qV} (hi : (i = .iadd ∧ z = x + y) ∨ (i = .isub ∧ z = x - y) ∨ (i = .imul ∧ z = x * y)) (X : qCx d p l R s m args meth c D cA A own cc nL ini hh) (S : qSI D cA b A s nL c0 z0 ad objs H locs sl cells slots ls (.inl y :: .inl x :: r) σ) (hdg : decode cc pc = .ok (i, 1)) (h : qChk (qIn z) (qNx (pc + 1) ls (.inl z :: r) σ) = some o) (hK : qKn p l e R s m args below meth c Q D cA b A own cc nL c0 z0 rt o) :
    W p l e R s m args below meth c H locs cells slots Q (F0 m pc sl (((.inl y : qV) :: .inl x :: r).map (qVl ad b))) := by
  obtain ⟨hin, h⟩ := qChk_s h
  cases qNx_s h
  obtain ⟨h1, h2⟩ := q_top S.2.2.2.2.2.2.1
  obtain ⟨h3, h4⟩ := q_top h2
  have K := hK ad objs H locs sl cells slots (S.stk (q_cons hin h4))
  rcases hi with ⟨rfl, rfl⟩ | ⟨rfl, rfl⟩ | ⟨rfl, rfl⟩
  · refine lv_iadd X.1 X.2.1 hdg ?_
    rw [qi_add]; exact K
  · refine lv_isub X.1 X.2.1 hdg ?_
    rw [qi_sub]; exact K
  · refine lv_imul X.1 X.2.1 hdg ?_
    rw [qi_mul]; exact K
theorem qr_div {x y : Int} {r : List qV} (X : qCx d p l R s m args meth c D cA A own cc nL ini hh) (S : qSI D cA b A s nL c0 z0 ad objs H locs sl cells slots ls (.inl y :: .inl x :: r) σ) (hdg : decode cc pc = .ok (.idiv, 1)) (h : qChk (0 ≤ x ∧ 0 < y) (qNx (pc + 1) ls (.inl (x / y) :: r) σ) = some o) (hK : qKn p l e R s m args below meth c Q D cA b A own cc nL c0 z0 rt o) :
    W p l e R s m args below meth c H locs cells slots Q (F0 m pc sl (((.inl y : qV) :: .inl x :: r).map (qVl ad b))) := by
  obtain ⟨⟨g1, g2⟩, h⟩ := qChk_s h
  cases qNx_s h
  obtain ⟨h1, h2⟩ := q_top S.2.2.2.2.2.2.1
  obtain ⟨h3, h4⟩ := q_top h2
  obtain ⟨a, rfl⟩ := Int.eq_ofNat_of_zero_le g1
  obtain ⟨k, rfl⟩ := Int.eq_ofNat_of_zero_le (Int.le_of_lt g2)
  have ha : a < 2 ^ 31 := by have : qIn (a : Int) := h3; have := this.2; omega
  have hk : k < 2 ^ 31 := by have : qIn (k : Int) := h1; have := this.2; omega
  have hk0 : 0 < k := by omega
  have hd : a / k ≤ a := Nat.div_le_self a k
  have hv : qIn ((a : Int) / (k : Int)) := by
    rw [← Int.natCast_ediv]
    exact ⟨Int.le_trans (by decide) (Int.natCast_nonneg _), Int.le_trans (Int.ofNat_le.mpr hd) (by omega)⟩
  have K := hK ad objs H locs sl cells slots (S.stk (q_cons hv h4))
  refine lv_idiv X.1 X.2.1 hdg (fun q => ?_) ?_
  · have := congrArg Int32.toInt q
    rw [qi_int h1] at this
    have h0 : (0 : Int32).toInt = 0 := rfl
    omega
  · have e : Int32.ofInt (a : Int) / Int32.ofInt (k : Int) = Int32.ofInt ((a : Int) / (k : Int)) := by
      rw [← Int.natCast_ediv]
      exact pk_div ha hk0 hk
    rw [e]; exact K
theorem qr_rem {x y : Int} {r : List qV} (X : qCx d p l R s m args meth c D cA A own cc nL ini hh) (S : qSI D cA b A s nL c0 z0 ad objs H locs sl cells slots ls (.inl y :: .inl x :: r) σ) (hdg : decode cc pc = .ok (.irem, 1)) (h : qChk (0 ≤ x ∧ 0 < y) (qNx (pc + 1) ls (.inl (x % y) :: r) σ) = some o) (hK : qKn p l e R s m args below meth c Q D cA b A own cc nL c0 z0 rt o) :
    W p l e R s m args below meth c H locs cells slots Q (F0 m pc sl (((.inl y : qV) :: .inl x :: r).map (qVl ad b))) := by
  obtain ⟨⟨g1, g2⟩, h⟩ := qChk_s h
  cases qNx_s h
  obtain ⟨h1, h2⟩ := q_top S.2.2.2.2.2.2.1
  obtain ⟨h3, h4⟩ := q_top h2
  obtain ⟨a, rfl⟩ := Int.eq_ofNat_of_zero_le g1
  obtain ⟨k, rfl⟩ := Int.eq_ofNat_of_zero_le (Int.le_of_lt g2)
  have ha : a < 2 ^ 31 := by have : qIn (a : Int) := h3; have := this.2; omega
  have hk : k < 2 ^ 31 := by have : qIn (k : Int) := h1; have := this.2; omega
  have hk0 : 0 < k := by omega
  have hd : a % k < k := Nat.mod_lt a hk0
  have hv : qIn ((a : Int) % (k : Int)) := by
    rw [← Int.natCast_emod]
    exact ⟨by omega, by omega⟩
  have K := hK ad objs H locs sl cells slots (S.stk (q_cons hv h4))
  refine lv_irem X.1 X.2.1 hdg (fun q => ?_) ?_
  · have := congrArg Int32.toInt q
    rw [qi_int h1] at this
    have h0 : (0 : Int32).toInt = 0 := rfl
    omega
  · have e : Int32.ofInt (a : Int) - Int32.ofInt (a : Int) / Int32.ofInt (k : Int) * Int32.ofInt (k : Int) = Int32.ofInt ((a : Int) % (k : Int)) := by
      rw [← Int.natCast_emod]
      exact pk_rem ha hk0 hk
    rw [e]; exact K
theorem qr_shl {x y : Int} {r : List qV} (X : qCx d p l R s m args meth c D cA A own cc nL ini hh) (S : qSI D cA b A s nL c0 z0 ad objs H locs sl cells slots ls (.inl y :: .inl x :: r) σ) (hdg : decode cc pc = .ok (.ishl, 1)) (h : qChk (0 ≤ x ∧ 0 ≤ y ∧ y < 31 ∧ x * 2 ^ y.toNat ≤ 2147483647) (qNx (pc + 1) ls (.inl (x * 2 ^ y.toNat) :: r) σ) = some o) (hK : qKn p l e R s m args below meth c Q D cA b A own cc nL c0 z0 rt o) :
    W p l e R s m args below meth c H locs cells slots Q (F0 m pc sl (((.inl y : qV) :: .inl x :: r).map (qVl ad b))) := by
  obtain ⟨⟨g1, g2, g3, g4⟩, h⟩ := qChk_s h
  cases qNx_s h
  obtain ⟨h1, h2⟩ := q_top S.2.2.2.2.2.2.1
  obtain ⟨h3, h4⟩ := q_top h2
  obtain ⟨a, rfl⟩ := Int.eq_ofNat_of_zero_le g1
  obtain ⟨k, rfl⟩ := Int.eq_ofNat_of_zero_le g2
  have hk : k < 31 := by omega
  have e0 : ((a : Int) * 2 ^ (k : Int).toNat) = ((a * 2 ^ k : Nat) : Int) := by simp
  rw [e0] at g4
  have hv : qIn ((a : Int) * 2 ^ (k : Int).toNat) := by
    rw [e0]
    exact ⟨Int.le_trans (by decide) (Int.natCast_nonneg _), g4⟩
  have K := hK ad objs H locs sl cells slots (S.stk (q_cons hv h4))
  refine lv_ishl X.1 X.2.1 hdg ?_
  have e : Int32.ofInt (a : Int) <<< (Int32.ofInt (k : Int) &&& 31) = Int32.ofInt ((a : Int) * 2 ^ (k : Int).toNat) := by
    rw [e0]
    have hs : ∀ n, n < 32 → ((nI n &&& 31).toBitVec.smod 32).toNat = n := by decide +kernel
    exact pk_shlN (nI k &&& 31) k (hs k (by omega)) (by omega)
  rw [e]; exact K
theorem qr_shr {x y : Int} {r : List qV} (X : qCx d p l R s m args meth c D cA A own cc nL ini hh) (S : qSI D cA b A s nL c0 z0 ad objs H locs sl cells slots ls (.inl y :: .inl x :: r) σ) (hdg : decode cc pc = .ok (.ishr, 1)) (h : qChk (0 ≤ x ∧ 0 ≤ y ∧ y < 31) (qNx (pc + 1) ls (.inl (x / 2 ^ y.toNat) :: r) σ) = some o) (hK : qKn p l e R s m args below meth c Q D cA b A own cc nL c0 z0 rt o) :
    W p l e R s m args below meth c H locs cells slots Q (F0 m pc sl (((.inl y : qV) :: .inl x :: r).map (qVl ad b))) := by
  obtain ⟨⟨g1, g2, g3⟩, h⟩ := qChk_s h
  cases qNx_s h
  obtain ⟨h1, h2⟩ := q_top S.2.2.2.2.2.2.1
  obtain ⟨h3, h4⟩ := q_top h2
  obtain ⟨a, rfl⟩ := Int.eq_ofNat_of_zero_le g1
  obtain ⟨k, rfl⟩ := Int.eq_ofNat_of_zero_le g2
  have ha : a < 2 ^ 31 := by have : qIn (a : Int) := h3; have := this.2; omega
  have hk : k < 31 := by omega
  have e0 : ((a : Int) / 2 ^ (k : Int).toNat) = ((a / 2 ^ k : Nat) : Int) := by simp
  have hd : a / 2 ^ k ≤ a := Nat.div_le_self _ _
  have hv : qIn ((a : Int) / 2 ^ (k : Int).toNat) := by
    rw [e0]
    exact ⟨Int.le_trans (by decide) (Int.natCast_nonneg _), Int.le_trans (Int.ofNat_le.mpr hd) (by omega)⟩
  have K := hK ad objs H locs sl cells slots (S.stk (q_cons hv h4))
  refine lv_ishr X.1 X.2.1 hdg ?_
  have e : Int32.ofInt (a : Int) >>> (Int32.ofInt (k : Int) &&& 31) = Int32.ofInt ((a : Int) / 2 ^ (k : Int).toNat) := by
    rw [e0]
    have hs : ∀ n, n < 32 → ((nI n &&& 31).toBitVec.smod 32).toNat = n := by decide +kernel
    exact pk_shrN ha (nI k &&& 31) k (hs k (by omega))
  rw [e]; exact K
theorem qi_in (x : Int32) : qIn x.toInt := ⟨by have := Int32.le_toInt x; omega, by have := Int32.toInt_lt x; omega⟩
theorem qr_and {x y : Int} {i : Instr} {r : List qV} {z : Int} (hi : (i = .iand ∧ z = qAnd x y) ∨ (i = .ior ∧ z = qOr x y)) (X : qCx d p l R s m args meth c D cA A own cc nL ini hh) (S : qSI D cA b A s nL c0 z0 ad objs H locs sl cells slots ls (.inl y :: .inl x :: r) σ) (hdg : decode cc pc = .ok (i, 1)) (hK : qKn p l e R s m args below meth c Q D cA b A own cc nL c0 z0 rt (.inl (pc + 1, ls, .inl z :: r, σ))) :
    W p l e R s m args below meth c H locs cells slots Q (F0 m pc sl (((.inl y : qV) :: .inl x :: r).map (qVl ad b))) := by
  obtain ⟨h1, h2⟩ := q_top S.2.2.2.2.2.2.1
  obtain ⟨h3, h4⟩ := q_top h2
  rcases hi with ⟨rfl, rfl⟩ | ⟨rfl, rfl⟩
  · have K := hK ad objs H locs sl cells slots (S.stk (q_cons (show qVo σ (.inl (qAnd x y)) from qi_in _) h4))
    refine lv_iand X.1 X.2.1 hdg ?_
    have e : Int32.ofInt x &&& Int32.ofInt y = Int32.ofInt (qAnd x y) := by rw [qAnd, Int32.ofInt_toInt]
    rw [e]; exact K
  · have K := hK ad objs H locs sl cells slots (S.stk (q_cons (show qVo σ (.inl (qOr x y)) from qi_in _) h4))
    refine lv_ior X.1 X.2.1 hdg ?_
    have e : Int32.ofInt x ||| Int32.ofInt y = Int32.ofInt (qOr x y) := by rw [qOr, Int32.ofInt_toInt]
    rw [e]; exact K
/-! longs -/
theorem qr_i2l {x : Int} {r : List qV} (X : qCx d p l R s m args meth c D cA A own cc nL ini hh) (S : qSI D cA b A s nL c0 z0 ad objs H locs sl cells slots ls (.inl x :: r) σ) (hdg : decode cc pc = .ok (.i2l, 1)) (hK : qKn p l e R s m args below meth c Q D cA b A own cc nL c0 z0 rt (.inl (pc + 1, ls, .inr (.inr (.inl x)) :: r, σ))) :
    W p l e R s m args below meth c H locs cells slots Q (F0 m pc sl (((.inl x : qV) :: r).map (qVl ad b))) := by
  obtain ⟨h1, h2⟩ := q_top S.2.2.2.2.2.2.1
  exact lv_i2l X.1 X.2.1 hdg (qi_l x h1) (hK ad objs H locs sl cells slots (S.stk (q_cons (v := .inr (.inr (.inl x))) (qi_il h1) h2)))
theorem qr_lconst {k : Fin 2} (X : qCx d p l R s m args meth c D cA A own cc nL ini hh) (S : qSI D cA b A s nL c0 z0 ad objs H locs sl cells slots ls st σ) (hdg : decode cc pc = .ok (.lconst k, 1)) (hK : qKn p l e R s m args below meth c Q D cA b A own cc nL c0 z0 rt (.inl (pc + 1, ls, .inr (.inr (.inl (k.val : Int))) :: st, σ))) :
    W p l e R s m args below meth c H locs cells slots Q (F0 m pc sl (st.map (qVl ad b))) :=
  lv_lconst X.1 X.2.1 hdg rfl (hK ad objs H locs sl cells slots (S.stk (q_cons (v := .inr (.inr (.inl (k.val : Int)))) (show qIl (k.val : Int) from ⟨by omega, by omega⟩) S.2.2.2.2.2.2.1)))
theorem qr_lcmp {x y : Int} {r : List qV} (X : qCx d p l R s m args meth c D cA A own cc nL ini hh) (S : qSI D cA b A s nL c0 z0 ad objs H locs sl cells slots ls (.inr (.inr (.inl y)) :: .inr (.inr (.inl x)) :: r) σ) (hdg : decode cc pc = .ok (.lcmp, 1)) (hK : qKn p l e R s m args below meth c Q D cA b A own cc nL c0 z0 rt (.inl (pc + 1, ls, .inl (if x < y then -1 else if x = y then 0 else 1) :: r, σ))) :
    W p l e R s m args below meth c H locs cells slots Q (F0 m pc sl (((.inr (.inr (.inl y)) : qV) :: .inr (.inr (.inl x)) :: r).map (qVl ad b))) := by
  obtain ⟨h1, h2⟩ := q_top S.2.2.2.2.2.2.1
  obtain ⟨h3, h4⟩ := q_top h2
  have hv : qVo σ (.inl (if x < y then -1 else if x = y then 0 else 1)) := by
    show qIn _
    split
    · exact ⟨by omega, by omega⟩
    · split <;> exact ⟨by omega, by omega⟩
  have K := hK ad objs H locs sl cells slots (S.stk (q_cons hv h4))
  refine W.lcmp X.1 X.2.1 hdg ?_
  have e : lg_cmp (Int64.ofInt x) (Int64.ofInt y) = Int32.ofInt (if x < y then -1 else if x = y then 0 else 1) := by
    have a1 : Int64.ofInt y < Int64.ofInt x ↔ y < x := by rw [Int64.lt_iff_toInt_lt, qi_lng h1, qi_lng h3]
    have a2 : Int64.ofInt x < Int64.ofInt y ↔ x < y := by rw [Int64.lt_iff_toInt_lt, qi_lng h1, qi_lng h3]
    have a3 : Int64.ofInt x = Int64.ofInt y ↔ x = y := by rw [← Int64.toInt_inj, qi_lng h1, qi_lng h3]
    unfold lg_cmp
    by_cases q1 : y < x
    · rw [if_pos (a1.mpr q1), if_neg (by omega), if_neg (by omega)]; rfl
    · by_cases q2 : x = y
      · subst q2; simp
      · have q3 : x < y := by omega
        rw [if_neg (fun z => q1 (a1.mp z))]
        first
          | rw [if_neg (fun z => q2 (a3.mp z)), if_pos q3]; rfl
          | rw [if_pos (a2.mpr q3), if_pos q3]; rfl
  rw [e]; exact K
/-! stack -/
theorem qr_dup {v : qV} {r : List qV} (hv : qLd v = true) (X : qCx d p l R s m args meth c D cA A own cc nL ini hh) (S : qSI D cA b A s nL c0 z0 ad objs H locs sl cells slots ls (v :: r) σ) (hdg : decode cc pc = .ok (.dup, 1)) (hK : qKn p l e R s m args below meth c Q D cA b A own cc nL c0 z0 rt (.inl (pc + 1, ls, v :: v :: r, σ))) :
    W p l e R s m args below meth c H locs cells slots Q (F0 m pc sl ((v :: r).map (qVl ad b))) := by
  obtain ⟨h1, h2⟩ := q_top S.2.2.2.2.2.2.1
  exact lv_dup X.1 X.2.1 hdg (qLd_cat hv) (hK ad objs H locs sl cells slots (S.stk (q_cons h1 (q_cons h1 h2))))
theorem qr_dup2 {v w : qV} {r : List qV} (hv : qLd v = true) (hw : qLd w = true) (X : qCx d p l R s m args meth c D cA A own cc nL ini hh) (S : qSI D cA b A s nL c0 z0 ad objs H locs sl cells slots ls (v :: w :: r) σ) (hdg : decode cc pc = .ok (.dup2, 1)) (hK : qKn p l e R s m args below meth c Q D cA b A own cc nL c0 z0 rt (.inl (pc + 1, ls, v :: w :: v :: w :: r, σ))) :
    W p l e R s m args below meth c H locs cells slots Q (F0 m pc sl ((v :: w :: r).map (qVl ad b))) := by
  obtain ⟨h1, h2⟩ := q_top S.2.2.2.2.2.2.1
  obtain ⟨h3, h4⟩ := q_top h2
  exact lv_dup2_11 X.1 X.2.1 hdg (qLd_cat hv) (qLd_cat hw) (hK ad objs H locs sl cells slots (S.stk (q_cons h1 (q_cons h3 (q_cons h1 h2)))))
theorem qr_null (X : qCx d p l R s m args meth c D cA A own cc nL ini hh) (S : qSI D cA b A s nL c0 z0 ad objs H locs sl cells slots ls st σ) (hdg : decode cc pc = .ok (.aconst_null, 1)) (hK : qKn p l e R s m args below meth c Q D cA b A own cc nL c0 z0 rt (.inl (pc + 1, ls, .inr (.inl none) :: st, σ))) :
    W p l e R s m args below meth c H locs cells slots Q (F0 m pc sl (st.map (qVl ad b))) :=
  lv_null X.1 X.2.1 hdg (hK ad objs H locs sl cells slots (S.stk (q_cons (v := .inr (.inl none)) trivial S.2.2.2.2.2.2.1)))
/-! branches -/
theorem qr_goto {a : Nat} {off : Int} (ht : (pc : Int) + off = (a : Int)) (X : qCx d p l R s m args meth c D cA A own cc nL ini hh) (S : qSI D cA b A s nL c0 z0 ad objs H locs sl cells slots ls st σ) (hdg : decode cc pc = .ok (.goto off, 3)) (hK : qKn p l e R s m args below meth c Q D cA b A own cc nL c0 z0 rt (.inl (a, ls, st, σ))) :
    W p l e R s m args below meth c H locs cells slots Q (F0 m pc sl (st.map (qVl ad b))) :=
  lv_goto X.1 X.2.1 hdg ht (hK ad objs H locs sl cells slots S)
theorem qBr_t {c : Prop} [Decidable c] {t f : Nat} {ls st : List qV} {σ : qS} {o : qO} (h : qBr c t f ls st σ = some o) (hc : c) : o = .inl (t, ls, st, σ) := by
  unfold qBr at h
  rw [if_pos hc] at h
  exact qNx_s h
theorem qBr_f {c : Prop} [Decidable c] {t f : Nat} {ls st : List qV} {σ : qS} {o : qO} (h : qBr c t f ls st σ = some o) (hc : ¬ c) : o = .inl (f, ls, st, σ) := by
  unfold qBr at h
  rw [if_neg hc] at h
  exact qNx_s h
theorem qr_icmp {a : Nat} {off x y : Int} {cd : Jvm.ClassFile.Cond} {r : List qV} (ht : (pc : Int) + off = (a : Int)) (X : qCx d p l R s m args meth c D cA A own cc nL ini hh) (S : qSI D cA b A s nL c0 z0 ad objs H locs sl cells slots ls (.inl y :: .inl x :: r) σ) (hdg : decode cc pc = .ok (.if_icmp cd off, 3)) (h : qIf cd x y a (pc + 3) ls r σ = some o) (hK : qKn p l e R s m args below meth c Q D cA b A own cc nL c0 z0 rt o) :
    W p l e R s m args below meth c H locs cells slots Q (F0 m pc sl (((.inl y : qV) :: .inl x :: r).map (qVl ad b))) := by
  obtain ⟨h1, h2⟩ := q_top S.2.2.2.2.2.2.1
  obtain ⟨h3, h4⟩ := q_top h2
  have a1 := qi_inj (x := x) (y := y) h3 h1
  have a2 := qi_lt (x := x) (y := y) h3 h1
  have a3 := qi_le (x := x) (y := y) h3 h1
  have a4 := qi_le (x := y) (y := x) h1 h3
  have a5 := qi_lt (x := y) (y := x) h1 h3
  have T : o = .inl (a, ls, r, σ) → W p l e R s m args below meth c H locs cells slots Q (F0 m a sl (r.map (qVl ad b))) := fun q => by
    subst q; exact hK ad objs H locs sl cells slots (S.stk h4)
  have F : o = .inl (pc + 3, ls, r, σ) → W p l e R s m args below meth c H locs cells slots Q (F0 m (pc + 3) sl (r.map (qVl ad b))) := fun q => by
    subst q; exact hK ad objs H locs sl cells slots (S.stk h4)
  cases cd with
  | eq => exact lv_icmp_eq X.1 X.2.1 hdg ht (fun q => T (qBr_t h (a1.mp q))) (fun q => F (qBr_f h (fun z => q (a1.mpr z))))
  | ne => exact lv_icmp_ne X.1 X.2.1 hdg ht (fun q => T (qBr_f h (fun z => q (a1.mpr z)))) (fun q => F (qBr_t h (a1.mp q)))
  | lt => exact lv_icmp_lt X.1 X.2.1 hdg ht (fun q => T (qBr_t h (by first | exact a2.mp q | (have := a4; omega)))) (fun q => F (qBr_f h (by first | (intro z; exact q (a2.mpr z)) | (have := a4.mp q; omega))))
  | ge => exact lv_icmp_ge X.1 X.2.1 hdg ht (fun q => T (qBr_f h (by first | (intro z; exact q (a2.mpr z)) | (have := a4.mp q; omega)))) (fun q => F (qBr_t h (by first | exact a2.mp q | exact Int.not_le.mp (fun z => q (a4.mpr z)))))
  | gt => exact lv_icmp_gt X.1 X.2.1 hdg ht (fun q => T (qBr_f h (by first | (intro z; exact q (a3.mpr z)) | (have := a5.mp q; omega)))) (fun q => F (qBr_t h (by first | exact a3.mp q | exact Int.not_lt.mp (fun z => q (a5.mpr z)))))
  | le => exact lv_icmp_le X.1 X.2.1 hdg ht (fun q => T (qBr_t h (by first | exact a3.mp q | (have := a5; omega)))) (fun q => F (qBr_f h (by first | (intro z; exact q (a3.mpr z)) | (have := a5.mp q; omega))))
theorem qr_if {a : Nat} {off x : Int} {cd : Jvm.ClassFile.Cond} {r : List qV} (ht : (pc : Int) + off = (a : Int)) (X : qCx d p l R s m args meth c D cA A own cc nL ini hh) (S : qSI D cA b A s nL c0 z0 ad objs H locs sl cells slots ls (.inl x :: r) σ) (hdg : decode cc pc = .ok (.ifCond cd off, 3)) (h : qIf cd x 0 a (pc + 3) ls r σ = some o) (hK : qKn p l e R s m args below meth c Q D cA b A own cc nL c0 z0 rt o) :
    W p l e R s m args below meth c H locs cells slots Q (F0 m pc sl (((.inl x : qV) :: r).map (qVl ad b))) := by
  obtain ⟨h3, h4⟩ := q_top S.2.2.2.2.2.2.1
  have h1 : qIn 0 := ⟨by decide, by decide⟩
  have e0 : Int32.ofInt 0 = 0 := rfl
  have a1 := qi_inj (x := x) (y := 0) h3 h1
  have a2 := qi_lt (x := x) (y := 0) h3 h1
  have a3 := qi_le (x := x) (y := 0) h3 h1
  have a4 := qi_le (x := 0) (y := x) h1 h3
  have a5 := qi_lt (x := 0) (y := x) h1 h3
  rw [e0] at a1 a2 a3 a4 a5
  have T : o = .inl (a, ls, r, σ) → W p l e R s m args below meth c H locs cells slots Q (F0 m a sl (r.map (qVl ad b))) := fun q => by
    subst q; exact hK ad objs H locs sl cells slots (S.stk h4)
  have F : o = .inl (pc + 3, ls, r, σ) → W p l e R s m args below meth c H locs cells slots Q (F0 m (pc + 3) sl (r.map (qVl ad b))) := fun q => by
    subst q; exact hK ad objs H locs sl cells slots (S.stk h4)
  cases cd with
  | eq => exact lv_if_eq X.1 X.2.1 hdg ht (fun q => T (qBr_t h (a1.mp q))) (fun q => F (qBr_f h (fun z => q (a1.mpr z))))
  | ne => exact lv_if_ne X.1 X.2.1 hdg ht (fun q => T (qBr_f h (fun z => q (a1.mpr z)))) (fun q => F (qBr_t h (a1.mp q)))
  | lt => exact lv_if_lt X.1 X.2.1 hdg ht (fun q => T (qBr_t h (by first | exact a2.mp q | (have := a4; omega)))) (fun q => F (qBr_f h (by first | (intro z; exact q (a2.mpr z)) | (have := a4.mp q; omega))))
  | ge => exact lv_if_ge X.1 X.2.1 hdg ht (fun q => T (qBr_f h (by first | (intro z; exact q (a2.mpr z)) | (have := a4.mp q; omega)))) (fun q => F (qBr_t h (by first | exact a2.mp q | exact Int.not_le.mp (fun z => q (a4.mpr z)))))
  | gt => exact lv_if_gt X.1 X.2.1 hdg ht (fun q => T (qBr_f h (by first | (intro z; exact q (a3.mpr z)) | (have := a5.mp q; omega)))) (fun q => F (qBr_t h (by first | exact a3.mp q | exact Int.not_lt.mp (fun z => q (a5.mpr z)))))
  | le => exact lv_if_le X.1 X.2.1 hdg ht (fun q => T (qBr_t h (by first | exact a3.mp q | (have := a5; omega)))) (fun q => F (qBr_f h (by first | (intro z; exact q (a3.mpr z)) | (have := a5.mp q; omega))))
end QR
