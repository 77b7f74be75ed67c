/-! ===== rows of longs, of shifts that go below 0, of a product that wraps ===== -/
theorem qw_l (x : Int) : Int64.ofInt (qWl x) = Int64.ofInt x := by rw [qWl, Int64.ofInt_toInt]
theorem qw_i (x : Int) : Int32.ofInt (qWr x) = Int32.ofInt x := by rw [qWr, Int32.ofInt_toInt]
theorem qi_inl (x : Int64) : qIl x.toInt := ⟨by have := Int64.le_toInt x; omega, by have := Int64.toInt_lt x; omega⟩
theorem qw_sh : ∀ n, n < 64 → (((nI n).toInt64 &&& 63).toBitVec.smod 64).toNat = n := by decide +kernel
theorem qw_s : ∀ n, n < 32 → ((nI n &&& 31).toBitVec.smod 32).toNat = n := by decide +kernel
theorem qw_p (k : Nat) : (1 : Int) ≤ 2 ^ k := by
  have : (0 : Int) < 2 ^ k := Int.pow_pos (by decide)
  omega
theorem qw_bv (w : Nat) (x : Int) (k : Nat) : (BitVec.ofInt w x) <<< k = BitVec.ofInt w (x * 2 ^ k) := by
  rw [BitVec.shiftLeft_eq_mul_twoPow, BitVec.ofInt_mul]
  congr 1
  rw [show (2 : Int) ^ k = ((2 ^ k : Nat) : Int) by simp, BitVec.ofInt_natCast]
  apply BitVec.eq_of_toNat_eq
  rw [BitVec.toNat_twoPow, BitVec.toNat_ofNat]
theorem qw_shl {x : Int} {k : Nat} (hk : k < 64) : Int64.ofInt x <<< ((Int32.ofInt (k : Int)).toInt64 &&& 63) = Int64.ofInt (x * 2 ^ k) := by
  apply Int64.toBitVec_inj.mp
  have e := qw_sh k hk
  show (Int64.ofInt x).toBitVec <<< (((nI k).toInt64 &&& 63).toBitVec.smod 64) = _
  rw [BitVec.shiftLeft_eq', e]
  exact qw_bv 64 x k
theorem qw_shr {x : Int} {k : Nat} (hx : qIl x) (hk : k < 64) : Int64.ofInt x >>> ((Int32.ofInt (k : Int)).toInt64 &&& 63) = Int64.ofInt (x / 2 ^ k) := by
  apply Int64.toInt_inj.mp
  have e := qw_sh k hk
  have h1 : (Int64.ofInt x >>> ((nI k).toInt64 &&& 63)).toInt = ((Int64.ofInt x).toBitVec.sshiftRight (((nI k).toInt64 &&& 63).toBitVec.smod 64).toNat).toInt := rfl
  have p : (1 : Int) ≤ 2 ^ k := qw_p k
  have hq : qIl (x / 2 ^ k) := by
    refine ⟨?_, ?_⟩
    · refine (Int.le_ediv_iff_mul_le (by omega)).mpr (Int.le_trans ?_ hx.1)
      have : (9223372036854775808 : Int) * 1 ≤ 9223372036854775808 * 2 ^ k := Int.mul_le_mul_of_nonneg_left p (by decide)
      omega
    · refine Int.lt_add_one_iff.mp (Int.ediv_lt_of_lt_mul (by omega) (Int.lt_of_le_of_lt hx.2 ?_))
      have : (9223372036854775808 : Int) * 1 ≤ 9223372036854775808 * 2 ^ k := Int.mul_le_mul_of_nonneg_left p (by decide)
      omega
  rw [qi_lng hq]
  show (Int64.ofInt x >>> ((nI k).toInt64 &&& 63)).toInt = _
  rw [h1, e, BitVec.toInt_sshiftRight, Int.shiftRight_eq_div_pow]
  show (Int64.ofInt x).toInt / _ = _
  rw [qi_lng hx]
  simp
theorem qw_shri {x : Int} {k : Nat} (hx : qIn x) (hk : k < 32) : Int32.ofInt x >>> (Int32.ofInt (k : Int) &&& 31) = Int32.ofInt (x / 2 ^ k) := by
  apply Int32.toInt_inj.mp
  have e := qw_s k hk
  have h1 : (Int32.ofInt x >>> (nI k &&& 31)).toInt = ((Int32.ofInt x).toBitVec.sshiftRight ((nI k &&& 31).toBitVec.smod 32).toNat).toInt := rfl
  have p : (1 : Int) ≤ 2 ^ k := qw_p k
  have hq : qIn (x / 2 ^ k) := by
    refine ⟨?_, ?_⟩
    · refine (Int.le_ediv_iff_mul_le (by omega)).mpr (Int.le_trans ?_ hx.1)
      have : (2147483648 : Int) * 1 ≤ 2147483648 * 2 ^ k := Int.mul_le_mul_of_nonneg_left p (by decide)
      omega
    · refine Int.lt_add_one_iff.mp (Int.ediv_lt_of_lt_mul (by omega) (Int.lt_of_le_of_lt hx.2 ?_))
      have : (2147483648 : Int) * 1 ≤ 2147483648 * 2 ^ k := Int.mul_le_mul_of_nonneg_left p (by decide)
      omega
  rw [qi_int hq]
  show (Int32.ofInt x >>> (nI k &&& 31)).toInt = _
  rw [h1, e, BitVec.toInt_sshiftRight, Int.shiftRight_eq_div_pow]
  show (Int32.ofInt x).toInt / _ = _
  rw [qi_int hx]
  simp
theorem qw_in {x : Int} {k : Nat} (hx : qIn x) : qIn (x / 2 ^ k) := by
  have p : (1 : Int) ≤ 2 ^ k := qw_p k
  refine ⟨?_, ?_⟩
  · refine (Int.le_ediv_iff_mul_le (by omega)).mpr (Int.le_trans ?_ hx.1)
    have : (2147483648 : Int) * 1 ≤ 2147483648 * 2 ^ k := Int.mul_le_mul_of_nonneg_left p (by decide)
    omega
  · refine Int.lt_add_one_iff.mp (Int.ediv_lt_of_lt_mul (by omega) (Int.lt_of_le_of_lt hx.2 ?_))
    have : (2147483648 : Int) * 1 ≤ 2147483648 * 2 ^ k := Int.mul_le_mul_of_nonneg_left p (by decide)
    omega
theorem qw_il {x : Int} {k : Nat} (hx : qIl x) : qIl (x / 2 ^ k) := by
  have p : (1 : Int) ≤ 2 ^ k := qw_p k
  refine ⟨?_, ?_⟩
  · refine (Int.le_ediv_iff_mul_le (by omega)).mpr (Int.le_trans ?_ hx.1)
    have : (9223372036854775808 : Int) * 1 ≤ 9223372036854775808 * 2 ^ k := Int.mul_le_mul_of_nonneg_left p (by decide)
    omega
  · refine Int.lt_add_one_iff.mp (Int.ediv_lt_of_lt_mul (by omega) (Int.lt_of_le_of_lt hx.2 ?_))
    have : (9223372036854775808 : Int) * 1 ≤ 9223372036854775808 * 2 ^ k := Int.mul_le_mul_of_nonneg_left p (by decide)
    omega
theorem qw_us : ∀ n, n < 32 → ((nI n).toUInt32 &&& Int32.toUInt32 31).toNat = n := by decide +kernel
theorem qw_ushr {x : Int} {k : Nat} (hk0 : 0 < k) (hk : k < 32) : ((Int32.ofInt x).toUInt32 >>> ((Int32.ofInt (k : Int)).toUInt32 &&& Int32.toUInt32 31)).toInt32 = Int32.ofInt (x % 4294967296 / 2 ^ k) ∧ qIn (x % 4294967296 / 2 ^ k) := by
  have e := qw_us k hk
  have hx0 : (0 : Int) ≤ x % 4294967296 := Int.emod_nonneg _ (by decide)
  have hx1 : x % 4294967296 < 4294967296 := Int.emod_lt_of_pos _ (by decide)
  obtain ⟨y, hy⟩ := Int.eq_ofNat_of_zero_le hx0
  have hn : ((Int32.ofInt x).toUInt32).toNat = y := by
    show (BitVec.ofInt 32 x).toNat = y
    rw [BitVec.toNat_ofInt]
    have : x % ((2 ^ 32 : Nat) : Int) = (y : Int) := hy
    rw [this]; rfl
  have hy1 : y < 4294967296 := by omega
  have hd : y / 2 ^ k < 2147483648 := by
    have : 2 ^ 1 ≤ 2 ^ k := Nat.pow_le_pow_right (by decide) hk0
    have : y / 2 ^ k ≤ y / 2 := Nat.div_le_div_left (by simpa using this) (by decide)
    omega
  have e0 : x % 4294967296 / 2 ^ k = ((y / 2 ^ k : Nat) : Int) := by rw [hy]; simp
  refine ⟨?_, ?_⟩
  · rw [e0]
    apply Int32.toBitVec_inj.mp
    apply BitVec.eq_of_toNat_eq
    show ((Int32.ofInt x).toUInt32 >>> ((nI k).toUInt32 &&& Int32.toUInt32 31)).toNat = (BitVec.ofInt 32 ((y / 2 ^ k : Nat) : Int)).toNat
    rw [UInt32.toNat_shiftRight, e, hn, Nat.mod_eq_of_lt hk, Nat.shiftRight_eq_div_pow, BitVec.ofInt_natCast, BitVec.toNat_ofNat, Nat.mod_eq_of_lt (by omega)]
  · rw [e0]; exact ⟨Int.le_trans (by decide) (Int.natCast_nonneg _), Int.ofNat_le.mpr (Nat.le_of_lt_succ hd)⟩
theorem qw_l2i (x : Int) : (Int64.ofInt x).toInt32 = Int32.ofInt x := by
  apply Int32.toInt_inj.mp
  rw [Int64.toInt_toInt32, Int64.toInt_ofInt, Int32.toInt_ofInt]
  exact Int.bmod_bmod_of_dvd (by decide)
section QR
variable {d : Nat} {p : Program} {l : Launch} {e : Env} {R : Room} {s : State} {m : MethodId} {args : Array Value} {below : List Frame} {meth : Method} {c : Code} {Q : State → Prop}
variable {D : va_G} {cA : Nat → ClassId} {b : Nat} {A : Nat → Prop} {own : String} {cc : ByteArray} {nL c0 rt : Nat} {z0 : qZ} {ini : Bool} {hh : List (Nat × Nat × Nat × Nat)}
variable {ad : qA} {objs : List (Nat × Int)} {H : Heap} {locs : List Loc} {sl : Array Slot} {cells slots pc : Nat} {ls st : List qV} {σ : qS} {o : qO}
theorem qr_lload {j n : Nat} {i : Instr} (hi : (∃ k : Fin 4, i = .lload_n k ∧ k.val = j ∧ n = 1) ∨ (i = .lload j ∧ n = 2)) (X : qCx d p l R s m args meth c D cA A own cc nL ini hh) (S : qSI D cA b A s nL c0 z0 ad objs H locs sl cells slots ls st σ) (hdg : decode cc pc = .ok (i, n)) (h : qLdL ls j (pc + n) st σ = some o) (hK : qKn p l e R s m args below meth c Q D cA b A own cc nL c0 z0 rt o) :
    W p l e R s m args below meth c H locs cells slots Q (F0 m pc sl (st.map (qVl ad b))) := by
  obtain ⟨x, hx, rfl⟩ := qLdL_s h
  have K := hK ad objs H locs sl cells slots (S.stk (q_cons (S.2.2.2.2.2.1 _ (List.mem_of_getElem? hx.1)) S.2.2.2.2.2.2.1))
  have hl : sl[j]? = some (.val (.long (Int64.ofInt x))) := S.2.2.2.2.1.2.2.2 j _ hx.1 (qLk_l hx.2)
  rcases hi with ⟨k, rfl, hk, rfl⟩ | ⟨rfl, rfl⟩
  · exact lv_lload_n X.1 X.2.1 hdg hk hl K
  · exact lv_lload X.1 X.2.1 hdg hl K
theorem qr_lstore {j n : Nat} {i : Instr} {x : Int} {r : List qV} (hi : (∃ k : Fin 4, i = .lstore_n k ∧ k.val = j ∧ n = 1) ∨ (i = .lstore j ∧ n = 2)) (X : qCx d p l R s m args meth c D cA A own cc nL ini hh) (S : qSI D cA b A s nL c0 z0 ad objs H locs sl cells slots ls (.inr (.inr (.inl x)) :: r) σ) (hdg : decode cc pc = .ok (i, n)) (h : qStoL ls j (pc + n) x r σ = some o) (hK : qKn p l e R s m args below meth c Q D cA b A own cc nL c0 z0 rt o) :
    W p l e R s m args below meth c H locs cells slots Q (F0 m pc sl (((.inr (.inr (.inl x)) : qV) :: r).map (qVl ad b))) := by
  obtain ⟨hj, rfl⟩ := qStoL_s h
  obtain ⟨h1, h2⟩ := q_top S.2.2.2.2.2.2.1
  have hn : j + 1 < nL := by rw [← S.2.2.2.2.1.2.2.1]; exact hj
  have K : ∀ sl', lv_has sl' nL ((j, Value.long (Int64.ofInt x)) :: (qLv ad b ls).filter (fun q => !(q.1 == j) && (!(q.1 == j + 1) && !(q.1 + 1 == j && q.2.category == 2)))) → W p l e R s m args below meth c H locs cells slots Q (F0 m (pc + n) sl' (r.map (qVl ad b))) := fun sl' h' => hK ad objs H locs sl' cells slots (S.setL h' h1 h2)
  rcases hi with ⟨k, rfl, hk, rfl⟩ | ⟨rfl, rfl⟩
  · exact lv_lstore_n X.1 X.2.1 hdg hk S.2.2.2.2.1.has hn rfl K
  · exact lv_lstore X.1 X.2.1 hdg S.2.2.2.2.1.has hn rfl K
theorem qr_ldc2 {a x : Nat} (ha : a < 2147483648) (hw : Cond.constantLong own x (Int64.ofNat a) ∈ qW) (X : qCx d p l R s m args meth c D cA A own cc nL ini hh) (S : qSI D cA b A s nL c0 z0 ad objs H locs sl cells slots ls st σ) (hdg : decode cc pc = .ok (.ldc2_w x, 3)) (hK : qKn p l e R s m args below meth c Q D cA b A own cc nL c0 z0 rt (.inl (pc + 3, ls, .inr (.inr (.inl (a : Int))) :: st, σ))) :
    W p l e R s m args below meth c H locs cells slots Q (F0 m pc sl (st.map (qVl ad b))) := by
  have hS : ∀ u ∈ (.inr (.inr (.inl (a : Int))) : qV) :: st, qVo σ u := q_cons (v := .inr (.inr (.inl (a : Int)))) (show qIl (a : Int) from ⟨by omega, by omega⟩) S.2.2.2.2.2.2.1
  have K := hK ad objs H locs sl cells slots (S.stk hS)
  obtain ⟨hx, hb, hml, hown, hts, -⟩ := id X
  exact lv_ldc2 hx hb hown (hts _ hw) hdg K
theorem qr_shlL {x y : Int} {r : List qV} (X : qCx d p l R s m args meth c D cA A own cc nL ini hh) (S : qSI D cA b A s nL c0 z0 ad objs H locs sl cells slots ls (.inl y :: .inr (.inr (.inl x)) :: r) σ) (hdg : decode cc pc = .ok (.lshl, 1)) (h : qChk (0 ≤ y ∧ y < 64) (qNx (pc + 1) ls (.inr (.inr (.inl (qWl (x * 2 ^ y.toNat)))) :: r) σ) = some o) (hK : qKn p l e R s m args below meth c Q D cA b A own cc nL c0 z0 rt o) :
    W p l e R s m args below meth c H locs cells slots Q (F0 m pc sl (((.inl y : qV) :: .inr (.inr (.inl x)) :: r).map (qVl ad b))) := by
  obtain ⟨⟨g1, g2⟩, h⟩ := qChk_s h
  cases qNx_s h
  obtain ⟨h1, h2⟩ := q_top S.2.2.2.2.2.2.1
  obtain ⟨h3, h4⟩ := q_top h2
  obtain ⟨k, rfl⟩ := Int.eq_ofNat_of_zero_le g1
  have K := hK ad objs H locs sl cells slots (S.stk (q_cons (v := .inr (.inr (.inl (qWl (x * 2 ^ (k : Int).toNat))))) (qi_inl _) h4))
  refine lv_lshl X.1 X.2.1 hdg (v := Int64.ofInt (qWl (x * 2 ^ (k : Int).toNat))) ?_ K
  rw [qw_l]
  exact qw_shl (by omega)
theorem qr_shrL {x y : Int} {r : List qV} (X : qCx d p l R s m args meth c D cA A own cc nL ini hh) (S : qSI D cA b A s nL c0 z0 ad objs H locs sl cells slots ls (.inl y :: .inr (.inr (.inl x)) :: r) σ) (hdg : decode cc pc = .ok (.lshr, 1)) (h : qChk (0 ≤ y ∧ y < 64) (qNx (pc + 1) ls (.inr (.inr (.inl (x / 2 ^ y.toNat))) :: r) σ) = some o) (hK : qKn p l e R s m args below meth c Q D cA b A own cc nL c0 z0 rt o) :
    W p l e R s m args below meth c H locs cells slots Q (F0 m pc sl (((.inl y : qV) :: .inr (.inr (.inl x)) :: r).map (qVl ad b))) := by
  obtain ⟨⟨g1, g2⟩, h⟩ := qChk_s h
  cases qNx_s h
  obtain ⟨h1, h2⟩ := q_top S.2.2.2.2.2.2.1
  obtain ⟨h3, h4⟩ := q_top h2
  obtain ⟨k, rfl⟩ := Int.eq_ofNat_of_zero_le g1
  have K := hK ad objs H locs sl cells slots (S.stk (q_cons (v := .inr (.inr (.inl (x / 2 ^ (k : Int).toNat)))) (show qIl _ from qw_il h3) h4))
  exact lv_lshr X.1 X.2.1 hdg (v := Int64.ofInt (x / 2 ^ (k : Int).toNat)) (qw_shr h3 (by omega)) K
theorem qr_andL {x y z : Int} {i : Instr} {r : List qV} (hi : (i = .land ∧ z = qAndL x y) ∨ (i = .lor ∧ z = qOrL x y)) (X : qCx d p l R s m args meth c D cA A own cc nL ini hh) (S : qSI D cA b A s nL c0 z0 ad objs H locs sl cells slots ls (.inr (.inr (.inl y)) :: .inr (.inr (.inl x)) :: r) σ) (hdg : decode cc pc = .ok (i, 1)) (hK : qKn p l e R s m args below meth c Q D cA b A own cc nL c0 z0 rt (.inl (pc + 1, ls, .inr (.inr (.inl z)) :: r, σ))) :
    W p l e R s m args below meth c H locs cells slots Q (F0 m pc sl (((.inr (.inr (.inl y)) : qV) :: .inr (.inr (.inl x)) :: r).map (qVl ad b))) := by
  obtain ⟨h1, h2⟩ := q_top S.2.2.2.2.2.2.1
  obtain ⟨h3, h4⟩ := q_top h2
  rcases hi with ⟨rfl, rfl⟩ | ⟨rfl, rfl⟩
  · have K := hK ad objs H locs sl cells slots (S.stk (q_cons (v := .inr (.inr (.inl (qAndL x y)))) (qi_inl _) h4))
    refine lv_land X.1 X.2.1 hdg ?_
    have e : Int64.ofInt x &&& Int64.ofInt y = Int64.ofInt (qAndL x y) := by rw [qAndL, Int64.ofInt_toInt]
    rw [e]; exact K
  · have K := hK ad objs H locs sl cells slots (S.stk (q_cons (v := .inr (.inr (.inl (qOrL x y)))) (qi_inl _) h4))
    refine lv_lor X.1 X.2.1 hdg ?_
    have e : Int64.ofInt x ||| Int64.ofInt y = Int64.ofInt (qOrL x y) := by rw [qOrL, Int64.ofInt_toInt]
    rw [e]; exact K
theorem qr_l2i {x : Int} {r : List qV} (X : qCx d p l R s m args meth c D cA A own cc nL ini hh) (S : qSI D cA b A s nL c0 z0 ad objs H locs sl cells slots ls (.inr (.inr (.inl x)) :: r) σ) (hdg : decode cc pc = .ok (.l2i, 1)) (hK : qKn p l e R s m args below meth c Q D cA b A own cc nL c0 z0 rt (.inl (pc + 1, ls, .inl (qWr x) :: r, σ))) :
    W p l e R s m args below meth c H locs cells slots Q (F0 m pc sl (((.inr (.inr (.inl x)) : qV) :: r).map (qVl ad b))) := by
  obtain ⟨h1, h2⟩ := q_top S.2.2.2.2.2.2.1
  exact lv_l2i X.1 X.2.1 hdg (by rw [qw_i]; exact qw_l2i x) (hK ad objs H locs sl cells slots (S.stk (q_cons (v := .inl (qWr x)) (qi_in _) h2)))
theorem qr_iushr {x y : Int} {r : List qV} (X : qCx d p l R s m args meth c D cA A own cc nL ini hh) (S : qSI D cA b A s nL c0 z0 ad objs H locs sl cells slots ls (.inl y :: .inl x :: r) σ) (hdg : decode cc pc = .ok (.iushr, 1)) (h : qChk (0 < y ∧ y < 32) (qNx (pc + 1) ls (.inl (x % 4294967296 / 2 ^ y.toNat) :: r) σ) = some o) (hK : qKn p l e R s m args below meth c Q D cA b A own cc nL c0 z0 rt o) :
    W p l e R s m args below meth c H locs cells slots Q (F0 m pc sl (((.inl y : qV) :: .inl x :: r).map (qVl ad b))) := by
  obtain ⟨⟨g1, g2⟩, h⟩ := qChk_s h
  cases qNx_s h
  obtain ⟨h1, h2⟩ := q_top S.2.2.2.2.2.2.1
  obtain ⟨h3, h4⟩ := q_top h2
  obtain ⟨k, rfl⟩ := Int.eq_ofNat_of_zero_le (Int.le_of_lt g1)
  have w := qw_ushr (x := x) (k := k) (by omega) (by omega)
  have K := hK ad objs H locs sl cells slots (S.stk (q_cons (v := .inl (x % 4294967296 / 2 ^ (k : Int).toNat)) w.2 h4))
  exact lv_iushr X.1 X.2.1 hdg (v := Int32.ofInt (x % 4294967296 / 2 ^ (k : Int).toNat)) w.1 K
theorem qr_shrN {x y : Int} {r : List qV} (X : qCx d p l R s m args meth c D cA A own cc nL ini hh) (S : qSI D cA b A s nL c0 z0 ad objs H locs sl cells slots ls (.inl y :: .inl x :: r) σ) (hdg : decode cc pc = .ok (.ishr, 1)) (h : qChk (0 ≤ y ∧ y < 31) (qNx (pc + 1) ls (.inl (x / 2 ^ y.toNat) :: r) σ) = some o) (hK : qKn p l e R s m args below meth c Q D cA b A own cc nL c0 z0 rt o) :
    W p l e R s m args below meth c H locs cells slots Q (F0 m pc sl (((.inl y : qV) :: .inl x :: r).map (qVl ad b))) := by
  obtain ⟨⟨g1, g2⟩, h⟩ := qChk_s h
  cases qNx_s h
  obtain ⟨h1, h2⟩ := q_top S.2.2.2.2.2.2.1
  obtain ⟨h3, h4⟩ := q_top h2
  obtain ⟨k, rfl⟩ := Int.eq_ofNat_of_zero_le g1
  have K := hK ad objs H locs sl cells slots (S.stk (q_cons (v := .inl (x / 2 ^ (k : Int).toNat)) (show qIn _ from qw_in h3) h4))
  refine lv_ishr X.1 X.2.1 hdg ?_
  rw [qw_shri h3 (by omega)]
  exact K
theorem qr_mulW {x y : Int} {r : List qV} (X : qCx d p l R s m args meth c D cA A own cc nL ini hh) (S : qSI D cA b A s nL c0 z0 ad objs H locs sl cells slots ls (.inl y :: .inl x :: r) σ) (hdg : decode cc pc = .ok (.imul, 1)) (hK : qKn p l e R s m args below meth c Q D cA b A own cc nL c0 z0 rt (.inl (pc + 1, ls, .inl (qWr (x * y)) :: r, σ))) :
    W p l e R s m args below meth c H locs cells slots Q (F0 m pc sl (((.inl y : qV) :: .inl x :: r).map (qVl ad b))) := by
  obtain ⟨h1, h2⟩ := q_top S.2.2.2.2.2.2.1
  obtain ⟨h3, h4⟩ := q_top h2
  have K := hK ad objs H locs sl cells slots (S.stk (q_cons (v := .inl (qWr (x * y))) (qi_in _) h4))
  refine lv_imul X.1 X.2.1 hdg ?_
  rw [qi_mul, ← qw_i]; exact K
theorem qr_pop {x : Int} {r : List qV} (X : qCx d p l R s m args meth c D cA A own cc nL ini hh) (S : qSI D cA b A s nL c0 z0 ad objs H locs sl cells slots ls (.inl x :: r) σ) (hdg : decode cc pc = .ok (.pop, 1)) (hK : qKn p l e R s m args below meth c Q D cA b A own cc nL c0 z0 rt (.inl (pc + 1, ls, r, σ))) :
    W p l e R s m args below meth c H locs cells slots Q (F0 m pc sl (((.inl x : qV) :: r).map (qVl ad b))) := by
  obtain ⟨h1, h2⟩ := q_top S.2.2.2.2.2.2.1
  exact lv_pop X.1 X.2.1 hdg rfl (hK ad objs H locs sl cells slots (S.stk h2))
end QR
