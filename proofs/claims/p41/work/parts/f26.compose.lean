/-! ===== compose ===== -/
def y_C (M : qM) : qM := fun k m s => bif (Nat.ble k 63 && !Nat.beq k 11) then M k m s else 0
def y_P (M : qM) : qM := fun k m s => bif ((Nat.ble 64 k && Nat.ble k 137) || Nat.beq k 11) then M k m s else 0
theorem y_ble {a b : Nat} (h : ¬ a ≤ b) : Nat.ble a b = false := by
  cases e : Nat.ble a b with
  | false => rfl
  | true => exact absurd (Nat.le_of_ble_eq_true e) h
theorem y_beq {a b : Nat} (h : a ≠ b) : Nat.beq a b = false := by
  cases e : Nat.beq a b with
  | false => rfl
  | true => exact absurd (Nat.eq_of_beq_eq_true e) h
theorem y_C_eq {M N : qM} (h : ∀ (k : Nat) (m s : Int), k ≤ 63 → k ≠ 11 → N k m s = M k m s) : y_C N = y_C M := by
  funext k m s
  unfold y_C
  by_cases q : k ≤ 63
  · by_cases q2 : k = 11
    · subst q2; rfl
    · rw [h k m s q q2]
  · rw [y_ble q]; rfl
theorem y_P_eq {M N : qM} (h : ∀ (k : Nat) (m s : Int), (64 ≤ k ∧ k ≤ 137) ∨ k = 11 → N k m s = M k m s) : y_P N = y_P M := by
  funext k m s
  unfold y_P
  by_cases q : (64 ≤ k ∧ k ≤ 137) ∨ k = 11
  · rw [h k m s q]
  · have e : ((Nat.ble 64 k && Nat.ble k 137) || Nat.beq k 11) = false := by
      rw [y_beq (a := k) (b := 11) (by omega)]
      by_cases z : 64 ≤ k
      · rw [y_ble (a := k) (b := 137) (by omega)]; cases Nat.ble 64 k <;> rfl
      · rw [y_ble (a := 64) (b := k) z]; rfl
    rw [e]; rfl
theorem y_cgC {P : qM → Prop} (hP : ∀ M, P (y_C M) = P M) {M N : qM} (h : y_C N = y_C M) (p : P M) : P N := by
  rw [← hP N, h, hP M]; exact p
theorem y_cgP {P : qM → Prop} (hP : ∀ M, P (y_P M) = P M) {M N : qM} (h : y_P N = y_P M) (p : P M) : P N := by
  rw [← hP N, h, hP M]; exact p
theorem c_edn_fr {B : pT} {R : c_R} {tot e : Int} {M M' : qM} (h : c_edn B R tot e M) (h1 : ∀ (k : Nat) (c s : Int), 0 ≤ c → c < 3 → (k = 9 ∨ (48 ≤ k ∧ k ≤ 61)) → M' k (1 + 3 * e + c) s = M k (1 + 3 * e + c) s) (h2 : ∀ (k : Nat) (c s : Int), 0 ≤ c → c < 3 → (k = 8 ∨ (43 ≤ k ∧ k ≤ 47)) → M' k (0 + 3 * e + c) s = M k (0 + 3 * e + c) s) (h3 : ∀ (k : Nat) (s : Int), (k = 3 ∨ (23 ≤ k ∧ k ≤ 26)) → M' k e s = M k e s) : c_edn B R tot e M' := by
  obtain ⟨a, b, c, d, g, i⟩ := h
  refine ⟨fun c c0 c1 => c_ch_fr (a c c0 c1) (fun k s q => h1 k c s c0 c1 q) (fun k s q => h2 k c s c0 c1 q), ?_, fun y y0 y1 t => ?_, ?_, fun x x0 x1 t => ?_, ?_⟩
  · rw [h3 3 _ (Or.inl rfl)]; exact b
  · rw [h3 24 _ (by omega), h3 25 _ (by omega), h3 26 _ (by omega)]; exact c y y0 y1 t
  · rw [h3 3 _ (Or.inl rfl), h3 3 _ (Or.inl rfl), h3 3 _ (Or.inl rfl), h3 3 _ (Or.inl rfl)]; exact d
  · rw [h3 23 _ (by omega)]; exact g x x0 x1 t
  · rw [h3 3 _ (Or.inl rfl)]; exact i
theorem c_rg_cg2 {B : pT} {at' wd wd2 W : Int → Int} (h8 : B 8 0 ≠ 0) (h1 : ∀ x, 0 ≤ x → x < 30 → x % 10 < B 0 (x / 10) → B 1 x = 0 → at' x ≠ 0 → ∀ j, 0 ≤ j → j < B 3 x → wd2 (20 * x + j) = wd (20 * x + j)) (x : Int) (x0 : 0 ≤ x) (x1 : x < 30) : c_rg B at' wd2 W x = c_rg B at' wd W x := by
  unfold c_rg
  by_cases q : x % 10 < B 0 (x / 10)
  · rw [if_pos q, if_pos q]
    by_cases q1 : B 1 x = 0
    · have e : (at' x = B 8 0 ∧ ∀ j, 0 ≤ j → j < B 3 x → wd2 (20 * x + j) = B 6 (20 * x + j) + W (20 * x + j)) ↔ (at' x = B 8 0 ∧ ∀ j, 0 ≤ j → j < B 3 x → wd (20 * x + j) = B 6 (20 * x + j) + W (20 * x + j)) :=
        ⟨fun z => ⟨z.1, fun j a b => by rw [← h1 x x0 x1 q q1 (by rw [z.1]; exact h8) j a b]; exact z.2 j a b⟩, fun z => ⟨z.1, fun j a b => by rw [h1 x x0 x1 q q1 (by rw [z.1]; exact h8) j a b]; exact z.2 j a b⟩⟩
      by_cases q2 : at' x = B 8 0 ∧ ∀ j, 0 ≤ j → j < B 3 x → wd (20 * x + j) = B 6 (20 * x + j) + W (20 * x + j)
      · rw [if_neg (fun z => z.2 (e.mpr q2)), if_neg (fun z => z.2 q2)]
      · rw [if_pos ⟨q1, fun z => q2 (e.mp z)⟩, if_pos ⟨q1, q2⟩]
    · rw [if_neg (fun z => q1 z.1), if_neg (fun z => q1 z.1)]
  · rw [if_neg q, if_neg q]
theorem c_cnt_wd {B : pT} {at' wd wd2 : Int → Int} {Rq : Int → c_R} {n : Int} (hn : 0 ≤ n) (h8 : B 8 0 ≠ 0) (h1 : ∀ x, 0 ≤ x → x < 30 → x % 10 < B 0 (x / 10) → B 1 x = 0 → at' x ≠ 0 → ∀ j, 0 ≤ j → j < B 3 x → wd2 (20 * x + j) = wd (20 * x + j)) : c_cnt B at' wd2 Rq n = c_cnt B at' wd Rq n := by
  refine p_sum_cg hn (fun t t0 t1 => ?_)
  show p_sum (c_rg B (c_at B at' t) (c_wd B wd2 Rq t) (c_Wq B Rq t)) 30 = p_sum (c_rg B (c_at B at' t) (c_wd B wd Rq t) (c_Wq B Rq t)) 30
  by_cases e : t ≤ 0
  · have e1 : c_wd B wd2 Rq t = wd2 := by unfold c_wd; rw [if_pos e]
    have e2 : c_wd B wd Rq t = wd := by unfold c_wd; rw [if_pos e]
    have e3 : c_at B at' t = at' := by unfold c_at; rw [if_pos e]
    rw [e1, e2, e3]
    exact p_sum_cg (by decide) (fun x x0 x1 => c_rg_cg2 h8 h1 x x0 x1)
  · have e1 : c_wd B wd2 Rq t = c_wd B wd Rq t := by unfold c_wd; rw [if_neg e, if_neg e]
    rw [e1]
theorem c_comp_wd {B : pT} {ob : Prop} {Bo : pT} {Ro R : c_R} {p0 res set' cnt : Int} {at' wd wd2 W : Int → Int} (h8 : B 8 0 ≠ 0) (h1 : ∀ x, 0 ≤ x → x < 30 → x % 10 < B 0 (x / 10) → B 1 x = 0 → at' x ≠ 0 → ∀ j, 0 ≤ j → j < B 3 x → wd2 (20 * x + j) = wd (20 * x + j)) (h : c_comp B ob Bo Ro p0 at' wd W R res set' cnt) : c_comp B ob Bo Ro p0 at' wd2 W R res set' cnt := by
  rcases h with ⟨Rq, r, hr, a1, a2, a3, a4, a5, a6, a7, a8⟩ | ⟨Rq, n, v, hn, a1, a2, a3, a4, a5, a6, a7, a8, a9, a10⟩
  · exact Or.inl ⟨Rq, r, hr, a1, a2, a3, a4, a5, a6, a7, by rw [c_cnt_wd (wd := wd) (by omega) h8 h1]; exact a8⟩
  · have e1 : c_wd B wd2 Rq n = c_wd B wd Rq n := by unfold c_wd; rw [if_neg (by omega), if_neg (by omega)]
    exact Or.inr ⟨Rq, n, v, hn, a1, a2, a3, a4, a5, a6, a7, a8, a9, by rw [c_cnt_wd (wd := wd) (by omega) h8 h1, e1]; exact a10⟩
/-- the relation behind a compose -/
theorem y_comp_rl {n en : Int} {B : pT} {W : Int → Int} {M M' N : qM} (hr : c_rl n B M) (hn : n < 512) (hen : en = 0 ∨ en = 1) (h8 : M' 10 0 8 = en + 1) (fr : fr104 en M M') (hp : M 10 0 9 = 0 ∨ M 10 0 9 ≠ en + 1) (st : c_bd M' ∧ (c_z 0 M' ∧ c_z 1 M') ∧ c_brk B M' ∧ c_35 B M') (OC : ∀ (k : Nat) (m s : Int), k ≤ 63 → k ≠ 11 → N k m s = M' k m s) (OP : ∀ (k : Nat) (m s : Int), ((64 ≤ k ∧ k ≤ 75) ∨ (118 ≤ k ∧ k ≤ 135) ∨ (k = 11 ∧ ¬ ((51 ≤ s ∧ s ≤ 58) ∨ s = 0 ∨ (20 ≤ s ∧ s ≤ 23) ∨ s = 71))) → N k m s = M k m s) (mi : m_inv B N ∧ m_lim N) (bw : c_brkW B W M') (bw2 : m_brkW B W N) (md : c_md B N) : c_rl (n + 1) B N := by
  obtain ⟨⟨h0, hB, hB2⟩, ⟨a1, a2, a3⟩, ⟨b1, b2, b3, b4⟩, h4, h5, h6, h7⟩ := hr
  have xC : y_C N = y_C M' := y_C_eq OC
  have f : ∀ (k : Nat) (m s : Int), k ≤ 63 → k ≠ 11 → (k = 63 ∨ k = 1 ∨ k = 32 ∨ k = 33 ∨ k = 34 ∨ (k = 5 ∧ s ≤ 3) ∨ (k = 10 ∧ s ≠ 8 ∧ s ≠ 13) ∨ ((k = 3 ∨ (23 ≤ k ∧ k ≤ 26)) ∧ m ≠ en) ∨ ((k = 9 ∨ (48 ≤ k ∧ k ≤ 61)) ∧ ¬ (1 + 3 * en ≤ m ∧ m < 1 + 3 * en + 3)) ∨ ((k = 8 ∨ (43 ≤ k ∧ k ≤ 47)) ∧ ¬ (0 + 3 * en ≤ m ∧ m < 0 + 3 * en + 3))) → N k m s = M k m s := fun k m s q q2 q3 => by
    rw [OC k m s q q2]
    exact fr k m s (Or.inr (Or.inr q3))
  refine ⟨⟨⟨by omega, by omega⟩, hB, hB2⟩, ⟨⟨fun c c0 c1 => ?_, fun x x0 x1 => ?_, fun y y0 y1 => ?_⟩, ⟨fun c c0 c1 => ?_, fun x x0 x1 => ?_, fun y y0 y1 => ?_, ?_⟩, ?_⟩, ⟨⟨?_, ?_, fun w w0 w1 => ?_⟩, fun t t0 t1 => ?_, ⟨⟨fun it i => ?_, fun it => ?_⟩, fun x => ?_, fun i => ?_⟩, ⟨en, ?_, hen⟩⟩, ⟨?_, fun x x0 x1 => ?_, fun x x0 x1 => ?_⟩, ⟨y_cgC (P := fun M => c_z 0 M ∧ c_z 1 M) (fun _ => rfl) xC st.2.1, y_cgC (P := c_bd) (fun _ => rfl) xC st.1, y_cgC (P := c_brk B) (fun _ => rfl) xC st.2.2.1, y_cgC (P := c_35 B) (fun _ => rfl) xC st.2.2.2, mi.1, mi.2, fun x x0 x1 r q => ?_⟩, ?_, md⟩
  · rw [f 1 _ _ (by omega) (by omega) (by omega)]; exact a1.1 c c0 c1
  · rw [f 5 _ 0 (by omega) (by omega) (by omega), f 5 _ 1 (by omega) (by omega) (by omega), f 5 _ 2 (by omega) (by omega) (by omega), f 5 _ 3 (by omega) (by omega) (by omega)]; exact a1.2.1 x x0 x1
  · rw [f 33 _ _ (by omega) (by omega) (by omega), f 34 _ _ (by omega) (by omega) (by omega), f 32 _ _ (by omega) (by omega) (by omega)]; exact a1.2.2 y y0 y1
  · rw [OP 64 _ _ (by omega)]; exact a2.1 c c0 c1
  · rw [OP 65 _ _ (by omega), OP 66 _ _ (by omega), OP 67 _ _ (by omega)]; exact a2.2.1 x x0 x1
  · rw [OP 70 _ _ (by omega), OP 71 _ _ (by omega), OP 69 _ _ (by omega)]; exact a2.2.2.1 y y0 y1
  · rw [OP 11 _ 1 (by omega), OP 11 _ 2 (by omega), OP 11 _ 3 (by omega)]; exact a2.2.2.2
  · show N 10 0 10 = _ ∧ N 10 0 11 = _ ∧ N 10 0 12 = _
    rw [f 10 _ 10 (by omega) (by omega) (by omega), f 10 _ 11 (by omega) (by omega) (by omega), f 10 _ 12 (by omega) (by omega) (by omega)]; exact a3
  · rw [f 5 _ 2 (by omega) (by omega) (by omega)]; exact b1.1
  · rw [OP 11 _ 12 (by omega), f 5 _ 2 (by omega) (by omega) (by omega)]; exact b1.2.1
  · rw [f 5 _ 2 (by omega) (by omega) (by omega)] at w1
    rw [OP 72 _ _ (by omega), OP 73 _ _ (by omega), OP 74 _ _ (by omega), f 32 _ _ (by omega) (by omega) (by omega), f 33 _ _ (by omega) (by omega) (by omega), f 34 _ _ (by omega) (by omega) (by omega)]; exact b1.2.2 w w0 w1
  · rw [f 63 _ _ (by omega) (by omega) (by omega), OP 75 _ _ (by omega)]; exact b2 t t0 t1
  · rw [f 32 _ _ (by omega) (by omega) (by omega)]; exact b3.1.1 it i
  · rw [f 5 _ 2 (by omega) (by omega) (by omega)]; exact b3.1.2 it
  · rw [OP 67 _ _ (by omega)]; exact b3.2.1 x
  · rw [OP 69 _ _ (by omega)]; exact b3.2.2 i
  · rw [OC 10 _ _ (by omega) (by omega)]; exact h8
  · rw [f 10 _ 14 (by omega) (by omega) (by omega)]; have := h4.1; omega
  · rw [f 10 _ 14 (by omega) (by omega) (by omega)]; exact h4.2.1 x x0 x1
  · rw [OP 68 _ _ (by omega)]; have := h4.2.2 x x0 x1; omega
  · have z1 := bw x x0 x1 r q
    have z2 := bw2 x x0 x1 r q
    rw [OC 5 _ _ (by omega) (by omega), z1.1, z2.1]
    exact ⟨rfl, fun _ j j0 j1 => by rw [OC 36 _ _ (by omega) (by omega), z1.2 j j0 j1, z2.2 j j0 j1]⟩
  · have e9 : N 10 0 9 = M 10 0 9 := f 10 _ 9 (by omega) (by omega) (by omega)
    rcases h6 with h6 | ⟨Bo, Wo, Ro, Lo, e', N0, q1, q2, ⟨r1, r2, r3, r4, r5, r6, r7, r8⟩, q4⟩
    · exact Or.inl ⟨by rw [e9]; exact h6.1, by rw [OP 11 _ 73 (by omega)]; exact h6.2⟩
    · have ne : e' ≠ en := by omega
      refine Or.inr ⟨Bo, Wo, Ro, Lo, e', N0, by rw [e9]; exact q1, q2, ⟨r1, r2, r3, c_edn_fr r4 (fun k c s c0 c1 q => f k _ s (by omega) (by omega) ?_) (fun k c s c0 c1 q => f k _ s (by omega) (by omega) ?_) (fun k s q => f k _ s (by omega) (by omega) ?_), c_cpy_fr3 (fun k s q => OP k 0 s (by omega)) r5, r6, r7, fun x x0 x1 t => ?_⟩, fun x x0 x1 t => ?_⟩
      · rcases hen with z | z <;> rcases q2 with z2 | z2 <;> omega
      · rcases hen with z | z <;> rcases q2 with z2 | z2 <;> omega
      · omega
      · rw [OP 68 _ _ (by omega), OP 120 _ _ (by omega)]; exact r8 x x0 x1 t
      · rw [OP 68 _ _ (by omega), OP 120 _ _ (by omega), f 10 _ 14 (by omega) (by omega) (by omega)]; exact q4 x x0 x1 t
