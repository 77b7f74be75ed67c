/-! ===== compose ===== -/
def y_C (M : qM) : qM := fun k m s => bif (Nat.ble k 63 && !Nat.beq k 11) then M k m s else 0
def y_P (M : qM) : qM := fun k m s => bif ((Nat.ble 64 k && Nat.ble k 137) || Nat.beq k 11) then M k m s else 0
theorem y_ble {a b : Nat} (h : ¬ a ≤ b) : Nat.ble a b = false := by
  cases e : Nat.ble a b with
  | false => rfl
  | true => exact absurd (Nat.le_of_ble_eq_true e) h
theorem y_beq {a b : Nat} (h : a ≠ b) : Nat.beq a b = false := by
  cases e : Nat.beq a b with
  | false => rfl
  | true => exact absurd (Nat.eq_of_beq_eq_true e) h
theorem y_C_eq {M N : qM} (h : ∀ (k : Nat) (m s : Int), k ≤ 63 → k ≠ 11 → N k m s = M k m s) : y_C N = y_C M := by
  funext k m s
  unfold y_C
  by_cases q : k ≤ 63
  · by_cases q2 : k = 11
    · subst q2; rfl
    · rw [h k m s q q2]
  · rw [y_ble q]; rfl
theorem y_P_eq {M N : qM} (h : ∀ (k : Nat) (m s : Int), (64 ≤ k ∧ k ≤ 137) ∨ k = 11 → N k m s = M k m s) : y_P N = y_P M := by
  funext k m s
  unfold y_P
  by_cases q : (64 ≤ k ∧ k ≤ 137) ∨ k = 11
  · rw [h k m s q]
  · have e : ((Nat.ble 64 k && Nat.ble k 137) || Nat.beq k 11) = false := by
      rw [y_beq (a := k) (b := 11) (by omega)]
      by_cases z : 64 ≤ k
      · rw [y_ble (a := k) (b := 137) (by omega)]; cases Nat.ble 64 k <;> rfl
      · rw [y_ble (a := 64) (b := k) z]; rfl
    rw [e]; rfl
theorem y_cgC {P : qM → Prop} (hP : ∀ M, P (y_C M) = P M) {M N : qM} (h : y_C N = y_C M) (p : P M) : P N := by
  rw [← hP N, h, hP M]; exact p
theorem y_cgP {P : qM → Prop} (hP : ∀ M, P (y_P M) = P M) {M N : qM} (h : y_P N = y_P M) (p : P M) : P N := by
  rw [← hP N, h, hP M]; exact p
theorem c_edn_fr {B : pT} {R : c_R} {tot e : Int} {M M' : qM} (h : c_edn B R tot e M) (h1 : ∀ (k : Nat) (c s : Int), 0 ≤ c → c < 3 → (k = 9 ∨ (48 ≤ k ∧ k ≤ 61)) → M' k (1 + 3 * e + c) s = M k (1 + 3 * e + c) s) (h2 : ∀ (k : Nat) (c s : Int), 0 ≤ c → c < 3 → (k = 8 ∨ (43 ≤ k ∧ k ≤ 47)) → M' k (0 + 3 * e + c) s = M k (0 + 3 * e + c) s) (h3 : ∀ (k : Nat) (s : Int), (k = 3 ∨ (23 ≤ k ∧ k ≤ 26)) → M' k e s = M k e s) : c_edn B R tot e M' := by
  obtain ⟨a, b, c, d, g, i⟩ := h
  refine ⟨fun c c0 c1 => c_ch_fr (a c c0 c1) (fun k s q => h1 k c s c0 c1 q) (fun k s q => h2 k c s c0 c1 q), ?_, fun y y0 y1 t => ?_, ?_, fun x x0 x1 t => ?_, ?_⟩
  · rw [h3 3 _ (Or.inl rfl)]; exact b
  · rw [h3 24 _ (by omega), h3 25 _ (by omega), h3 26 _ (by omega)]; exact c y y0 y1 t
  · rw [h3 3 _ (Or.inl rfl), h3 3 _ (Or.inl rfl), h3 3 _ (Or.inl rfl), h3 3 _ (Or.inl rfl)]; exact d
  · rw [h3 23 _ (by omega)]; exact g x x0 x1 t
  · rw [h3 3 _ (Or.inl rfl)]; exact i
theorem c_rg_cg2 {B : pT} {at' wd wd2 W : Int → Int} (h8 : B 8 0 ≠ 0) (h1 : ∀ x, 0 ≤ x → x < 30 → x % 10 < B 0 (x / 10) → B 1 x = 0 → at' x ≠ 0 → ∀ j, 0 ≤ j → j < B 3 x → wd2 (20 * x + j) = wd (20 * x + j)) (x : Int) (x0 : 0 ≤ x) (x1 : x < 30) : c_rg B at' wd2 W x = c_rg B at' wd W x := by
  unfold c_rg
  by_cases q : x % 10 < B 0 (x / 10)
  · rw [if_pos q, if_pos q]
    by_cases q1 : B 1 x = 0
    · have e : (at' x = B 8 0 ∧ ∀ j, 0 ≤ j → j < B 3 x → wd2 (20 * x + j) = B 6 (20 * x + j) + W (20 * x + j)) ↔ (at' x = B 8 0 ∧ ∀ j, 0 ≤ j → j < B 3 x → wd (20 * x + j) = B 6 (20 * x + j) + W (20 * x + j)) :=
        ⟨fun z => ⟨z.1, fun j a b => by rw [← h1 x x0 x1 q q1 (by rw [z.1]; exact h8) j a b]; exact z.2 j a b⟩, fun z => ⟨z.1, fun j a b => by rw [h1 x x0 x1 q q1 (by rw [z.1]; exact h8) j a b]; exact z.2 j a b⟩⟩
      by_cases q2 : at' x = B 8 0 ∧ ∀ j, 0 ≤ j → j < B 3 x → wd (20 * x + j) = B 6 (20 * x + j) + W (20 * x + j)
      · rw [if_neg (fun z => z.2 (e.mpr q2)), if_neg (fun z => z.2 q2)]
      · rw [if_pos ⟨q1, fun z => q2 (e.mp z)⟩, if_pos ⟨q1, q2⟩]
    · rw [if_neg (fun z => q1 z.1), if_neg (fun z => q1 z.1)]
  · rw [if_neg q, if_neg q]
theorem c_cnt_wd {B : pT} {at' wd wd2 : Int → Int} {Rq : Int → c_R} {n : Int} (hn : 0 ≤ n) (h8 : B 8 0 ≠ 0) (h1 : ∀ x, 0 ≤ x → x < 30 → x % 10 < B 0 (x / 10) → B 1 x = 0 → at' x ≠ 0 → ∀ j, 0 ≤ j → j < B 3 x → wd2 (20 * x + j) = wd (20 * x + j)) : c_cnt B at' wd2 Rq n = c_cnt B at' wd Rq n := by
  refine p_sum_cg hn (fun t t0 t1 => ?_)
  show p_sum (c_rg B (c_at B at' t) (c_wd B wd2 Rq t) (c_Wq B Rq t)) 30 = p_sum (c_rg B (c_at B at' t) (c_wd B wd Rq t) (c_Wq B Rq t)) 30
  by_cases e : t ≤ 0
  · have e1 : c_wd B wd2 Rq t = wd2 := by unfold c_wd; rw [if_pos e]
    have e2 : c_wd B wd Rq t = wd := by unfold c_wd; rw [if_pos e]
    have e3 : c_at B at' t = at' := by unfold c_at; rw [if_pos e]
    rw [e1, e2, e3]
    exact p_sum_cg (by decide) (fun x x0 x1 => c_rg_cg2 h8 h1 x x0 x1)
  · have e1 : c_wd B wd2 Rq t = c_wd B wd Rq t := by unfold c_wd; rw [if_neg e, if_neg e]
    rw [e1]
theorem c_comp_wd {B : pT} {ob : Prop} {Bo : pT} {Ro R : c_R} {p0 res set' cnt : Int} {at' wd wd2 W : Int → Int} (h8 : B 8 0 ≠ 0) (h1 : ∀ x, 0 ≤ x → x < 30 → x % 10 < B 0 (x / 10) → B 1 x = 0 → at' x ≠ 0 → ∀ j, 0 ≤ j → j < B 3 x → wd2 (20 * x + j) = wd (20 * x + j)) (h : c_comp B ob Bo Ro p0 at' wd W R res set' cnt) : c_comp B ob Bo Ro p0 at' wd2 W R res set' cnt := by
  rcases h with ⟨Rq, r, hr, a1, a2, a3, a4, a5, a6, a7, a8⟩ | ⟨Rq, n, v, hn, a1, a2, a3, a4, a5, a6, a7, a8, a9, a10⟩
  · exact Or.inl ⟨Rq, r, hr, a1, a2, a3, a4, a5, a6, a7, by rw [c_cnt_wd (wd := wd) (by omega) h8 h1]; exact a8⟩
  · have e1 : c_wd B wd2 Rq n = c_wd B wd Rq n := by unfold c_wd; rw [if_neg (by omega), if_neg (by omega)]
    exact Or.inr ⟨Rq, n, v, hn, a1, a2, a3, a4, a5, a6, a7, a8, a9, by rw [c_cnt_wd (wd := wd) (by omega) h8 h1, e1]; exact a10⟩
/-- the relation behind a compose -/
theorem y_comp_rl {n en : Int} {B : pT} {W : Int → Int} {M M' N : qM} (hr : c_rl n B M) (hn : n < 512) (hen : en = 0 ∨ en = 1) (h8 : M' 10 0 8 = en + 1) (fr : fr104 en M M') (hp : M 10 0 9 = 0 ∨ M 10 0 9 ≠ en + 1) (st : c_bd M' ∧ (c_z 0 M' ∧ c_z 1 M') ∧ c_brk B M' ∧ c_35 B M') (OC : ∀ (k : Nat) (m s : Int), k ≤ 63 → k ≠ 11 → N k m s = M' k m s) (OP : ∀ (k : Nat) (m s : Int), ((64 ≤ k ∧ k ≤ 75) ∨ (118 ≤ k ∧ k ≤ 135) ∨ (k = 11 ∧ ¬ ((51 ≤ s ∧ s ≤ 58) ∨ s = 0 ∨ (20 ≤ s ∧ s ≤ 23) ∨ s = 71))) → N k m s = M k m s) (mi : m_inv B N ∧ m_lim N) (bw : c_brkW B W M') (bw2 : m_brkW B W N) (md : c_md B N) : c_rl (n + 1) B N := by
  obtain ⟨⟨h0, hB, hB2⟩, ⟨a1, a2, a3⟩, ⟨b1, b2, b3, b4⟩, h4, h5, h6, h7⟩ := hr
  have xC : y_C N = y_C M' := y_C_eq OC
  have f : ∀ (k : Nat) (m s : Int), k ≤ 63 → k ≠ 11 → (k = 63 ∨ k = 1 ∨ k = 32 ∨ k = 33 ∨ k = 34 ∨ (k = 5 ∧ s ≤ 3) ∨ (k = 10 ∧ s ≠ 8 ∧ s ≠ 13) ∨ ((k = 3 ∨ (23 ≤ k ∧ k ≤ 26)) ∧ m ≠ en) ∨ ((k = 9 ∨ (48 ≤ k ∧ k ≤ 61)) ∧ ¬ (1 + 3 * en ≤ m ∧ m < 1 + 3 * en + 3)) ∨ ((k = 8 ∨ (43 ≤ k ∧ k ≤ 47)) ∧ ¬ (0 + 3 * en ≤ m ∧ m < 0 + 3 * en + 3))) → N k m s = M k m s := fun k m s q q2 q3 => by
    rw [OC k m s q q2]
    exact fr k m s (Or.inr (Or.inr q3))
  refine ⟨⟨⟨by omega, by omega⟩, hB, hB2⟩, ⟨⟨fun c c0 c1 => ?_, fun x x0 x1 => ?_, fun y y0 y1 => ?_⟩, ⟨fun c c0 c1 => ?_, fun x x0 x1 => ?_, fun y y0 y1 => ?_, ?_⟩, ?_⟩, ⟨⟨?_, ?_, fun w w0 w1 => ?_⟩, fun t t0 t1 => ?_, ⟨⟨fun it i => ?_, fun it => ?_⟩, fun x => ?_, fun i => ?_⟩, ⟨en, ?_, hen⟩⟩, ⟨?_, fun x x0 x1 => ?_, fun x x0 x1 => ?_⟩, ⟨y_cgC (P := fun M => c_z 0 M ∧ c_z 1 M) (fun _ => rfl) xC st.2.1, y_cgC (P := c_bd) (fun _ => rfl) xC st.1, y_cgC (P := c_brk B) (fun _ => rfl) xC st.2.2.1, y_cgC (P := c_35 B) (fun _ => rfl) xC st.2.2.2, mi.1, mi.2, fun x x0 x1 r q => ?_⟩, ?_, md⟩
  · rw [f 1 _ _ (by omega) (by omega) (by omega)]; exact a1.1 c c0 c1
  · rw [f 5 _ 0 (by omega) (by omega) (by omega), f 5 _ 1 (by omega) (by omega) (by omega), f 5 _ 2 (by omega) (by omega) (by omega), f 5 _ 3 (by omega) (by omega) (by omega)]; exact a1.2.1 x x0 x1
  · rw [f 33 _ _ (by omega) (by omega) (by omega), f 34 _ _ (by omega) (by omega) (by omega), f 32 _ _ (by omega) (by omega) (by omega)]; exact a1.2.2 y y0 y1
  · rw [OP 64 _ _ (by omega)]; exact a2.1 c c0 c1
  · rw [OP 65 _ _ (by omega), OP 66 _ _ (by omega), OP 67 _ _ (by omega)]; exact a2.2.1 x x0 x1
  · rw [OP 70 _ _ (by omega), OP 71 _ _ (by omega), OP 69 _ _ (by omega)]; exact a2.2.2.1 y y0 y1
  · rw [OP 11 _ 1 (by omega), OP 11 _ 2 (by omega), OP 11 _ 3 (by omega)]; exact a2.2.2.2
  · show N 10 0 10 = _ ∧ N 10 0 11 = _ ∧ N 10 0 12 = _
    rw [f 10 _ 10 (by omega) (by omega) (by omega), f 10 _ 11 (by omega) (by omega) (by omega), f 10 _ 12 (by omega) (by omega) (by omega)]; exact a3
  · rw [f 5 _ 2 (by omega) (by omega) (by omega)]; exact b1.1
  · rw [OP 11 _ 12 (by omega), f 5 _ 2 (by omega) (by omega) (by omega)]; exact b1.2.1
  · rw [f 5 _ 2 (by omega) (by omega) (by omega)] at w1
    rw [OP 72 _ _ (by omega), OP 73 _ _ (by omega), OP 74 _ _ (by omega), f 32 _ _ (by omega) (by omega) (by omega), f 33 _ _ (by omega) (by omega) (by omega), f 34 _ _ (by omega) (by omega) (by omega)]; exact b1.2.2 w w0 w1
  · rw [f 63 _ _ (by omega) (by omega) (by omega), OP 75 _ _ (by omega)]; exact b2 t t0 t1
  · rw [f 32 _ _ (by omega) (by omega) (by omega)]; exact b3.1.1 it i
  · rw [f 5 _ 2 (by omega) (by omega) (by omega)]; exact b3.1.2 it
  · rw [OP 67 _ _ (by omega)]; exact b3.2.1 x
  · rw [OP 69 _ _ (by omega)]; exact b3.2.2 i
  · rw [OC 10 _ _ (by omega) (by omega)]; exact h8
  · rw [f 10 _ 14 (by omega) (by omega) (by omega)]; have := h4.1; omega
  · rw [f 10 _ 14 (by omega) (by omega) (by omega)]; exact h4.2.1 x x0 x1
  · rw [OP 68 _ _ (by omega)]; have := h4.2.2 x x0 x1; omega
  · have z1 := bw x x0 x1 r q
    have z2 := bw2 x x0 x1 r q
    rw [OC 5 _ _ (by omega) (by omega), z1.1, z2.1]
    exact ⟨rfl, fun _ j j0 j1 => by rw [OC 36 _ _ (by omega) (by omega), z1.2 j j0 j1, z2.2 j j0 j1]⟩
  · have e9 : N 10 0 9 = M 10 0 9 := f 10 _ 9 (by omega) (by omega) (by omega)
    rcases h6 with h6 | ⟨Bo, Wo, Ro, Lo, e', N0, q1, q2, ⟨r1, r2, r3, r4, r5, r6, r7, r8⟩, q4⟩
    · exact Or.inl ⟨by rw [e9]; exact h6.1, by rw [OP 11 _ 73 (by omega)]; exact h6.2⟩
    · have ne : e' ≠ en := by omega
      refine Or.inr ⟨Bo, Wo, Ro, Lo, e', N0, by rw [e9]; exact q1, q2, ⟨r1, r2, r3, c_edn_fr r4 (fun k c s c0 c1 q => f k _ s (by omega) (by omega) ?_) (fun k c s c0 c1 q => f k _ s (by omega) (by omega) ?_) (fun k s q => f k _ s (by omega) (by omega) ?_), c_cpy_fr3 (fun k s q => OP k 0 s (by omega)) r5, r6, r7, fun x x0 x1 t => ?_⟩, fun x x0 x1 t => ?_⟩
      · rcases hen with z | z <;> rcases q2 with z2 | z2 <;> omega
      · rcases hen with z | z <;> rcases q2 with z2 | z2 <;> omega
      · omega
      · rw [OP 68 _ _ (by omega), OP 120 _ _ (by omega)]; exact r8 x x0 x1 t
      · rw [OP 68 _ _ (by omega), OP 120 _ _ (by omega), f 10 _ 14 (by omega) (by omega) (by omega)]; exact q4 x x0 x1 t
theorem y104 {d d' : Nat} {h : qH} (hS : qSe h) {n b : Int} {B : pT} {M : qM} (hn : n < 512) (hr : c_rl n B M) : e104 (d + 8) h b M (p_ok (n + 1) (e216 (d' + 9) h b)) (p_ex (n + 1) (e216 (d' + 9) h b) 0 1 0) := by
  have hB := hr.1.2.1
  have hB2 := hr.1.2.2
  obtain ⟨a1, a2, a3⟩ := hr.2.1
  obtain ⟨b1, b2, b3, en0, b4⟩ := hr.2.2.1
  obtain ⟨s1, s2, s3, s4, s5, s6, s7⟩ := hr.2.2.2.2.1
  have key : ∀ (Bo : pT) (Ro : c_R) (e' : Int), ((M 10 0 9 = 0 ∧ M 11 0 73 = 0) ∨ (M 10 0 9 ≠ 0 ∧ M 11 0 73 ≠ 0 ∧ ∃ Wo Lo N0, c_pp B Bo Wo Ro Lo e' N0 M)) → e104 (d + 8) h b M (p_ok (n + 1) (e216 (d' + 9) h b)) (p_ex (n + 1) (e216 (d' + 9) h b) 0 1 0) := by
    intro Bo Ro e' pr
    have env : ¬ (b ≠ 0 ∧ M 11 0 73 = 0) → m_env B (b ≠ 0) Bo Ro b M := fun no => by
      refine ⟨a2, b3.2, ?_⟩
      by_cases b0 : b = 0
      · exact Or.inl ⟨fun z => z b0, b0⟩
      · rcases pr with pr | ⟨pr, pr2, Wo, Lo, N0, pp⟩
        · exact absurd ⟨b0, pr.2⟩ no
        · exact Or.inr ⟨b0, b0, c_prt_mom pp.2.2.1, c_prt_old hB pp.2.2.1⟩
    have wd0 : ∀ x, 0 ≤ x → x < 30 → x % 10 < B 0 (x / 10) → B 1 x = 0 → M 5 (1 + x) 8 = M 79 0 x ∧ ∀ j, 0 ≤ j → j < B 3 x → M 36 (1 + x) j = M 36 (1 + (20 * x + j) / 20) ((20 * x + j) % 20) := fun x x0 x1 t t1 => ⟨(s7 x x0 x1 t t1).1, fun j j0 j1 => by
      have := hB.2.1 x
      rw [show (20 * x + j) / 20 = x by omega, show (20 * x + j) % 20 = j by omega]⟩
    have wd1 : ∀ x, 0 ≤ x → x < 30 → x % 10 < B 0 (x / 10) → B 1 x = 0 → M 79 0 x ≠ 0 → ∀ j, 0 ≤ j → j < B 3 x → M 80 0 (20 * x + j) = M 36 (1 + (20 * x + j) / 20) ((20 * x + j) % 20) := fun x x0 x1 t t1 z j j0 j1 => by
      rw [← (wd0 x x0 x1 t t1).2 j j0 j1]
      exact ((s7 x x0 x1 t t1).2 z j j0 j1).symm
    have h80 : B 8 0 ≠ 0 := by have := hB.2.2.2.2.2.2.1; omega
    have no73 : ¬ (b ≠ 0 ∧ M 10 0 9 = 0) → ¬ (b ≠ 0 ∧ M 11 0 73 = 0) := fun z k => z ⟨k.1, by rcases pr with pr | pr; exact pr.1; exact absurd k.2 pr.2.1⟩
    -- what the model's compose asks of the memory behind the class'
    have mem : ∀ (en : Int) (M' M'' : qM) (v : Int), fr104 en M M' → M'' = qU M' 138 0 0 v → (∀ (k : Nat) (m s : Int), (64 ≤ k ∧ k ≤ 137) ∨ k = 11 → M'' k m s = M k m s) := fun en M' M'' v fr f k m s q => by
      rw [f, qU_k (by omega)]
      exact fr k m s (by omega)
    have env2 : ∀ M'' : qM, y_P M'' = y_P M → ¬ (b ≠ 0 ∧ M'' 11 0 73 = 0) → m_env B (b ≠ 0) Bo Ro b M'' := fun M'' xP no => by
      have e73 : M'' 11 0 73 = M 11 0 73 := y_cgP (P := fun Z => ∀ v, M 11 0 73 = v → Z 11 0 73 = v) (fun _ => rfl) xP (fun v z => z) _ rfl
      rw [e73] at no
      have z := env no
      refine ⟨y_cgP (P := m_bk B) (fun _ => rfl) xP z.1, y_cgP (P := fun M => (∀ x, 0 ≤ M 67 0 x ∧ M 67 0 x ≤ 20) ∧ ∀ i, 0 ≤ M 69 0 i ∧ M 69 0 i ≤ 8) (fun _ => rfl) xP z.2.1, ?_⟩
      rcases z.2.2 with z | ⟨z1, z2, z3, z4⟩
      · exact Or.inl z
      · exact Or.inr ⟨z1, z2, y_cgP (P := m_om B Bo Ro) (fun _ => rfl) xP z3, z4⟩
    have mat : ∀ M'' : qM, y_P M'' = y_P M → ∀ x, 0 ≤ x → x < 30 → x % 10 < B 0 (x / 10) → B 1 x = 0 → M'' 79 0 x = M 79 0 x ∧ ∀ j, 0 ≤ j → j < B 3 x → M'' 80 0 (20 * x + j) = M 80 0 (20 * x + j) := fun M'' xP x x0 x1 t t1 =>
      ⟨y_cgP (P := fun Z => ∀ v, M 79 0 x = v → Z 79 0 x = v) (fun _ => rfl) xP (fun v z => z) _ rfl, fun j j0 j1 => y_cgP (P := fun Z => ∀ v, M 80 0 (20 * x + j) = v → Z 80 0 (20 * x + j) = v) (fun _ => rfl) xP (fun v z => z) _ rfl⟩
    have m75 : ∀ M'' : qM, y_P M'' = y_P M → ∀ t, 0 ≤ t → t < 10 → -1 ≤ M'' 75 0 t := fun M'' xP t t0 t1 => y_cgP (P := fun Z => -1 ≤ Z 75 0 t) (fun _ => rfl) xP (b2 t t0 t1).2.1
    refine t104 hS (Bo := Bo) (Ro := Ro) (e0 := en0) (e' := e') (at' := fun x => M 79 0 x) (wd := fun y => M 36 (1 + y / 20) (y % 20)) hB hB2 a1 a3 b4 s1 ⟨s2, s3, s4⟩ b3.1 wd0 ?_ (fun z1 z2 => ?_) (fun no M' en W R res set' cnt L fr hen hne h8 h13 st comp edn now bw s10 s9 M'' f'' => ?_) (fun no M' en W fr hen hne h8 h13 st ncomp bw M'' f'' => ?_)
    · rcases pr with pr | ⟨_, _, Wo, Lo, N0, pp⟩
      · exact Or.inl pr.1
      · exact Or.inr ⟨pp.1, pp.2.1, c_prt_om pp.2.2.1, c_prt_old hB pp.2.2.1⟩
    · have e73 : M 11 0 73 = 0 := by
        rcases pr with pr | pr
        · exact pr.2
        · exact absurd z2 pr.1
      exact Or.inr (Or.inl ⟨rfl, by decide, p_exc hn hr (fun F H => t216 hS (n := fun _ => 0) (ia := fun _ _ => 0) (ib := fun _ _ => 0) (at' := fun x => M 79 0 x) (wd := fun y => M 80 0 y) hB hB2 env s5 s6 (fun x x0 x1 t t1 => ⟨rfl, fun j j0 j1 => rfl⟩) (fun t t0 t1 => (b2 t t0 t1).2.1) (fun _ _ N f => H 0 N f) (fun z => absurd ⟨z1, e73⟩ z))⟩)
    · have O := mem en M' M'' _ fr f''
      have xP := y_P_eq O
      have hpp : M 10 0 9 = 0 ∨ M 10 0 9 ≠ en + 1 := by
        rcases pr with pr | ⟨_, _, Wo, Lo, N0, pp⟩
        · exact Or.inl pr.1
        · have := pp.1
          rcases hne with z | z <;> omega
      have out := c_comp_out comp
      have pb := c_p0_b hB
      have cw := c_words hB
      have n27 : ∀ t, 0 ≤ t → t < 10 → 0 ≤ M' 27 0 t ∧ M' 27 0 t ≤ 200 := fun t a b => by
        have x := (now.2.2.2.1 t a b).1
        have l : p_sum (fun y => if c_K B y = 4 then (1 : Int) else 0) 600 ≤ p_sum (fun y => @ite Int (c_there B y) (Classical.propDecidable _) 1 0) 600 := p_sum_le2 (by decide) (fun k a b => by
          by_cases q : c_K B k = 4
          · rw [if_pos q, if_pos (c_K_there (by omega))]; exact Int.le_refl _
          · rw [if_neg q]; split <;> omega)
        omega
      have eL : x_L (fun t => M' 27 0 t) (M'' 75 0) = L := by
        rw [now.2.2.2.2.2.2.2]
        refine p_sum_cg (by decide) (fun t t0 t1 => ?_)
        have e : M' 63 0 t = M'' 75 0 t := by
          rw [O 75 _ _ (by omega), fr 63 _ _ (by omega)]
          exact (b2 t t0 t1).1
        show (M' 27 0 t + 2) / 3 + (if M'' 75 0 t < 0 then (0 : Int) else 1) = (M' 27 0 t + 2) / 3 + (if M' 63 0 t < 0 then (0 : Int) else 1)
        rw [e]
      have lb : 0 ≤ x_L (M' 27 0) (M' 63 0) ∧ x_L (M' 27 0) (M' 63 0) ≤ 1000 := x_L_b (al := M' 63 0) n27 10 (by decide) (by decide)
      have lb2 : 0 ≤ L ∧ L ≤ 1000 := by rw [now.2.2.2.2.2.2.2]; exact lb
      refine t216 hS (n := fun t => M' 27 0 t) (ia := fun t i => M' 29 t i) (ib := fun t i => M' 31 t i) (at' := fun x => M 79 0 x) (wd := fun y => M 80 0 y) hB hB2 (env2 M'' xP) (y_cgP (P := m_inv B) (fun _ => rfl) xP s5) (y_cgP (P := m_lim) (fun _ => rfl) xP s6) (mat M'' xP) (m75 M'' xP) (fun z1 z2 => absurd ⟨z1, by rw [O 11 _ _ (Or.inr rfl)] at z2; exact z2⟩ (no73 no)) (fun _ => Or.inl ⟨W, R, res, set', cnt, c_comp_wd h80 wd1 comp, fun t t0 t1 => ?_, fun N frN v0 v22 mnow mi ml mbw v21 v23 => ?_⟩)
      · have ix := now.2.2.2.1 t t0 t1
        refine ⟨⟨ix.1.1, fun i i0 i1 => ?_, ix.2.2.1, ix.2.2.2⟩, (n27 t t0 t1).2⟩
        have z := ix.2.1 i i0 i1
        refine ⟨z.1, z.2.1, ?_⟩
        obtain ⟨y, y1, y2, y3, y4⟩ := (ix.2.2.2 (M' 31 t i)).mpr ⟨i, ⟨i0, i1⟩, z.2.1, Int.le_refl _⟩
        have g := (c_G_b hB (by omega) out.1 y1 (c_K_there (by omega))).2
        have y5 : c_G B R y = M' 31 t i := y4
        show M' 31 t i ≤ 398
        rw [← y5]
        omega
      · rw [eL] at mnow
        have OC : ∀ (k : Nat) (m s : Int), k ≤ 63 → k ≠ 11 → N k m s = M' k m s := fun k m s q q2 => by rw [frN k m s (by omega), f'', qU_k (by omega)]
        have xC := y_C_eq OC
        refine ⟨v0, rfl, by rw [frN _ _ _ (by omega), f'', qU_s], B, y_comp_rl hr hn hen h8 fr hpp st OC (fun k m s q => by rw [frN k m s (by omega), O k m s (by omega)]) ⟨mi, ml⟩ bw mbw (Or.inr ⟨by rw [OC _ _ _ (by omega) (by omega)]; exact h13, v22, en, W, R, L, ?_, lb2, ⟨_, _, _, out.1⟩, ?_, ?_, mnow, ?_, ?_, ?_⟩)⟩
        · rw [OC _ _ _ (by omega) (by omega)]; exact h8
        · exact y_cgC (P := c_edn B R (c_tot B R L) en) (fun _ => rfl) xC edn
        · exact y_cgC (P := c_now B W R L) (fun _ => rfl) xC now
        · rw [OC _ _ _ (by omega) (by omega), s9, v23]
        · rw [OC _ _ _ (by omega) (by omega), s10, v21]
        · rw [OC _ _ _ (by omega) (by omega), s10]; exact out.2.2.2
    · have O := mem en M' M'' _ fr f''
      have xP := y_P_eq O
      have hpp : M 10 0 9 = 0 ∨ M 10 0 9 ≠ en + 1 := by
        rcases pr with pr | ⟨_, _, Wo, Lo, N0, pp⟩
        · exact Or.inl pr.1
        · have := pp.1
          rcases hne with z | z <;> omega
      refine t216 hS (n := fun _ => 0) (ia := fun _ _ => 0) (ib := fun _ _ => 0) (at' := fun x => M 79 0 x) (wd := fun y => M 80 0 y) hB hB2 (env2 M'' xP) (y_cgP (P := m_inv B) (fun _ => rfl) xP s5) (y_cgP (P := m_lim) (fun _ => rfl) xP s6) (mat M'' xP) (m75 M'' xP) (fun z1 z2 => absurd ⟨z1, by rw [O 11 _ _ (Or.inr rfl)] at z2; exact z2⟩ (no73 no)) (fun _ => Or.inr ⟨W, ncomp, fun N frN v0 v22 mi ml mbw => ?_⟩)
      have OC : ∀ (k : Nat) (m s : Int), k ≤ 63 → k ≠ 11 → N k m s = M' k m s := fun k m s q q2 => by rw [frN k m s (by omega), f'', qU_k (by omega)]
      exact ⟨v0, rfl, by rw [frN _ _ _ (by omega), f'', qU_s], B, y_comp_rl hr hn hen h8 fr hpp st OC (fun k m s q => by rw [frN k m s (by omega), O k m s (by omega)]) ⟨mi, ml⟩ bw mbw (Or.inl ⟨by rw [OC _ _ _ (by omega) (by omega)]; exact h13, v22⟩)⟩
  rcases hr.2.2.2.2.2.1 with z | ⟨Bo, Wo, Ro, Lo, e', N0, pp⟩
  · exact key B (default : c_R) 0 (Or.inl z)
  · have c73 : M 11 0 73 = 1 := pp.2.2.1.2.2.2.2.1.1.1
    refine key Bo Ro e' (Or.inr ⟨by have := pp.1; have := pp.2.1; omega, by omega, Wo, Lo, N0, pp⟩)
