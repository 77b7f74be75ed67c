/-! ===== the rounds: a chain ===== -/
def c_W0 (B : pT) : Int → Int := b_w0 (c_K B) (B 8 2)
def c_W1 (B : pT) (R : c_R) : Int → Int := b_w1 (c_K B) (B 5) (c_G B R) (B 8 2)
def c_eqW (B : pT) (W W' : Int → Int) : Prop := ∀ y, 0 ≤ y → y < 600 → b_ch (c_K B) y = 1 → W y = W' y
/-- what round t takes -/
def c_Wq (B : pT) (Rq : Int → c_R) (t : Int) : Int → Int := if t ≤ 0 then c_W0 B else c_W1 B (Rq (t - 1))
def c_chain (B : pT) (ob : Prop) (Bo : pT) (Ro : c_R) (p0 : Int) (Rq : Int → c_R) (n : Int) : Prop := ∀ t, 0 ≤ t → t < n → c_out B (c_Wq B Rq t) ob Bo Ro p0 (Rq t)
/-- the first round up to r that took what round r found -/
def c_first (B : pT) (Rq : Int → c_R) (r v : Int) : Prop := b_first (fun t => c_eqW B (c_Wq B Rq t) (c_Wq B Rq (r + 1))) (r + 1) v
def c_go (B : pT) (Rq : Int → c_R) (r : Int) : Prop := ∀ t, 0 ≤ t → t < r → c_first B Rq t (-1)
def c_at (B : pT) (at' : Int → Int) (t : Int) : Int → Int := if t ≤ 0 then at' else fun _ => B 8 0
def c_wd (B : pT) (wd : Int → Int) (Rq : Int → c_R) (t : Int) : Int → Int := if t ≤ 0 then wd else fun y => B 6 y + c_Wq B Rq (t - 1) y
noncomputable def c_cnt (B : pT) (at' wd : Int → Int) (Rq : Int → c_R) (n : Int) : Int := p_sum (fun t => p_sum (c_rg B (c_at B at' t) (c_wd B wd Rq t) (c_Wq B Rq t)) 30) n
/-- the widest of the rounds from a on, before n -/
def c_wide (B : pT) (Rq : Int → c_R) (a n : Int) : Int → Int := fun y => b_mx (fun t => c_Wq B Rq t y) a n
theorem p_sum_bd {g : Int → Int} {b n : Int} (h : ∀ k, 0 ≤ g k ∧ g k ≤ b) (hn : 0 ≤ n) : 0 ≤ p_sum g n ∧ p_sum g n ≤ b * n := by
  refine q_upto (P := fun x => 0 ≤ x → 0 ≤ p_sum g x ∧ p_sum g x ≤ b * x → 0 ≤ p_sum g n ∧ p_sum g n ≤ b * n) hn (fun _ q => q) (fun x x0 x1 ih _ q => ih (by omega) ?_) (Int.le_refl _) (by rw [p_sum_0, Int.mul_zero]; omega)
  have := h x
  rw [p_sum_s x0, Int.mul_add, Int.mul_one]
  omega
theorem c_rg_b {B : pT} {at' wd W : Int → Int} (x : Int) : 0 ≤ c_rg B at' wd W x ∧ c_rg B at' wd W x ≤ 1 := by
  unfold c_rg
  split
  · split <;> omega
  · omega
theorem c_cnt_b {B : pT} {at' wd : Int → Int} {Rq : Int → c_R} {n : Int} (hn : 0 ≤ n) : 0 ≤ c_cnt B at' wd Rq n ∧ c_cnt B at' wd Rq n ≤ 30 * n := p_sum_bd (fun t => by
  have := p_sum_bd (g := c_rg B (c_at B at' t) (c_wd B wd Rq t) (c_Wq B Rq t)) (b := 1) (n := 30) c_rg_b (by decide)
  omega) hn
theorem c_rg_cg {B : pT} {at' at2 wd wd2 W : Int → Int} (h1 : ∀ x, 0 ≤ x → x < 30 → x % 10 < B 0 (x / 10) → B 1 x = 0 → at2 x = at' x ∧ ∀ j, 0 ≤ j → j < B 3 x → wd2 (20 * x + j) = wd (20 * x + j)) (x : Int) (x0 : 0 ≤ x) (x1 : x < 30) : c_rg B at2 wd2 W x = c_rg B at' wd W x := by
  unfold c_rg
  by_cases q : x % 10 < B 0 (x / 10)
  · rw [if_pos q, if_pos q]
    by_cases q1 : B 1 x = 0
    · have h := h1 x x0 x1 q q1
      have e : (at2 x = B 8 0 ∧ ∀ j, 0 ≤ j → j < B 3 x → wd2 (20 * x + j) = B 6 (20 * x + j) + W (20 * x + j)) ↔ (at' x = B 8 0 ∧ ∀ j, 0 ≤ j → j < B 3 x → wd (20 * x + j) = B 6 (20 * x + j) + W (20 * x + j)) := by
        rw [h.1]
        exact ⟨fun z => ⟨z.1, fun j a b => by rw [← h.2 j a b]; exact z.2 j a b⟩, fun z => ⟨z.1, fun j a b => by rw [h.2 j a b]; exact z.2 j a b⟩⟩
      by_cases q2 : at' x = B 8 0 ∧ ∀ j, 0 ≤ j → j < B 3 x → wd (20 * x + j) = B 6 (20 * x + j) + W (20 * x + j)
      · rw [if_neg (fun z => z.2 (e.mpr q2)), if_neg (fun z => z.2 q2)]
      · rw [if_pos ⟨q1, fun z => q2 (e.mp z)⟩, if_pos ⟨q1, q2⟩]
    · rw [if_neg (fun z => q1 z.1), if_neg (fun z => q1 z.1)]
  · rw [if_neg q, if_neg q]
theorem c_Wq_cg {B : pT} {Rq : Int → c_R} {R : c_R} {r t : Int} (h : t ≤ r) : c_Wq B (fun x => if x = r then R else Rq x) t = c_Wq B Rq t := by
  unfold c_Wq
  by_cases q : t ≤ 0
  · rw [if_pos q, if_pos q]
  · rw [if_neg q, if_neg q]
    show c_W1 B (if t - 1 = r then R else Rq (t - 1)) = _
    rw [if_neg (by omega)]
theorem c_first_cg {B : pT} {Rq : Int → c_R} {R : c_R} {r t v : Int} (h : t + 1 ≤ r) (hf : c_first B Rq t v) : c_first B (fun x => if x = r then R else Rq x) t v := by
  unfold c_first at *
  rw [c_Wq_cg h]
  rcases hf with ⟨z1, z2⟩ | ⟨z1, z2, z3⟩
  · exact Or.inl ⟨z1, fun s a b => by show ¬ c_eqW B (c_Wq B _ s) _; rw [c_Wq_cg (by omega)]; exact z2 s a b⟩
  · exact Or.inr ⟨z1, by show c_eqW B (c_Wq B _ v) _; rw [c_Wq_cg (by omega)]; exact z2, fun s a b => by show ¬ c_eqW B (c_Wq B _ s) _; rw [c_Wq_cg (by omega)]; exact z3 s a b⟩
theorem c_cnt_cg {B : pT} {at' wd : Int → Int} {Rq : Int → c_R} {R : c_R} {r : Int} (hr : 0 ≤ r) : c_cnt B at' wd (fun x => if x = r then R else Rq x) r = c_cnt B at' wd Rq r := by
  unfold c_cnt
  refine p_sum_cg hr (fun t a b => ?_)
  show p_sum (c_rg B (c_at B at' t) (c_wd B wd _ t) (c_Wq B _ t)) 30 = _
  have e : c_wd B wd (fun x => if x = r then R else Rq x) t = c_wd B wd Rq t := by
    unfold c_wd
    by_cases q : t ≤ 0
    · rw [if_pos q, if_pos q]
    · rw [if_neg q, if_neg q, c_Wq_cg (by omega)]
  rw [c_Wq_cg (by omega), e]
theorem b_tw_b {x : Int} : 2 ≤ b_tw x ∧ b_tw x ≤ 8 := by
  unfold b_tw
  have := b_dg_b (x := x - 10)
  split <;> (try split) <;> (try split) <;> omega
theorem c_Wq_b {B : pT} {Rq : Int → c_R} {t : Int} (y : Int) : (0 ≤ c_Wq B Rq t y ∧ c_Wq B Rq t y ≤ 8) ∧ (b_ch (c_K B) y = 0 → c_Wq B Rq t y = 0) := by
  have d1 := fun x => b_dg_b (x := x)
  have d2 := fun x => b_tw_b (x := x)
  unfold c_Wq
  by_cases q : t ≤ 0
  · rw [if_pos q]
    unfold c_W0 b_w0 b_ch
    have := d1 (b_num (c_K B) (fun _ => 0) 0 y)
    by_cases k6 : c_K B y = 6
    · rw [if_pos k6, if_pos (Or.inr k6)]; omega
    · by_cases k2 : c_K B y = 2
      · rw [if_neg k6, if_pos k2, if_pos (Or.inl k2)]
        split <;> omega
      · rw [if_neg k6, if_neg k2, if_neg (by omega)]; omega
  · rw [if_neg q]
    unfold c_W1 b_w1 b_ch
    by_cases k6 : c_K B y = 6
    · have := d2 (b_text (c_K B) (B 5) (c_G B (Rq (t - 1))) y)
      rw [if_pos k6, if_pos (Or.inr k6)]; omega
    · by_cases k2 : c_K B y = 2
      · have := d1 (b_num (c_K B) (c_G B (Rq (t - 1))) (B 8 2) y)
        rw [if_neg k6, if_pos k2, if_pos (Or.inl k2)]; omega
      · rw [if_neg k6, if_neg k2, if_neg (by omega)]; omega
theorem c_wide_b {B : pT} {Rq : Int → c_R} {a n : Int} (ha : a ≤ n) (y : Int) : (0 ≤ c_wide B Rq a n y ∧ c_wide B Rq a n y ≤ 8) ∧ (b_ch (c_K B) y = 0 → c_wide B Rq a n y = 0) := by
  unfold c_wide
  refine ⟨b_mx_b (by decide) ha (fun r _ _ => (c_Wq_b y).1), fun q => ?_⟩
  have := b_mx_b (g := fun t => c_Wq B Rq t y) (k := 0) (Int.le_refl _) ha (fun r _ _ => by have := (c_Wq_b (B := B) (Rq := Rq) (t := r) y).2 q; omega)
  omega
theorem c_K_there {B : pT} {y : Int} (h : c_K B y ≠ 0) : c_there B y := by
  unfold c_K at h
  by_cases q : y / 20 % 10 < B 0 (y / 200) ∧ y % 20 < B 3 (y / 20)
  · exact q
  · rw [if_neg q] at h; exact absurd rfl h
theorem b_ch_1 {K : Int → Int} {y : Int} : b_ch K y = 1 ↔ K y = 2 ∨ K y = 6 := by
  unfold b_ch
  by_cases q : K y = 2 ∨ K y = 6
  · rw [if_pos q]; exact ⟨fun _ => q, fun _ => rfl⟩
  · rw [if_neg q]; exact ⟨fun z => absurd z (by decide), fun z => absurd z q⟩
/-- what does not change while rounds are made -/
def c_env (B : pT) (ob : Prop) (Bo : pT) (Ro : c_R) (e e' p0 : Int) (M : qM) : Prop := (M 2 0 7 = e + 1 ∧ 0 < M 2 0 6) ∧ c_bk B M ∧ b_ls (c_K B) M ∧ (M 3 e 0 = B 8 0 ∧ M 3 e 1 = B 8 1 ∧ M 3 e 2 = B 8 2 ∧ M 3 e 3 = p0) ∧ (∀ x, 0 ≤ x → x < 30 → x % 10 < B 0 (x / 10) → M 23 e x = B 7 x) ∧ ((¬ ob ∧ M 2 0 8 = 0) ∨ (ob ∧ (0 ≤ e' ∧ e ≠ e') ∧ M 2 0 8 = e' + 1 ∧ c_om Bo Ro e' M ∧ ∀ L E, c_oldok B L E Bo Ro)) ∧ (∀ it i, 0 ≤ M 32 it i ∧ M 32 it i ≤ 8) ∧ ∀ it, 0 ≤ M 5 it 2 ∧ M 5 it 2 ≤ 20
def c_35 (B : pT) (M : qM) : Prop := (∀ it i, 0 ≤ M 35 it i ∧ M 35 it i ≤ 8) ∧ ∀ y, 0 ≤ y → y < 600 → b_ch (c_K B) y = 0 → M 35 (1 + y / 20) (y % 20) = 0
theorem c_om_fr {Bo : pT} {Ro : c_R} {e : Int} {M M' : qM} (h : c_om Bo Ro e M) (h1 : ∀ (k : Nat) (m s : Int), ((k = 9 ∨ (48 ≤ k ∧ k ≤ 61)) ∧ 1 + 3 * e ≤ m ∧ m < 1 + 3 * e + 3) ∨ ((k = 8 ∨ (43 ≤ k ∧ k ≤ 47)) ∧ 0 + 3 * e ≤ m ∧ m < 0 + 3 * e + 3) ∨ (m = e ∧ (k = 23 ∨ (k = 3 ∧ s ≤ 1))) → M' k m s = M k m s) : c_om Bo Ro e M' :=
  ⟨by rw [h1 _ _ _ (by omega)]; exact h.1, by rw [h1 _ _ _ (by omega)]; exact h.2.1, fun c a b => c_ch_fr (h.2.2.1 c a b) (fun k s q => h1 _ _ _ (by omega)) (fun k s q => h1 _ _ _ (by omega)), fun x a b c => by rw [h1 _ _ _ (by omega)]; exact h.2.2.2 x a b c⟩
def fr11 (e : Int) (M M' : qM) : Prop := ∀ (k : Nat) (m s : Int), k ≠ 18 → ¬ (k = 2 ∧ m = 0 ∧ s = 10) → ¬ (k = 35 ∨ k = 36 ∨ k = 37 ∨ ((k = 12 ∨ k = 13 ∨ k = 14 ∨ k = 19 ∨ k = 40 ∨ k = 41 ∨ k = 42) ∧ m = 0) ∨ (k = 2 ∧ m = 0 ∧ s = 9) ∨ (k = 5 ∧ (s = 8 ∨ s = 10 ∨ s = 11)) ∨ (k = 7 ∧ m = 0 ∧ 3 ≤ s ∧ s ≤ 12) ∨ (k = 3 ∧ m = e ∧ s = 4) ∨ (24 ≤ k ∧ k ≤ 26 ∧ m = e) ∨ ((1 + 3 * e ≤ m ∧ m < 1 + 3 * e + 3) ∧ ((k = 9 ∧ (s = 0 ∨ s = 12 ∨ s = 16 ∨ s = 17)) ∨ (48 ≤ k ∧ k ≤ 61))) ∨ ((0 + 3 * e ≤ m ∧ m < 0 + 3 * e + 3) ∧ ((k = 8 ∧ 0 ≤ s ∧ s ≤ 3) ∨ (43 ≤ k ∧ k ≤ 47)))) → M' k m s = M k m s
theorem c_env_fr {B : pT} {ob : Prop} {Bo : pT} {Ro : c_R} {e e' p0 : Int} {M M' : qM} (h : c_env B ob Bo Ro e e' p0 M) (hf : fr11 e M M') : c_env B ob Bo Ro e e' p0 M' := by
  obtain ⟨h1, h2, h3, h4, h5, h6, h7, h8⟩ := h
  refine ⟨⟨by rw [hf _ _ _ (by omega) (by omega) (by omega)]; exact h1.1, by rw [hf _ _ _ (by omega) (by omega) (by omega)]; exact h1.2⟩, ⟨fun c a b => by rw [hf _ _ _ (by omega) (by omega) (by omega)]; exact h2.1 c a b, fun x a b => ?_, fun y a b => ?_⟩, ⟨by rw [hf _ _ _ (by omega) (by omega) (by omega)]; exact h3.1, fun y a b c => by rw [hf _ _ _ (by omega) (by omega) (by omega)]; exact h3.2 y a b c⟩, ?_, fun x a b c => by rw [hf _ _ _ (by omega) (by omega) (by omega)]; exact h5 x a b c, ?_, fun it i => by rw [hf _ _ _ (by omega) (by omega) (by omega)]; exact h7 it i, fun it => by rw [hf _ _ _ (by omega) (by omega) (by omega)]; exact h8 it⟩
  · rw [hf _ _ _ (by omega) (by omega) (by omega), hf _ _ _ (by omega) (by omega) (by omega), hf _ _ _ (by omega) (by omega) (by omega), hf _ _ _ (by omega) (by omega) (by omega)]; exact h2.2.1 x a b
  · rw [hf _ _ _ (by omega) (by omega) (by omega), hf _ _ _ (by omega) (by omega) (by omega), hf _ _ _ (by omega) (by omega) (by omega)]; exact h2.2.2 y a b
  · rw [hf _ _ _ (by omega) (by omega) (by omega), hf _ _ _ (by omega) (by omega) (by omega), hf _ _ _ (by omega) (by omega) (by omega), hf _ _ _ (by omega) (by omega) (by omega)]; exact h4
  · rcases h6 with h6 | ⟨z1, z2, z3, z4, z5⟩
    · exact Or.inl ⟨h6.1, by rw [hf _ _ _ (by omega) (by omega) (by omega)]; exact h6.2⟩
    · refine Or.inr ⟨z1, z2, by rw [hf _ _ _ (by omega) (by omega) (by omega)]; exact z3, c_om_fr z4 (fun k m s q => hf k m s (by omega) (by omega) ?_), z5⟩
      rcases q with q | q | q <;> omega
