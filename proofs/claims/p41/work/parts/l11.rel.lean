/-! ===== class and law between two turns ===== -/
def l_dr (M : qM) : Prop := (M 76 0 0 = M 5 0 2 ∧ M 5 0 2 ≤ 15) ∧ ∀ w, 0 ≤ w → w < M 5 0 2 → M 79 0 w = M 32 0 w + 16 * M 33 0 w + 128 * M 34 0 w ∧ (M 33 0 w = 6 → M 32 0 w = 0)
def l_al (M : qM) : Prop := ∀ t, 0 ≤ t → t < 10 → M 78 0 t = M 63 0 t + 1
def l_tb (n : Int) (B : pT) (M : qM) : Prop := (∀ it, 0 ≤ it → it < 18 → M 65 0 it / 256 % 256 ≤ n) ∧ ∀ x, 0 ≤ x → x < 30 → x % 10 < B 0 (x / 10) → B 1 x = 0 → 0 ≤ M 5 (1 + x) 8 ∧ M 5 (1 + x) 8 ≤ 30
def l_bs (n : Int) (B : pT) (M : qM) : Prop := z_cl n B M ∧ (k_bk B M ∧ k_lim B ∧ k_uq B) ∧ (k_v66 M ∧ k_brk B (fun x => M 5 (1 + x) 8) (fun y => M 36 (1 + y / 20) (y % 20)) M) ∧ l_dr M ∧ l_al M ∧ l_tb n B M
def l_md (B : pT) (M : qM) : Prop := (M 10 0 13 = 0 ∧ M 76 0 4 = 0) ∨ (M 10 0 13 = 1 ∧ M 76 0 4 = 1 ∧ ∃ en W R L, k_as B en W R L M ∧ k_all B R L M ∧ c_lal B R ≤ 40)
/-- the law's copies of what was printed; N: the memory at that time -/
def l_cp (Bo : pT) (e' : Int) (Wo : Int → Int) (Ro : c_R) (Lo : Int) (N M : qM) : Prop := (k_as Bo e' Wo Ro Lo N ∧ k_all Bo Ro Lo N ∧ c_lal Bo Ro ≤ 40) ∧ M 76 0 33 = c_tot Bo Ro Lo ∧ (∀ s, 0 ≤ s → s < 60 → M 80 0 s = N 71 0 s) ∧ (∀ p, 0 ≤ p → p ≤ c_tot Bo Ro Lo → M 81 0 p = N 74 0 p) ∧ (∀ it, 0 ≤ it → it < 18 → M 82 0 it = N 65 0 it / 256 % 256) ∧ (∀ it, 0 ≤ it → it ≤ 18 → M 83 0 it = k_O Bo it) ∧ (∀ it w, 0 ≤ it → it < 18 → 0 ≤ w → w < Bo 3 (k_x it) → M 84 0 (k_O Bo it + w) = k_told Bo Ro (k_y it w)) ∧ (∀ s, 0 ≤ s → s < 12 → M 85 0 s = N 72 0 s) ∧ ∀ s, 0 ≤ s → s < 36 → M 86 0 s = N 73 0 s
def l_mo (Bo : pT) (M : qM) : Prop := ∀ c i, 0 ≤ c → c < 3 → 0 ≤ i → i < Bo 0 c → M 82 0 (6 * c + i) ≤ M 65 0 (6 * c + i) / 256 % 256
def l_pr (B : pT) (M : qM) : Prop := (M 10 0 9 = 0 ∧ M 76 0 5 = 0) ∨ (M 76 0 5 = 1 ∧ ∃ Bo Wo Ro Lo e' N, z_pp B Bo Wo Ro Lo e' M ∧ k_om B Bo Ro M ∧ l_cp Bo e' Wo Ro Lo N M ∧ l_mo Bo M)
def l_all (n : Int) (B : pT) (M : qM) : Prop := l_bs n B M ∧ l_md B M ∧ l_pr B M
def l_rel (n : Int) (M : qM) : Prop := ∃ B, l_all n B M
section
variable {B Bo : pT} {n : Int} {M N : qM}
theorem l_cp_fr {e' Lo : Int} {Wo : Int → Int} {Ro : c_R} {N0 : qM} (h : l_cp Bo e' Wo Ro Lo N0 M) (f : ∀ (k : Nat) (s : Int), (80 ≤ k ∧ k ≤ 86) ∨ (k = 76 ∧ s = 33) → N k 0 s = M k 0 s) : l_cp Bo e' Wo Ro Lo N0 N := by
  obtain ⟨h1, h2, h3, h4, h5, h6, h7, h8, h9⟩ := h
  exact ⟨h1, by rw [f _ _ (by omega)]; exact h2, fun s a b => by rw [f _ _ (by omega)]; exact h3 s a b, fun s a b => by rw [f _ _ (by omega)]; exact h4 s a b, fun s a b => by rw [f _ _ (by omega)]; exact h5 s a b, fun s a b => by rw [f _ _ (by omega)]; exact h6 s a b, fun it w a b c d => by rw [f _ _ (by omega)]; exact h7 it w a b c d, fun s a b => by rw [f _ _ (by omega)]; exact h8 s a b, fun s a b => by rw [f _ _ (by omega)]; exact h9 s a b⟩
/-- the same book: what a call of the draft, an answer, or the law's scratch leaves -/
theorem l_same (h : l_all n B M) (hz : z_cl n B N) (hlw : (∀ (k : Nat) (o s : Int), (k = 3 ∨ k = 8 ∨ k = 9 ∨ (23 ≤ k ∧ k ≤ 26) ∨ (43 ≤ k ∧ k ≤ 61)) → N k o s = M k o s) ∧ N 10 0 9 = M 10 0 9 ∧ M 10 0 14 ≤ N 10 0 14) (hx : ∀ {en L : Int} {W : Int → Int} {R : c_R}, z_x B en W R L M → z_x B en W R L N) (h13 : N 10 0 13 = M 10 0 13) (law : ∀ (k : Nat) (o s : Int), 64 ≤ k → ¬ 87 ≤ k → k ≠ 79 → ¬ (k = 71 ∧ o ≠ 0) → ¬ (k = 76 ∧ o = 0 ∧ (s = 0 ∨ (29 ≤ s ∧ s ≤ 32))) → N k o s = M k o s) (h5 : ∀ x, 0 ≤ x → N 5 (1 + x) 8 = M 5 (1 + x) 8) (h36 : ∀ x s, N 36 x s = M 36 x s) (h63 : ∀ t, N 63 0 t = M 63 0 t) (dr : l_dr N) : l_all n B N := by
  obtain ⟨⟨b1, ⟨b2, b3, b4⟩, ⟨b5, b6⟩, b7, b8, b9⟩, hm, hp⟩ := h
  have bk : k_bk B N := k_bk_fr b2 (fun s => law _ _ _ (by decide) (by decide) (by decide) (by decide) (by omega)) (fun it a b => by rw [law 65 _ _ (by decide) (by decide) (by decide) (by omega) (by omega)]; exact ⟨rfl, (b2.2.1 it a b).1⟩) (fun s => law _ _ _ (by decide) (by decide) (by decide) (by decide) (by omega)) (law _ _ _ (by decide) (by decide) (by decide) (by decide) (by omega)) (law _ _ _ (by decide) (by decide) (by decide) (by decide) (by omega)) (law _ _ _ (by decide) (by decide) (by decide) (by decide) (by omega))
  have e65 : ∀ it, N 65 0 it = M 65 0 it := fun it => law _ _ _ (by decide) (by decide) (by decide) (by decide) (by omega)
  refine ⟨⟨hz, ⟨bk, b3, b4⟩, ⟨fun it a b => by rw [law 66 _ _ (by decide) (by decide) (by decide) (by decide) (by omega)]; exact b5 it a b, fun it a b r q => ?_⟩, dr, fun t a b => by rw [h63, law 78 _ _ (by decide) (by decide) (by decide) (by decide) (by omega)]; exact b8 t a b, ⟨fun it a b => by rw [e65]; exact b9.1 it a b, fun x a b r q => by rw [h5 x a]; exact b9.2 x a b r q⟩⟩, ?_, ?_⟩
  · have t := b6 it a b r q
    have xx := k_x_p ⟨a, b⟩
    show N 65 0 it / 65536 = N 5 (1 + k_x it) 8 ∧ (N 5 (1 + k_x it) 8 ≠ 0 → kU (N 66 0 it) = kP 4 (fun j => (N 36 (1 + k_y it j / 20) (k_y it j % 20)).toNat) (B 3 (k_x it)).toNat ∧ ∀ j, 0 ≤ j → j < B 3 (k_x it) → 0 ≤ N 36 (1 + k_y it j / 20) (k_y it j % 20) ∧ N 36 (1 + k_y it j / 20) (k_y it j % 20) ≤ 15)
    rw [e65, h5 _ xx.1.1, law 66 _ _ (by decide) (by decide) (by decide) (by decide) (by omega), show N 36 = M 36 from funext fun x => funext fun s => h36 x s]
    exact t
  · rcases hm with ⟨m1, m2⟩ | ⟨m1, m2, en, W, R, L, m3, m4, m5⟩
    · exact Or.inl ⟨by rw [h13]; exact m1, by rw [law 76 _ _ (by decide) (by decide) (by decide) (by decide) (by omega)]; exact m2⟩
    · refine Or.inr ⟨by rw [h13]; exact m1, by rw [law 76 _ _ (by decide) (by decide) (by decide) (by decide) (by omega)]; exact m2, en, W, R, L, ⟨⟨⟨hz.2.1, hz.2.2.2.2.2.2, fun q => hx (m3.1.1.2.2 (by rw [← h13]; exact q))⟩, by rw [h13]; exact m3.1.2⟩, m3.2.1, bk, fun it a b => by rw [law 67 _ _ (by decide) (by decide) (by decide) (by decide) (by omega)]; exact m3.2.2.2.1 it a b, fun it w a b c d => by rw [law 68 _ _ (by decide) (by decide) (by decide) (by decide) (by omega)]; exact m3.2.2.2.2.1 it w a b c d, ?_, m3.2.2.2.2.2.2⟩, ?_, m5⟩
      · obtain ⟨ob, B1, R1, out⟩ := (m3.1.1.2.2 m3.1.2).2.2.1
        intro c c0 c3
        have sz := (k_szA b1.2.1.1.1 b3 out.1 (c := c) ⟨c0, c3⟩).1
        exact k_cm_fr ⟨c0, c3⟩ (fun n => ⟨sz.2.2.2.1, sz.2.2.2.2, B 8 1, ((out.2 c c0 c3).1.2 n).2.2⟩) (m3.2.2.2.2.2.1 c c0 c3) (fun s a b => law _ _ _ (by decide) (by decide) (by decide) (by omega) (by omega)) (fun s a b => law _ _ _ (by decide) (by decide) (by decide) (by omega) (by omega)) (fun s a b => law _ _ _ (by decide) (by decide) (by decide) (by omega) (by omega)) (fun s a => law _ _ _ (by decide) (by decide) (by decide) (by omega) (by omega)) (fun k p _ hk _ _ => law _ _ _ (by omega) (by omega) (by omega) (by omega) (by omega))
      · have e : ∀ (k : Nat) (s : Int), (k = 74 ∨ k = 75) → N k 0 s = M k 0 s := fun k s q => law _ _ _ (by omega) (by omega) (by omega) (by omega) (by omega)
        refine ⟨⟨by rw [law _ _ _ (by decide) (by decide) (by decide) (by decide) (by omega)]; exact m4.1.1, m4.1.2⟩, fun p a b => ?_, fun p a b => by rw [e 74 p (Or.inl rfl), e 75 p (Or.inr rfl)]; exact m4.2.2 p a b⟩
        rw [e 74 p (Or.inl rfl), e 75 p (Or.inr rfl)]
        exact m4.2.1 p a b
  · rcases hp with ⟨p1, p2⟩ | ⟨p1, Bo, Wo, Ro, Lo, e', N0, p2, p3, p4, p5⟩
    · exact Or.inl ⟨by rw [hlw.2.1]; exact p1, by rw [law 76 _ _ (by decide) (by decide) (by decide) (by decide) (by omega)]; exact p2⟩
    · refine Or.inr ⟨by rw [law 76 _ _ (by decide) (by decide) (by decide) (by decide) (by omega)]; exact p1, Bo, Wo, Ro, Lo, e', N0, ?_, k_om_fr b3 p3 (fun k s q => law _ _ _ (by omega) (by omega) (by omega) (by omega) (by omega)) (fun it a b => by rw [e65]), l_cp_fr p4 (fun k s q => law _ _ _ (by omega) (by omega) (by omega) (by omega) (by omega)), fun c i a b c' d => by rw [e65, law 82 _ _ (by decide) (by decide) (by decide) (by decide) (by omega)]; exact p5 c i a b c' d⟩
      obtain ⟨q1, q2, q3, q4, q5, q6, q7⟩ := p2
      refine ⟨⟨by rw [hlw.2.1]; exact q1.1, q1.2⟩, q2, q3, q4, ?_, q6, fun x a b c => by have := q7 x a b c; have := hlw.2.2; omega⟩
      rw [← z_edn_Y, z_Y_eq hlw.1, z_edn_Y]; exact q5
theorem l_tb_up {n' : Int} (h : l_tb n B M) (hn : n ≤ n') : l_tb n' B M := ⟨fun it a b => by have := h.1 it a b; omega, h.2⟩
theorem l_all_up {n' : Int} (h : l_all n B M) (hn : n ≤ n' ∧ n' ≤ 100) : l_all n' B M := ⟨⟨z_cl_up hn h.1.1, h.1.2.1, h.1.2.2.1, h.1.2.2.2.1, h.1.2.2.2.2.1, l_tb_up h.1.2.2.2.2.2 hn.1⟩, h.2⟩
/-- scratch alone has changed -/
theorem l_scr (h : l_all n B M) (f : k_sx M N) : l_all n B N := by
  have zf : z_fr M N := fun k o s a b => f k o s a (by omega) (by omega) (by omega)
  have dr := h.1.2.2.2.1
  have e79 : ∀ s, N 79 0 s = M 79 0 s := fun s => f _ _ _ (by decide) (by decide) (by decide) (by omega)
  refine l_same h (z_cl_fr zf h.1.1) ⟨fun k o s a => zf k o s (by omega) (by omega), zf _ _ _ (by decide) (by decide), by rw [zf 10 0 14 (by decide) (by decide)]; exact Int.le_refl _⟩ (fun z => z_x_fr zf z) (zf _ _ _ (by decide) (by decide)) (fun k o s a b c d e => f k o s (by omega) b d (by omega)) (fun x x0 => zf _ _ _ (by decide) (by decide)) (fun x s => zf _ _ _ (by decide) (by decide)) (fun t => zf _ _ _ (by decide) (by decide)) ⟨?_, fun w a b => ?_⟩
  · rw [f 76 0 0 (by decide) (by decide) (by decide) (by decide), zf 5 0 2 (by decide) (by decide)]; exact dr.1
  · rw [zf 5 0 2 (by decide) (by decide)] at b
    rw [e79, zf 32 _ _ (by decide) (by decide), zf 33 _ _ (by decide) (by decide), zf 34 _ _ (by decide) (by decide)]
    exact dr.2 w a b
end
/-! whether the draft fits, class and law -/
section
variable {B : pT} {c : Int}
theorem l_ct3 (hB : c_ok B) (hB2 : c_ok2 B) (hl : k_lim B) (hc : 0 ≤ c ∧ c < 3) {but but' kd : Int} (hbt : (but = -1 ∧ but' = -1) ∨ (but = 6 * c + but' ∧ 0 ≤ but' ∧ but' < 6)) (hk : kd = -1 ∨ kd = 2 ∨ kd = 3) : k_ct3 B c but kd = y_cs B kd c but' := by
  have l6 := (hl.1 c hc.1 hc.2).1
  have b0 := (hB.1 c hc.1 hc.2).1.1
  have g6 : k_ct3 B c but kd = p_sum (y_cg B kd c but') 6 := p_sum_cg (by decide) (fun i i0 i6 => by
    have kx : k_x (6 * c + i) = 10 * c + i := k_x_c hc ⟨i0, i6⟩
    show k_sm B but kd (6 * c + i) = y_cg B kd c but' i
    unfold k_sm y_cg
    by_cases e : i = but'
    · rw [if_pos e, if_pos (by omega)]
    · rw [if_neg e, if_neg (by omega), kx]
      refine p_sum_cg (hB.2.1 _).1 (fun w _ _ => ?_)
      show k_sg B kd (6 * c + i) w = y_wg (fun w => B 4 (20 * (10 * c + i) + w)) (fun w => B 5 (20 * (10 * c + i) + w)) kd w
      have ky : k_y (6 * c + i) w = 20 * (10 * c + i) + w := by unfold k_y; rw [kx]
      unfold k_sg y_wg
      rw [ky]
      rcases hk with k | k | k
      · subst k; rfl
      · subst k; rfl
      · subst k; rfl)
  rw [g6]
  exact b_gap b0 l6 (fun i i0 i6 => by
    unfold y_cg
    split
    · rfl
    · have z := (hB2 (10 * c + i) (by omega) (by omega) (by rw [show (10 * c + i) / 10 = c by omega]; omega)).2
      unfold y_item
      rw [z]
      exact p_sum_0)
theorem l_fits (hB : c_ok B) (hB2 : c_ok2 B) (hl : k_lim B) {M : qM} (hbk : k_bk B M) (hc : 0 ≤ c ∧ c < 3) (hd : z_dr M) (ld : l_dr M) {but but' : Int} (hbt : (but = -1 ∧ but' = -1) ∨ (but = 6 * c + but' ∧ 0 ≤ but' ∧ but' < 6)) : k_fits B c but (M 5 0 2) M ↔ y_fit B c but' (M 33 0) (M 34 0) (M 5 0 2) := by
  have n0 := hd.1
  have cw := fun w (a : 0 ≤ w) (b : w < M 5 0 2) => And.intro (hd.2 w a b) (ld.2 w a b).1
  have kind : ∀ w, 0 ≤ w → w < M 5 0 2 → M 79 0 w / 16 % 8 = M 33 0 w ∧ M 79 0 w / 128 = M 34 0 w ∧ M 79 0 w / 16 = M 33 0 w + 8 * M 34 0 w := fun w a b => by
    obtain ⟨z, e⟩ := cw w a b
    have z1 := z.1
    have z2 := z.2.1
    have z3 := z.2.2.1
    rw [e]
    omega
  have s2 : p_sum (k_dn M) (M 5 0 2) = y_ws (M 33 0) (M 34 0) 2 (M 5 0 2) := p_sum_cg n0.1 (fun w a b => by
    have k := kind w a b
    show k_dn M w = y_wg (M 33 0) (M 34 0) 2 w
    unfold k_dn y_wg
    rw [k.1, k.2.1]
    rfl)
  have s3 : p_sum (k_df M) (M 5 0 2) = y_ws (M 33 0) (M 34 0) 3 (M 5 0 2) := p_sum_cg n0.1 (fun w a b => by
    have k := kind w a b
    show k_df M w = y_wg (M 33 0) (M 34 0) 3 w
    unfold k_df y_wg
    rw [k.1]
    rfl)
  have code : ∀ it w, 0 ≤ it → it < 18 → 0 ≤ w → w < B 3 (k_x it) → k_cd M it w / 16 = B 4 (k_y it w) + 8 * B 5 (k_y it w) ∧ (0 ≤ B 4 (k_y it w) ∧ B 4 (k_y it w) ≤ 6) := fun it w a b c' d => by
    have t := k_there hB2 ⟨a, b⟩ ⟨c', d⟩ hB
    have cd := hbk.2.2.1 it w a b c' d
    have k4 := (hB.2.2.2.2.1 _ t.1.1 t.1.2 t.2.1).1
    have k5 := hB.2.2.2.1 (k_y it w)
    have k6 := hB.2.2.2.2.2.1 (k_y it w)
    rw [cd]
    omega
  have lab : (∀ i, 0 ≤ i → i < M 5 0 2 → k_dl B but M i) ↔ ¬ y_two B (y_bx c but') (M 33 0) (M 34 0) (M 5 0 2) := by
    constructor
    · rintro h ⟨w, hw, k1, hit⟩
      have k := kind w hw.1 hw.2
      have d := h w hw.1 hw.2 (by rw [k.1]; exact k1)
      rcases hit with ⟨y, y6, th, nb, b4, b5⟩ | ⟨u, hu, ku, vu⟩
      · have pl := k_place hB hl y6 th
        have cdy := code (6 * (y / 200) + y / 20 % 10) (y % 20) pl.1.1 pl.1.2 pl.2.2.2.1 (by rw [pl.2.1]; exact pl.2.2.2.2)
        rw [pl.2.2.1] at cdy
        refine d.2 (6 * (y / 200) + y / 20 % 10) (y % 20) pl.1.1 pl.1.2 (fun e => nb ?_) pl.2.2.2.1 (by rw [pl.2.1]; exact pl.2.2.2.2) (by rw [cdy.1, k.2.2, b4, b5, k1])
        unfold y_bx
        have t1 := th.1
        have l6 := (hl.1 (y / 200) (by omega) (by omega)).1
        rcases hbt with ⟨b1, b2⟩ | ⟨b1, b2, b3⟩
        · omega
        · rw [if_neg (by omega)]; omega
      · have k' := kind u hu.1 (by omega)
        exact d.1 u hu.1 hu.2 (by rw [k'.2.2, k.2.2, ku, vu, k1])
    · intro h i i0 i1 ki
      have k := kind i i0 i1
      rw [k.1] at ki
      refine ⟨fun o o0 o1 e => h ⟨i, ⟨i0, i1⟩, ki, Or.inr ⟨o, ⟨o0, o1⟩, ?_⟩⟩, fun it w a b nb w0 w1 e => h ⟨i, ⟨i0, i1⟩, ki, Or.inl ⟨k_y it w, ?_⟩⟩⟩
      · have k' := kind o o0 (by omega)
        have c1 := (cw o o0 (by omega)).1.2.1
        rw [k'.2.2, k.2.2] at e
        omega
      · have t := k_there hB2 ⟨a, b⟩ ⟨w0, w1⟩ hB
        have cdy := code it w a b w0 w1
        rw [cdy.1, k.2.2] at e
        refine ⟨t.1, t.2.1, fun e2 => nb ?_, by omega, by omega⟩
        rw [t.2.2.1] at e2
        have xx := k_x_p ⟨a, b⟩
        unfold y_bx at e2
        rcases hbt with ⟨b1, b2⟩ | ⟨b1, b2, b3⟩
        · rw [if_pos b2] at e2; omega
        · rw [if_neg (by omega)] at e2; omega
  unfold k_fits y_fit
  rw [l_ct3 hB hB2 hl hc hbt (Or.inl rfl), l_ct3 hB hB2 hl hc hbt (Or.inr (Or.inl rfl)), l_ct3 hB hB2 hl hc hbt (Or.inr (Or.inr rfl)), s2, s3, lab]
end
