/-! ===== the class between two turns; calls that change it ===== -/
def z_dr (M : qM) : Prop := (0 ≤ M 5 0 2 ∧ M 5 0 2 ≤ 20) ∧ ∀ w, 0 ≤ w → w < M 5 0 2 → c_word (M 32 0 w) (M 33 0 w) (M 34 0 w)
def z_al (M : qM) : Prop := ∀ t, 0 ≤ t → t < 10 → -1 ≤ M 63 0 t ∧ M 63 0 t ≤ 9
def z_ser (n : Int) (B : pT) (M : qM) : Prop := (0 ≤ M 10 0 14 ∧ M 10 0 14 ≤ n) ∧ ∀ x, 0 ≤ x → x < 30 → 0 ≤ B 7 x ∧ B 7 x ≤ M 10 0 14
def z_bs (B : pT) (M : qM) : Prop := (c_z 0 M ∧ c_z 1 M) ∧ c_bd M ∧ c_brk B M ∧ c_35 B M
def z_cl (n : Int) (B : pT) (M : qM) : Prop := (0 ≤ n ∧ n ≤ 100) ∧ z_B B M ∧ z_dr M ∧ z_al M ∧ z_ser n B M ∧ z_bs B M ∧ (M 10 0 13 = 0 ∨ M 10 0 13 = 1)
/-- what was printed -/
def z_pp (B Bo : pT) (Wo : Int → Int) (Ro : c_R) (Lo e' : Int) (M : qM) : Prop := (M 10 0 9 = e' + 1 ∧ (e' = 0 ∨ e' = 1)) ∧ (c_ok Bo ∧ c_ok2 Bo) ∧ (∃ ob B1 R1, c_out Bo Wo ob B1 R1 (c_p0 Bo) Ro) ∧ (0 ≤ Lo ∧ Lo ≤ 1000) ∧ c_edn Bo Ro (c_tot Bo Ro Lo) e' M ∧ c_rel B Bo ∧ ∀ x, 0 ≤ x → x < 30 → x % 10 < Bo 0 (x / 10) → Bo 7 x ≤ M 10 0 14
def z_sY (k : Nat) : Bool := Nat.beq k 3 || (Nat.beq k 8 || Nat.beq k 9) || (Nat.ble 23 k && Nat.ble k 26) || (Nat.ble 43 k && Nat.ble k 61)
def z_Y (M : qM) : qM := fun k m s => bif z_sY k then M k m s else 0
/-- a call that leaves the law's arrays and the editions -/
def z_lw (M M' : qM) : Prop := (∀ (k : Nat) (o s : Int), 64 ≤ k → M' k o s = M k o s) ∧ (∀ (k : Nat) (o s : Int), (k = 3 ∨ k = 8 ∨ k = 9 ∨ (23 ≤ k ∧ k ≤ 26) ∨ (43 ≤ k ∧ k ≤ 61)) → M' k o s = M k o s) ∧ M' 10 0 9 = M 10 0 9 ∧ M 10 0 14 ≤ M' 10 0 14
theorem z_Y_eq {M M' : qM} (h : ∀ (k : Nat) (o s : Int), (k = 3 ∨ k = 8 ∨ k = 9 ∨ (23 ≤ k ∧ k ≤ 26) ∨ (43 ≤ k ∧ k ≤ 61)) → M' k o s = M k o s) : z_Y M' = z_Y M := by
  funext k m s
  unfold z_Y
  cases e : z_sY k with
  | false => rfl
  | true =>
    refine h k m s ?_
    unfold z_sY at e
    simp only [Bool.or_eq_true, Bool.and_eq_true, Nat.beq_eq, Nat.ble_eq] at e
    omega
section
variable {B Bo : pT} {Wo : Int → Int} {R Ro : c_R} {Lo e' tot : Int} {M M' : qM}
theorem z_edn_Y : c_edn Bo Ro tot e' (z_Y M) = c_edn Bo Ro tot e' M := rfl
theorem z_lw_t {M2 : qM} (h : z_lw M M') (h' : z_lw M' M2) : z_lw M M2 := ⟨fun k o s a => by rw [h'.1 k o s a, h.1 k o s a], fun k o s a => by rw [h'.2.1 k o s a, h.2.1 k o s a], by rw [h'.2.2.1, h.2.2.1], by have := h.2.2.2; have := h'.2.2.2; omega⟩
theorem z_pp_lw {B' : pT} (h : z_pp B Bo Wo Ro Lo e' M) (f : z_lw M M') (hr : c_rel B' Bo) : z_pp B' Bo Wo Ro Lo e' M' := by
  obtain ⟨h1, h2, h3, h4, h5, h6, h7⟩ := h
  refine ⟨⟨by rw [f.2.2.1]; exact h1.1, h1.2⟩, h2, h3, h4, ?_, hr, fun x a b c => by have := h7 x a b c; have := f.2.2.2; omega⟩
  rw [← z_edn_Y, z_Y_eq f.2.1, z_edn_Y]; exact h5
/-- only what is scratch to the class: the law's arrays, kind 7 -/
theorem z_B_X : z_B B (z_X M) = z_B B M := rfl
theorem z_cl_X {n : Int} : z_cl n B (z_X M) = z_cl n B M := rfl
theorem z_cl_fr {n : Int} (f : z_fr M M') (h : z_cl n B M) : z_cl n B M' := by
  rw [← z_cl_X, z_fr_X f, z_cl_X]; exact h
theorem z_pp_X : z_pp B Bo Wo Ro Lo e' (z_X M) = z_pp B Bo Wo Ro Lo e' M := rfl
theorem z_pp_fr (f : z_fr M M') (h : z_pp B Bo Wo Ro Lo e' M) : z_pp B Bo Wo Ro Lo e' M' := by
  rw [← z_pp_X, z_fr_X f, z_pp_X]; exact h
theorem z_x_X {en L : Int} {W : Int → Int} : z_x B en W R L (z_X M) = z_x B en W R L M := rfl
theorem z_x_fr {en L : Int} {W : Int → Int} (f : z_fr M M') (h : z_x B en W R L M) : z_x B en W R L M' := by
  rw [← z_x_X, z_fr_X f, z_x_X]; exact h
theorem z_cl_up {n n' : Int} (hn : n ≤ n' ∧ n' ≤ 100) (h : z_cl n B M) : z_cl n' B M := ⟨⟨by have := h.1; omega, hn.2⟩, h.2.1, h.2.2.1, h.2.2.2.1, ⟨⟨h.2.2.2.2.1.1.1, by have := h.2.2.2.2.1.1.2; omega⟩, h.2.2.2.2.1.2⟩, h.2.2.2.2.2⟩
end
/-! measures -/
def z_sU (k : Nat) (s : Int) : Bool := (Nat.beq k 10 && decide (10 ≤ s ∧ s ≤ 13)) || Nat.beq k 63
def z_U (M : qM) : qM := fun k m s => bif z_sU k s then 0 else M k m s
theorem z_U_eq {M M' : qM} (h : ∀ (k : Nat) (o s : Int), ¬ (k = 10 ∧ 10 ≤ s ∧ s ≤ 13) → k ≠ 63 → M' k o s = M k o s) : z_U M' = z_U M := by
  funext k m s
  unfold z_U
  cases e : z_sU k s with
  | true => rfl
  | false =>
    refine h k m s (fun z => ?_) (fun z => ?_)
    · obtain ⟨rfl, z⟩ := z
      have : z_sU 10 s = true := by unfold z_sU; rw [decide_eq_true z]; rfl
      rw [this] at e; cases e
    · subst z
      have : z_sU 63 s = true := by unfold z_sU; cases (Nat.beq 63 10 && decide (10 ≤ s ∧ s ≤ 13)) <;> rfl
      rw [this] at e; cases e
theorem z_un {n : Int} {B : pT} {M N : qM} {Z : Int → Int} (h : z_cl n B M) (f : ∀ (k : Nat) (o s : Int), ¬ (k = 10 ∧ o = 0 ∧ 10 ≤ s ∧ s ≤ 13) → ¬ (k = 63 ∧ o = 0) → N k o s = M k o s) (hZ : (8 ≤ Z 0 ∧ Z 0 ≤ 30) ∧ (8 ≤ Z 1 ∧ Z 1 ≤ 14) ∧ (Z 2 = 0 ∨ Z 2 = 1)) (h13 : N 10 0 13 = 0) (hm : N 10 0 10 = Z 0 ∧ N 10 0 11 = Z 1 ∧ N 10 0 12 = Z 2) (ha : z_al N) : z_cl n (c_s8 Z B) N ∧ z_lw M N := by
  obtain ⟨h0, ⟨⟨hB, hB2⟩, ⟨hbk, _⟩, hlm, hed⟩, hdr, _, hsr, hbs, _⟩ := h
  have x := z_U_eq (M := M) (M' := N) (fun k o s a b => f k o s (fun z => a ⟨z.1, z.2.2⟩) (fun z => b z.1))
  have cg : ∀ {P : qM → Prop}, (∀ M, P (z_U M) = P M) → P M → P N := fun hP p => by rw [← hP N, x, hP M]; exact p
  refine ⟨⟨h0, ⟨⟨c_ok_s8 hB hZ, hB2⟩, ⟨cg (P := c_bk B) (fun _ => rfl) hbk, hm⟩, cg (P := z_lm) (fun _ => rfl) hlm, cg (P := c_ed) (fun _ => rfl) hed⟩, cg (P := z_dr) (fun _ => rfl) hdr, ha, cg (P := z_ser n B) (fun _ => rfl) hsr, cg (P := z_bs B) (fun _ => rfl) hbs, Or.inl h13⟩, fun k o s a => f k o s (by omega) (by omega), fun k o s a => f k o s (by omega) (by omega), f _ _ _ (by omega) (by omega), by rw [f 10 0 14 (by omega) (by omega)]; exact Int.le_refl _⟩
section
variable {d : Nat} {h : qH} {B : pT} {n : Int} {M : qM} {F : Int → qH → qM → Prop}
theorem C152 {a b : Int} (hS : qSe h) (hz : z_cl n B M) (H1 : (8 ≤ a ∧ a ≤ 30) ∧ 8 ≤ b ∧ b ≤ 14 → ∀ N, z_cl n (c_s8 (fun s => if s = 0 then a else if s = 1 then b else B 8 2) B) N → z_lw M N → N 10 0 13 = 0 → (∀ t, N 63 0 t = M 63 0 t) → N 5 0 2 = M 5 0 2 → (∀ k w, 32 ≤ k → k ≤ 36 → ∀ o, N k o w = M k o w) → (∀ x s, N 5 x s = M 5 x s) → F (B 8 0) h N) (H0 : ¬ ((8 ≤ a ∧ a ≤ 30) ∧ 8 ≤ b ∧ b ≤ 14) → F (-7200) (lBh h) M) : e152 (d + 2) h a b M F := by
  have ms := hz.2.1.2.1.2
  have al := hz.2.2.2.1
  have hB := hz.2.1.1.1
  refine W152 (w95 hS ⟨fun z => w95_24 hS (l_g0 (H0 (by omega))), fun z1 => ⟨fun z2 => ⟨fun z => w95_24 hS (l_g0 (H0 (by omega))), fun z3 => ⟨fun z4 M1 f1 M2 f2 M3 f3 => ?_, fun z => w95_24 hS (l_g0 (H0 (by omega)))⟩⟩, fun z => w95_24 hS (l_g0 (H0 (by omega)))⟩⟩)
  rw [ms.1]
  have O : ∀ (k : Nat) (o s : Int), ¬ (k = 10 ∧ o = 0 ∧ (s = 10 ∨ s = 11 ∨ s = 13)) → M3 k o s = M k o s := fun k o s q => by rw [f3, f2, f1]; unfold qU; rw [if_neg (by omega), if_neg (by omega), if_neg (by omega)]
  have e13 : M3 10 0 13 = 0 := by rw [f3, qU_s]
  have r := z_un (N := M3) (Z := fun s => if s = 0 then a else if s = 1 then b else B 8 2) hz (fun k o s q _ => O k o s (fun z => q ⟨z.1, z.2.1, by omega, by omega⟩)) ⟨⟨by show 8 ≤ a; omega, z2⟩, ⟨by show 8 ≤ b; omega, z4⟩, hB.2.2.2.2.2.2.2.2⟩ e13 ⟨by rw [f3, qU_l (by decide), f2, qU_l (by decide), f1, qU_s]; rfl, by rw [f3, qU_l (by decide), f2, qU_s]; rfl, by rw [O _ _ _ (by omega)]; exact ms.2.2⟩ (fun t t0 t1 => by rw [O _ _ _ (by omega)]; exact al t t0 t1)
  exact H1 ⟨⟨by omega, z2⟩, by omega, z4⟩ M3 r.1 r.2 e13 (fun t => O _ _ _ (by omega)) (O _ _ _ (by omega)) (fun k w a b o => O _ _ _ (by omega)) (fun x s => O _ _ _ (by omega))
theorem C96 {f : Int → qM → Prop} {v : Int} (hS : qSe h) (hz : z_cl n B M) (hv : v = 0 ∨ v = 1) (H1 : ∀ N, z_cl n (c_s8 (fun s => if s = 2 then v else B 8 s) B) N → z_lw M N → N 10 0 13 = 0 → (∀ t, N 63 0 t = M 63 0 t) → N 5 0 2 = M 5 0 2 → (∀ k w, 32 ≤ k → k ≤ 36 → ∀ o, N k o w = M k o w) → (∀ x s, N 5 x s = M 5 x s) → f (B 8 2) N) : e96 (d + 1) h v M f := by
  have ms := hz.2.1.2.1.2
  have al := hz.2.2.2.1
  have hB := hz.2.1.1.1
  refine w96 hS ⟨hv, fun M1 f1 M2 f2 => ?_⟩
  rw [ms.2.2]
  have O : ∀ (k : Nat) (o s : Int), ¬ (k = 10 ∧ o = 0 ∧ (s = 12 ∨ s = 13)) → M2 k o s = M k o s := fun k o s q => by rw [f2, f1]; unfold qU; rw [if_neg (by omega), if_neg (by omega)]
  have e13 : M2 10 0 13 = 0 := by rw [f2, qU_s]
  have r := z_un (N := M2) (Z := fun s => if s = 2 then v else B 8 s) hz (fun k o s q _ => O k o s (fun z => q ⟨z.1, z.2.1, by omega, by omega⟩)) ⟨hB.2.2.2.2.2.2.1, hB.2.2.2.2.2.2.2.1, hv⟩ e13 ⟨by rw [O _ _ _ (by omega)]; exact ms.1, by rw [O _ _ _ (by omega)]; exact ms.2.1, by rw [f2, qU_l (by decide), f1, qU_s]; rfl⟩ (fun t t0 t1 => by rw [O _ _ _ (by omega)]; exact al t t0 t1)
  exact ⟨hB.2.2.2.2.2.2.2.2, H1 M2 r.1 r.2 e13 (fun t => O _ _ _ (by omega)) (O _ _ _ (by omega)) (fun k w a b o => O _ _ _ (by omega)) (fun x s => O _ _ _ (by omega))⟩
theorem C158 {t o : Int} (hS : qSe h) (hz : z_cl n B M) (H1 : (0 ≤ t ∧ t < 10) → (-1 ≤ o ∧ o ≤ 9) ∧ o ≠ t → ∀ N, z_cl n (c_s8 (B 8) B) N → z_lw M N → N 10 0 13 = 0 → (∀ s, N 63 0 s = if s = t then o else M 63 0 s) → N 5 0 2 = M 5 0 2 → (∀ k w, 32 ≤ k → k ≤ 36 → ∀ o, N k o w = M k o w) → (∀ x s, N 5 x s = M 5 x s) → F (M 63 0 t) h N) (H2 : (0 ≤ t ∧ t < 10) → ¬ ((-1 ≤ o ∧ o ≤ 9) ∧ o ≠ t) → F (-7200) (lBh h) M) (H0 : ¬ (0 ≤ t ∧ t < 10) → F (-7100) (lBh h) M) : e158 (d + 4) h t o M F := by
  have ms := hz.2.1.2.1.2
  have al := hz.2.2.2.1
  have hB := hz.2.1.1.1
  refine W158 (w103 hS (t136 hS (fun q => ⟨fun z => w103_21 hS (l_g0 (H2 q (by omega))), fun z1 => ⟨fun z2 => ⟨fun z => w103_21 hS (l_g0 (H2 q (by omega))), fun z3 => ⟨q, q, fun M1 f1 M2 f2 => ?_⟩⟩, fun z => w103_21 hS (l_g0 (H2 q (by omega)))⟩⟩) (fun q => l_g2 (H0 q))))
  have O : ∀ (k : Nat) (m s : Int), ¬ (k = 10 ∧ m = 0 ∧ s = 13) → ¬ (k = 63 ∧ m = 0 ∧ s = t) → M2 k m s = M k m s := fun k m s q q2 => by rw [f2, f1]; unfold qU; rw [if_neg (by omega), if_neg (by omega)]
  have e13 : M2 10 0 13 = 0 := by rw [f2, qU_s]
  have e63 : ∀ s, M2 63 0 s = if s = t then o else M 63 0 s := fun s => by
    by_cases e : s = t
    · rw [if_pos e, e, f2, qU_k (by decide), f1, qU_s]
    · rw [if_neg e]; exact O _ _ _ (by omega) (by omega)
  have r := z_un (N := M2) (Z := B 8) hz (fun k m s q q2 => O k m s (fun z => q ⟨z.1, z.2.1, by omega, by omega⟩) (fun z => q2 ⟨z.1, z.2.1⟩)) ⟨hB.2.2.2.2.2.2.1, hB.2.2.2.2.2.2.2.1, hB.2.2.2.2.2.2.2.2⟩ e13 ⟨by rw [O _ _ _ (by omega) (by omega)]; exact ms.1, by rw [O _ _ _ (by omega) (by omega)]; exact ms.2.1, by rw [O _ _ _ (by omega) (by omega)]; exact ms.2.2⟩ (fun s s0 s1 => by
    rw [e63]
    by_cases e : s = t
    · rw [if_pos e]; omega
    · rw [if_neg e]; exact al s s0 s1)
  exact H1 q ⟨⟨by omega, by omega⟩, z3⟩ M2 r.1 r.2 e13 e63 (O _ _ _ (by omega) (by omega)) (fun k w a b o => O _ _ _ (by omega) (by omega)) (fun x s => O _ _ _ (by omega) (by omega))
end
/-! words of the draft -/
theorem z_dw {n : Int} {B : pT} {M N : qM} (h : z_cl n B M) (f : ∀ (k : Nat) (m s : Int), ¬ (k = 5 ∧ m = 0 ∧ s = 2) → ¬ (32 ≤ k ∧ k ≤ 34 ∧ m = 0) → N k m s = M k m s) (hd : z_dr N) (hl : z_lm N) : z_cl n B N ∧ z_lw M N ∧ ∀ {en L : Int} {W : Int → Int} {R : c_R}, z_x B en W R L M → z_x B en W R L N := by
  obtain ⟨h0, ⟨hBB, ⟨hbk, hms⟩, _, hed⟩, _, hal, hsr, ⟨hz, hbd, hbr, h35⟩, h13⟩ := h
  have f5 : ∀ x s : Int, 0 ≤ x → N 5 (1 + x) s = M 5 (1 + x) s := fun x s x0 => f 5 _ _ (by omega) (by omega)
  have f3 : ∀ (k : Nat) (x s : Int), 32 ≤ k → k ≤ 34 → 0 ≤ x → N k (1 + x) s = M k (1 + x) s := fun k x s k0 k1 x0 => f k _ _ (by omega) (by omega)
  have o36 : ∀ x, N 36 x = M 36 x := fun x => by funext s; exact f 36 _ _ (by omega) (by omega)
  have o37 : ∀ x, N 37 x = M 37 x := fun x => by funext s; exact f 37 _ _ (by omega) (by omega)
  have o : ∀ k : Nat, k ≠ 5 → ¬ (32 ≤ k ∧ k ≤ 34) → N k = M k := fun k a b => by funext m s; exact f k m s (by omega) (by omega)
  have brk : c_brk B N := ⟨fun x x0 x1 r => by rw [f5 x 8 x0, f5 x 10 x0, f5 x 11 x0, o36, o37]; exact hbr.1 x x0 x1 r, fun x x0 x1 r => by rw [f5 x 11 x0, o37]; exact hbr.2 x x0 x1 r⟩
  have n35 : c_35 B N := by unfold c_35; rw [o 35 (by decide) (by decide)]; exact h35
  have e10 := o 10 (by decide) (by decide)
  have c0 : ∀ e, c_z e M → c_z e N := fun e z => by
    unfold c_z at *
    rw [o 54 (by decide) (by decide), o 55 (by decide) (by decide), o 56 (by decide) (by decide), o 57 (by decide) (by decide), o 61 (by decide) (by decide)]
    exact z
  have lw : z_lw M N := ⟨fun k m s a => f k m s (by omega) (by omega), fun k m s a => f k m s (by omega) (by omega), by rw [e10], by rw [e10]; exact Int.le_refl _⟩
  refine ⟨⟨h0, ⟨hBB, ⟨⟨fun c a b => ?_, fun x x0 x1 => ?_, fun y y0 y1 => ?_⟩, ?_⟩, hl, ?_⟩, hd, ?_, ?_, ⟨⟨c0 0 hz.1, c0 1 hz.2⟩, ?_, brk, n35⟩, by rw [e10]; exact h13⟩, lw, fun {en L W R} z => ?_⟩
  · rw [f 1 _ _ (by omega) (by omega)]; exact hbk.1 c a b
  · rw [f5 x 0 x0, f5 x 1 x0, f5 x 2 x0, f5 x 3 x0]; exact hbk.2.1 x x0 x1
  · rw [f3 33 _ _ (by decide) (by decide) (by omega), f3 34 _ _ (by decide) (by decide) (by omega), f3 32 _ _ (by decide) (by decide) (by omega)]; exact hbk.2.2 y y0 y1
  · unfold c_ms; rw [e10]; exact hms
  · unfold c_ed; rw [e10]; exact hed
  · unfold z_al; rw [o 63 (by decide) (by decide)]; exact hal
  · unfold z_ser; rw [e10]; exact hsr
  · unfold c_bd; rw [o 41 (by decide) (by decide), o 40 (by decide) (by decide)]; exact hbd
  · obtain ⟨z1, z2, z3, z4, z5, z6, z7, z8⟩ := z
    refine ⟨by rw [e10]; exact z1, z2, z3, ?_, ⟨fun x x0 x1 => by rw [f5 x 10 x0, f5 x 11 x0, o37]; exact z5.1 x x0 x1, ?_⟩, by rw [o 2 (by decide) (by decide)]; exact z6, n35, brk⟩
    · rw [← z_edn_Y, z_Y_eq lw.2.1, z_edn_Y]; exact z4
    · have t := z5.2
      have ix : ∀ t, x_idx (c_K B) (B 5) (c_G B R) t 600 N = x_idx (c_K B) (B 5) (c_G B R) t 600 M := fun t => by
        unfold x_idx
        rw [o 27 (by decide) (by decide), o 29 (by decide) (by decide), o 31 (by decide) (by decide)]
      rw [o 35 (by decide) (by decide), o 38 (by decide) (by decide), o 4 (by decide) (by decide), o 27 (by decide) (by decide), o 63 (by decide) (by decide)]
      exact ⟨t.1, t.2.1, fun s s0 s1 => by rw [ix]; exact t.2.2.1 s s0 s1, t.2.2.2⟩
section
variable {d : Nat} {h : qH} {B : pT} {n : Int} {M : qM} {F : Int → qH → qM → Prop}
theorem z_put {w k v c : Int} {N : qM} (hz : z_cl n B M) (hc : M 5 0 2 = c) (c20 : c < 20) (cw : c_word w k v) (O1 : ∀ (kk : Nat) (m s : Int), ¬ (kk = 5 ∧ m = 0 ∧ s = 2) → ¬ (32 ≤ kk ∧ kk ≤ 34 ∧ m = 0 ∧ s = c) → N kk m s = M kk m s) (a5 : N 5 0 2 = c + 1) (a2 : N 32 0 c = w) (a3 : N 33 0 c = k) (a4 : N 34 0 c = v) : z_cl n B N ∧ z_lw M N ∧ ∀ {en L : Int} {W : Int → Int} {R : c_R}, z_x B en W R L M → z_x B en W R L N := by
  obtain ⟨d1, d3⟩ := hz.2.2.1
  have lm := hz.2.1.2.2.1
  refine z_dw hz (fun kk m s q q2 => O1 kk m s q (fun z => q2 ⟨z.1, z.2.1, z.2.2.1⟩)) ⟨by omega, fun x x0 x1 => ?_⟩ ⟨fun it i => ?_, fun it => ?_⟩
  · by_cases e : x = c
    · subst e; rw [a2, a3, a4]; exact cw
    · rw [O1 32 _ _ (by omega) (by omega), O1 33 _ _ (by omega) (by omega), O1 34 _ _ (by omega) (by omega)]
      exact d3 x x0 (by omega)
  · by_cases e : it = 0 ∧ i = c
    · rw [e.1, e.2, a2]; exact cw.1
    · rw [O1 _ _ _ (by omega) (by omega)]; exact lm.1 it i
  · by_cases e : it = 0
    · rw [e, a5]; omega
    · rw [O1 _ _ _ (by omega) (by omega)]; exact lm.2 it
theorem C153 {w k v : Int} (hS : qSe h) (hz : z_cl n B M) (H1 : (1 ≤ w ∧ w ≤ 8) ∧ qVal k v → M 5 0 2 < 20 → ∀ N, z_cl n B N → z_lw M N → (∀ {en L : Int} {W : Int → Int} {R : c_R}, z_x B en W R L M → z_x B en W R L N) → (∀ (kk : Nat) (m s : Int), ¬ (kk = 5 ∧ m = 0 ∧ s = 2) → ¬ (32 ≤ kk ∧ kk ≤ 34 ∧ m = 0 ∧ s = M 5 0 2) → N kk m s = M kk m s) → N 5 0 2 = M 5 0 2 + 1 → N 32 0 (M 5 0 2) = w ∧ N 33 0 (M 5 0 2) = k ∧ N 34 0 (M 5 0 2) = v → F (M 5 0 2 + 1) h N) (H2 : (1 ≤ w ∧ w ≤ 8) ∧ qVal k v → ¬ M 5 0 2 < 20 → F (-7300) (lBh h) M) (H0 : ¬ ((1 ≤ w ∧ w ≤ 8) ∧ qVal k v) → F (-7200) (lBh h) M) : e153 (d + 4) h w k v M F := by
  obtain ⟨d1, d3⟩ := hz.2.2.1
  refine W153 (w97 hS ⟨fun z => w97_19 hS (l_g0 (H0 (by omega))), fun z1 => ⟨fun z2 => t146 (fun qv => ⟨fun z => absurd z (by decide), fun _ => w139 hS ⟨fun c20 => ?_, fun c20 => l_g1 (H2 ⟨⟨by omega, z2⟩, qv⟩ (by omega))⟩⟩) (fun qv => ⟨fun _ => w97_19 hS (l_g0 (H0 (fun z => qv z.2))), fun z => absurd rfl z⟩), fun z => w97_19 hS (l_g0 (H0 (by omega)))⟩⟩)
  refine t44 hS (c := M 5 0 2) rfl ⟨by omega, c20⟩ (fun M1 O1 a5 a2 a3 a4 => ?_)
  rw [a5]
  have cw : c_word w k v := by
    unfold qVal at qv
    unfold c_word
    omega
  have r := z_put hz rfl c20 cw O1 a5 a2 a3 a4
  exact H1 ⟨⟨by omega, z2⟩, qv⟩ c20 M1 r.1 r.2.1 r.2.2 O1 a5 ⟨a2, a3, a4⟩
theorem C154 {v : Int} (hS : qSe h) (hz : z_cl n B M) (H1 : (0 ≤ v ∧ v < 10) → M 5 0 2 < 20 → ∀ N, z_cl n B N → z_lw M N → (∀ {en L : Int} {W : Int → Int} {R : c_R}, z_x B en W R L M → z_x B en W R L N) → (∀ (kk : Nat) (m s : Int), ¬ (kk = 5 ∧ m = 0 ∧ s = 2) → ¬ (32 ≤ kk ∧ kk ≤ 34 ∧ m = 0 ∧ s = M 5 0 2) → N kk m s = M kk m s) → N 5 0 2 = M 5 0 2 + 1 → N 32 0 (M 5 0 2) = 0 ∧ N 33 0 (M 5 0 2) = 6 ∧ N 34 0 (M 5 0 2) = v → F (M 5 0 2 + 1) h N) (H2 : (0 ≤ v ∧ v < 10) → ¬ M 5 0 2 < 20 → F (-7300) (lBh h) M) (H0 : ¬ (0 ≤ v ∧ v < 10) → F (-7200) (lBh h) M) : e154 (d + 4) h v M F := by
  obtain ⟨d1, d3⟩ := hz.2.2.1
  refine W154 (w98 hS (t145 hS (fun qv => ⟨fun z => absurd z (by decide), fun _ => w139 hS ⟨fun c20 => ?_, fun c20 => l_g1 (H2 qv (by omega))⟩⟩) (fun qv => ⟨fun _ => l_g0 (H0 qv), fun z => absurd rfl z⟩)))
  refine t44 hS (c := M 5 0 2) rfl ⟨by omega, c20⟩ (fun M1 O1 a5 a2 a3 a4 => ?_)
  rw [a5]
  have cw : c_word 0 6 v := by
    unfold c_word
    omega
  have r := z_put hz rfl c20 cw O1 a5 a2 a3 a4
  exact H1 qv c20 M1 r.1 r.2.1 r.2.2 O1 a5 ⟨a2, a3, a4⟩
theorem C99 {f : Int → qM → Prop} (hS : qSe h) (hz : z_cl n B M) (H1 : ∀ N, z_cl n B N → z_lw M N → (∀ {en L : Int} {W : Int → Int} {R : c_R}, z_x B en W R L M → z_x B en W R L N) → (∀ (kk : Nat) (m s : Int), ¬ (kk = 5 ∧ m = 0 ∧ s = 2) → N kk m s = M kk m s) → N 5 0 2 = 0 → f (M 5 0 2) N) : e99 (d + 1) h M f := by
  obtain ⟨d1, d3⟩ := hz.2.2.1
  have lm := hz.2.1.2.2.1
  refine w99 hS (fun M1 f1 => ?_)
  have O : ∀ (k : Nat) (m s : Int), ¬ (k = 5 ∧ m = 0 ∧ s = 2) → M1 k m s = M k m s := fun k m s q => by rw [f1]; unfold qU; rw [if_neg q]
  have v5 : M1 5 0 2 = 0 := by rw [f1, qU_s]
  have r := z_dw (N := M1) hz (fun k m s q _ => O k m s q) ⟨by omega, fun w w0 w1 => by omega⟩ ⟨fun it i => by rw [O _ _ _ (by omega)]; exact lm.1 it i, fun it => by
    by_cases e : it = 0
    · rw [e, v5]; omega
    · rw [O _ _ _ (by omega)]; exact lm.2 it⟩
  exact H1 M1 r.1 r.2.1 r.2.2 O v5
end
