/-! ===== what is composed ===== -/
def c_lal (B : pT) (R : c_R) : Int := c_la (r_W R) (c_p0 B) 3
def c_tot (B : pT) (R : c_R) (L : Int) : Int := c_lal B R + (L + 2 * B 8 1 - 1) / (2 * B 8 1)
/-- an edition that holds the round R -/
def c_edn (B : pT) (R : c_R) (tot e : Int) (M : qM) : Prop := (∀ c, 0 ≤ c → c < 3 → c_ch (r_A B R c) (B 0 c) (r_W R c) c e M) ∧ M 3 e 4 = c_lal B R ∧ (∀ y, 0 ≤ y → y < 600 → c_there B y → M 24 e y = c_G B R y ∧ M 26 e y = (if c_K B y = 2 then b_num (c_K B) (c_G B R) (B 8 2) y else 0) ∧ M 25 e y = if c_K B y = 6 then b_text (c_K B) (B 5) (c_G B R) y else -1) ∧ (M 3 e 0 = B 8 0 ∧ M 3 e 1 = B 8 1 ∧ M 3 e 2 = B 8 2 ∧ M 3 e 3 = c_p0 B) ∧ (∀ x, 0 ≤ x → x < 30 → x % 10 < B 0 (x / 10) → M 23 e x = B 7 x) ∧ M 3 e 5 = tot
/-- what else the class holds of it -/
def c_now (B : pT) (W : Int → Int) (R : c_R) (L : Int) (M : qM) : Prop := (∀ x, 0 ≤ x → x < 30 → M 5 (1 + x) 10 = r_L R x ∧ M 5 (1 + x) 11 = r_C R x ∧ ∀ s, M 37 (1 + x) s = r_E R x s) ∧ (∀ y, 0 ≤ y → y < 600 → c_there B y → M 35 (1 + y / 20) (y % 20) = W y) ∧ (∀ c, 0 ≤ c → c < 3 → ∀ y, 200 * c ≤ y → y < 200 * c + 200 → M 38 0 y = mg_p (c_mgn B R c (w_wr (r_W R c)).toNat) y) ∧ (∀ t, 0 ≤ t → t < 10 → x_idx (c_K B) (B 5) (c_G B R) t 600 M) ∧ M 4 0 3 = L ∧ M 4 0 4 = (L + 2 * B 8 1 - 1) / (2 * B 8 1) ∧ M 4 0 5 = B 8 1 ∧ L = x_L (M 27 0) (M 63 0)
theorem c_comp_out {B : pT} {ob : Prop} {Bo : pT} {Ro R : c_R} {p0 res set' cnt : Int} {at' wd W : Int → Int} (h : c_comp B ob Bo Ro p0 at' wd W R res set' cnt) : c_out B W ob Bo Ro p0 R ∧ 0 < res ∧ (∀ y, (0 ≤ W y ∧ W y ≤ 8) ∧ (b_ch (c_K B) y = 0 → W y = 0)) ∧ (set' = 0 ∨ set' = 1) := by
  rcases h with ⟨Rq, r, hr, hch, hgo, hf, rfl, rfl, rfl, rfl, rfl⟩ | ⟨Rq, n, v, hn, hch, hgo, hf, hv, hv2, rfl, out, rfl, rfl, rfl⟩
  · exact ⟨hch r hr.1 (by omega), by omega, fun y => c_Wq_b y, Or.inl rfl⟩
  · refine ⟨out, by omega, fun y => c_wide_b ?_ y, Or.inr rfl⟩
    unfold c_first at hf
    rw [show n - 1 + 1 = n by omega] at hf
    rcases hf with hf | hf
    · rw [if_pos (by omega)]; omega
    · rw [if_neg (by omega)]; omega
/-- what a compose leaves in the class -/
def fr104 (en : Int) (M M' : qM) : Prop := ∀ (k : Nat) (m s : Int), (64 ≤ k ∨ k = 11 ∨ k = 63 ∨ k = 1 ∨ k = 32 ∨ k = 33 ∨ k = 34 ∨ (k = 5 ∧ s ≤ 3) ∨ (k = 10 ∧ s ≠ 8 ∧ s ≠ 13) ∨ ((k = 3 ∨ (23 ≤ k ∧ k ≤ 26)) ∧ m ≠ en) ∨ ((k = 9 ∨ (48 ≤ k ∧ k ≤ 61)) ∧ ¬ (1 + 3 * en ≤ m ∧ m < 1 + 3 * en + 3)) ∨ ((k = 8 ∨ (43 ≤ k ∧ k ≤ 47)) ∧ ¬ (0 + 3 * en ≤ m ∧ m < 0 + 3 * en + 3))) → M' k m s = M k m s
theorem t104 {d : Nat} {h : qH} (hS : qSe h) {B Bo : pT} {Ro : c_R} {e0 e' b : Int} {at' wd : Int → Int} {M : qM} {F : Int → qM → Prop} {G : Nat → qM → Prop}
    (hB : c_ok B) (hB2 : c_ok2 B) (hM : c_bk B M) (hme : M 10 0 10 = B 8 0 ∧ M 10 0 11 = B 8 1 ∧ M 10 0 12 = B 8 2) (hnow : M 10 0 8 = e0 + 1 ∧ (e0 = 0 ∨ e0 = 1)) (hz : c_z 0 M ∧ c_z 1 M) (hst : c_bd M ∧ c_brk B M ∧ c_35 B M) (hlm : (∀ it i, 0 ≤ M 32 it i ∧ M 32 it i ≤ 8) ∧ ∀ it, 0 ≤ M 5 it 2 ∧ M 5 it 2 ≤ 20) (hat : ∀ x, 0 ≤ x → x < 30 → x % 10 < B 0 (x / 10) → B 1 x = 0 → M 5 (1 + x) 8 = at' x ∧ ∀ j, 0 ≤ j → j < B 3 x → M 36 (1 + x) j = wd (20 * x + j))
    (hpr : M 10 0 9 = 0 ∨ (M 10 0 9 = e' + 1 ∧ (e' = 0 ∨ e' = 1) ∧ c_om Bo Ro e' M ∧ ∀ L E, c_oldok B L E Bo Ro))
    (HX : b ≠ 0 → M 10 0 9 = 0 → G 1 M)
    (H1 : ¬ (b ≠ 0 ∧ M 10 0 9 = 0) → ∀ M' en W R res set' cnt L, fr104 en M M' → (en = 0 ∨ en = 1) → (M 10 0 9 = 0 ∨ en ≠ e') → M' 10 0 8 = en + 1 → M' 10 0 13 = 1 → (c_bd M' ∧ (c_z 0 M' ∧ c_z 1 M') ∧ c_brk B M' ∧ c_35 B M') → c_comp B (b ≠ 0) Bo Ro (c_p0 B) at' wd W R res set' cnt → c_edn B R (c_tot B R L) en M' → c_now B W R L M' → c_brkW B W M' → M' 2 0 10 = set' → M' 2 0 9 = cnt → F res M')
    (H0 : ¬ (b ≠ 0 ∧ M 10 0 9 = 0) → ∀ M' en W, fr104 en M M' → (en = 0 ∨ en = 1) → (M 10 0 9 = 0 ∨ en ≠ e') → M' 10 0 8 = en + 1 → M' 10 0 13 = 0 → (c_bd M' ∧ (c_z 0 M' ∧ c_z 1 M') ∧ c_brk B M' ∧ c_35 B M') → c_ncomp B (b ≠ 0) Bo Ro (c_p0 B) W → c_brkW B W M' → F (-1) M') : e104 (d + 8) h b M F G := by
  have h180 := c_180 hB
  have pb := c_p0_b hB
  have hp : 0 ≤ c_p0 B ∧ c_p0 B ≤ 100 := by omega
  have hD := hB.2.2.2.2.2.2.2.1
  -- from the choice of the edition on
  have go : ¬ (b ≠ 0 ∧ M 10 0 9 = 0) → ∀ (M1 : qM) (en : Int) (u2 : qV), (en = 0 ∨ en = 1) → (M 10 0 9 = 0 ∨ en ≠ e') → M1 10 0 8 = en + 1 → (∀ (k : Nat) (m s : Int), ¬ (k = 10 ∧ m = 0 ∧ s = 8) → M1 k m s = M k m s) → b104_58 d h F G b u2 M1 := by
    intro hno M1 en u2 hen hne h8 O1
    have bk1 : c_bk B M1 := ⟨fun c a b => by rw [O1 _ _ _ (by omega)]; exact hM.1 c a b, fun x a b => by rw [O1 _ _ _ (by omega), O1 _ _ _ (by omega), O1 _ _ _ (by omega), O1 _ _ _ (by omega)]; exact hM.2.1 x a b, fun y a b => by rw [O1 _ _ _ (by omega), O1 _ _ _ (by omega), O1 _ _ _ (by omega)]; exact hM.2.2 y a b⟩
    have y8 : M1 10 0 8 - 1 = en := by omega
    refine w104_58 hS ⟨fun q => by omega, fun _ => ?_, fun q => by omega⟩
    rw [y8, O1 10 0 10 (by omega), O1 10 0 11 (by omega), O1 10 0 12 (by omega), hme.1, hme.2.1, hme.2.2]
    refine t26 hS hB hB2 bk1 (fun M2 O2 a0 a1 a2 a3 aser => ?_)
    have O12 : ∀ (k : Nat) (m s : Int), ¬ (k = 10 ∧ m = 0 ∧ s = 8) → ¬ (m = en ∧ ((k = 3 ∧ 0 ≤ s ∧ s ≤ 3) ∨ k = 23)) → M2 k m s = M k m s := fun k m s q1 q2 => by rw [O2 k m s q2]; exact O1 k m s q1
    have h82 : M2 10 0 8 = en + 1 := by rw [O2 _ _ _ (by omega)]; exact h8
    have y82 : M2 10 0 8 - 1 = en := by omega
    have h92 : M2 10 0 9 = M 10 0 9 := O12 _ _ _ (by omega) (by omega)
    -- behind the rounds
    have tail : ∀ (M3 : qM) (W : Int → Int) (R : c_R) (res set' cnt : Int), frC en M2 M3 → c_comp B (b ≠ 0) Bo Ro (c_p0 B) at' wd W R res set' cnt → c_edm B R (c_p0 B) en M3 → c_brkX B W M3 → (c_bd M3 ∧ c_z en M3 ∧ c_brk B M3 ∧ c_35 B M3) → M3 2 0 10 = set' → M3 2 0 9 = cnt → ∀ M4, M4 = qU M3 10 0 13 1 → e52 (d + 4) h en M4 (fun M134 => ((M134 10 0 8 = 0 → False) ∧ (0 < M134 10 0 8 → e38 (d + 2) h (M134 10 0 8 - 1) M134 (fun M141 => ((M141 10 0 8 = 0 → False) ∧ (0 < M141 10 0 8 → e40 (d + 1) h (M141 3 (M141 10 0 8 - 1) 1) M141 (fun M148 => ((M148 10 0 8 = 0 → ((M148 10 0 8 = 0 → False) ∧ (0 < M148 10 0 8 → False) ∧ (M148 10 0 8 < 0 → False))) ∧ (0 < M148 10 0 8 → ((M148 10 0 8 = 0 → False) ∧ (0 < M148 10 0 8 → (qIn ((M148 3 (M148 10 0 8 - 1) 4) + (M148 4 0 4)) ∧ (∀ M166, M166 = qU M148 3 (M148 10 0 8 - 1) 5 ((M148 3 (M148 10 0 8 - 1) 4) + (M148 4 0 4)) → F res M166))) ∧ (M148 10 0 8 < 0 → False))) ∧ (M148 10 0 8 < 0 → ((M148 10 0 8 = 0 → False) ∧ (0 < M148 10 0 8 → False) ∧ (M148 10 0 8 < 0 → False)))))) ∧ (M141 10 0 8 < 0 → False)))) ∧ (M134 10 0 8 < 0 → False))) := by
      intro M3 W R res set' cnt O3 comp ed bw st s10 s9 M4 f4
      have out := c_comp_out comp
      have O4 : ∀ (k : Nat) (m s : Int), ¬ (k = 10 ∧ m = 0 ∧ s = 13) → M4 k m s = M3 k m s := fun k m s q => by rw [f4]; unfold qU; rw [if_neg q]
      have frB4 : ∀ (k : Nat) (m s : Int), (64 ≤ k ∨ k = 11 ∨ k = 63 ∨ k = 1 ∨ k = 32 ∨ k = 33 ∨ k = 34 ∨ (k = 5 ∧ s ≤ 3) ∨ (k = 10 ∧ s ≠ 13) ∨ (k = 3 ∧ ¬ (m = en ∧ s = 4)) ∨ k = 23) → M4 k m s = M2 k m s := fun k m s q => by
        rw [O4 k m s (by omega)]
        exact O3 k m s (by omega) (by omega) (by omega) (by omega)
      have bk4 : c_bk B M4 := ⟨fun c a b => by rw [frB4 _ _ _ (by omega), O12 _ _ _ (by omega) (by omega)]; exact hM.1 c a b, fun x a b => by rw [frB4 _ _ _ (by omega), frB4 _ _ _ (by omega), frB4 _ _ _ (by omega), frB4 _ _ _ (by omega), O12 _ _ _ (by omega) (by omega), O12 _ _ _ (by omega) (by omega), O12 _ _ _ (by omega) (by omega), O12 _ _ _ (by omega) (by omega)]; exact hM.2.1 x a b, fun y a b => by rw [frB4 _ _ _ (by omega), frB4 _ _ _ (by omega), frB4 _ _ _ (by omega), O12 _ _ _ (by omega) (by omega), O12 _ _ _ (by omega) (by omega), O12 _ _ _ (by omega) (by omega)]; exact hM.2.2 y a b⟩
      have h84 : M4 10 0 8 = en + 1 := by rw [frB4 _ _ _ (by omega)]; exact h82
      refine t52 hS hB hp bk4 (by omega) out.1 (fun c a b => c_ch_fr (ed.2.1 c a b) (fun k s q => O4 _ _ _ (by omega)) (fun k s q => O4 _ _ _ (by omega))) (by rw [frB4 _ _ _ (by omega)]; exact a1) (fun M5 O5 mg => ?_)
      have h85 : M5 10 0 8 = en + 1 := by rw [O5 _ _ _ (by omega)]; exact h84
      have y85 : M5 10 0 8 - 1 = en := by omega
      refine ⟨fun q => by omega, fun _ => ?_, fun q => by omega⟩
      rw [y85]
      have bk5 : c_bk B M5 := ⟨fun c a b => by rw [O5 _ _ _ (by omega)]; exact bk4.1 c a b, fun x a b => by rw [O5 _ _ _ (by omega), O5 _ _ _ (by omega), O5 _ _ _ (by omega), O5 _ _ _ (by omega)]; exact bk4.2.1 x a b, fun y a b => by rw [O5 _ _ _ (by omega), O5 _ _ _ (by omega), O5 _ _ _ (by omega)]; exact bk4.2.2 y a b⟩
      refine t38 hS (G := c_G B R) hB bk5 (fun y y0 y1 t => ?_) (fun y z y0 yz z1 ty tz => c_G_mono hB hp.1 out.1 y0 yz z1 ty tz) (fun M6 O6 ix => ?_)
      · have gb := c_G_b hB hp out.1 ⟨y0, y1⟩ t
        rw [O5 _ _ _ (by omega), O4 _ _ _ (by omega), (ed.2.2.2 y y0 y1 t).1]
        exact ⟨rfl, gb.1, by omega⟩
      have h86 : M6 10 0 8 = en + 1 := by rw [O6 _ _ _ (by omega) (by omega)]; exact h85
      have y86 : M6 10 0 8 - 1 = en := by omega
      have d6 : M6 3 en 1 = B 8 1 := by rw [O6 _ _ _ (by omega) (by omega), O5 _ _ _ (by omega), frB4 _ _ _ (by omega)]; exact a1
      refine ⟨fun q => by omega, fun _ => ?_, fun q => by omega⟩
      rw [y86, d6]
      have cw := c_words hB
      have n27 : ∀ t, 0 ≤ t → t < 10 → 0 ≤ M6 27 0 t ∧ M6 27 0 t ≤ 200 := fun t a b => by
        have x := (ix t a b).1
        have l : p_sum (fun y => if c_K B y = 4 then (1 : Int) else 0) 600 ≤ p_sum (fun y => @ite Int (c_there B y) (Classical.propDecidable _) 1 0) 600 := p_sum_le2 (by decide) (fun k a b => by
          by_cases q : c_K B k = 4
          · rw [if_pos q, if_pos (c_K_there (by omega))]; exact Int.le_refl _
          · rw [if_neg q]; split <;> omega)
        omega
      refine t40 hS hD n27 (fun M7 O7 v5 v3 v4 => ?_)
      have h87 : M7 10 0 8 = en + 1 := by rw [O7 _ _ _ (by omega)]; exact h86
      have y87 : M7 10 0 8 - 1 = en := by omega
      have lb := x_L_b (al := M6 63 0) n27 10 (by decide) (by decide)
      have lb' : 0 ≤ x_L (M6 27 0) (M6 63 0) ∧ x_L (M6 27 0) (M6 63 0) ≤ 1000 := lb
      have pcb : 0 ≤ (x_L (M6 27 0) (M6 63 0) + 2 * B 8 1 - 1) / (2 * B 8 1) ∧ (x_L (M6 27 0) (M6 63 0) + 2 * B 8 1 - 1) / (2 * B 8 1) ≤ 2000 := by
        rcases (show B 8 1 = 8 ∨ B 8 1 = 9 ∨ B 8 1 = 10 ∨ B 8 1 = 11 ∨ B 8 1 = 12 ∨ B 8 1 = 13 ∨ B 8 1 = 14 by omega) with z | z | z | z | z | z | z <;> rw [z] <;> omega
      have labd := c_la_bd2 hB out.1.1 hp.1 (Int.le_refl _) out.1.2 3 (by decide)
      have e34 : M7 3 en 4 = c_lal B R := by rw [O7 _ _ _ (by omega), O6 _ _ _ (by omega) (by omega), O5 _ _ _ (by omega), O4 _ _ _ (by omega)]; exact ed.2.2.1
      have lal : c_lal B R = c_la (r_W R) (c_p0 B) 3 := rfl
      refine ⟨fun q => by omega, fun _ => ⟨fun q => by omega, fun _ => ?_, fun q => by omega⟩, fun q => by omega⟩
      rw [y87, e34, v4]
      refine ⟨⟨by omega, by omega⟩, fun M8 f8 => ?_⟩
      have O8 : ∀ (k : Nat) (m s : Int), ¬ (k = 3 ∧ m = en ∧ s = 5) → M8 k m s = M7 k m s := fun k m s q => by rw [f8]; unfold qU; rw [if_neg q]
      have O48 : ∀ (k : Nat) (m s : Int), ¬ (k = 3 ∧ m = en ∧ s = 5) → ¬ (k = 4 ∧ m = 0 ∧ 3 ≤ s ∧ s ≤ 5) → ¬ (k = 27 ∧ m = 0) → ¬ (k = 29 ∨ k = 31) → ¬ (m = 0 ∧ (k = 38 ∨ k = 39 ∨ (k = 6 ∧ 2 ≤ s ∧ s ≤ 5))) → M8 k m s = M4 k m s := fun k m s q1 q2 q3 q4 q5 => by rw [O8 k m s q1, O7 k m s q2, O6 k m s q3 q4, O5 k m s q5]
      have O38 : ∀ (k : Nat) (m s : Int), (k = 5 ∨ k = 35 ∨ k = 36 ∨ k = 37 ∨ k = 8 ∨ k = 9 ∨ (40 ≤ k ∧ k ≤ 61) ∨ k = 2 ∨ (24 ≤ k ∧ k ≤ 26)) → M8 k m s = M3 k m s := fun k m s q => by rw [O48 k m s (by omega) (by omega) (by omega) (by omega) (by omega), O4 k m s (by omega)]
      have zs : ∀ e, c_z e M3 → c_z e M8 := fun e z c a b => by
        have := z c a b
        rw [O38 _ _ _ (by omega), O38 _ _ _ (by omega), O38 _ _ _ (by omega), O38 _ _ _ (by omega), O38 _ _ _ (by omega)]; exact this
      have zo : ∀ e, (e = 0 ∨ e = 1) → e ≠ en → c_z e M → c_z e M3 := fun e he hne z c a b => by
        have := z c a b
        rw [O3 _ _ _ (by omega) (by omega) (by omega) (by omega), O3 _ _ _ (by omega) (by omega) (by omega) (by omega), O3 _ _ _ (by omega) (by omega) (by omega) (by omega), O3 _ _ _ (by omega) (by omega) (by omega) (by omega), O3 _ _ _ (by omega) (by omega) (by omega) (by omega), O12 _ _ _ (by omega) (by omega), O12 _ _ _ (by omega) (by omega), O12 _ _ _ (by omega) (by omega), O12 _ _ _ (by omega) (by omega), O12 _ _ _ (by omega) (by omega)]
        exact this
      have z0 : c_z 0 M3 := by
        by_cases q : en = 0
        · rw [← q]; exact st.2.1
        · exact zo 0 (Or.inl rfl) (fun z => q z.symm) hz.1
      have z1 : c_z 1 M3 := by
        by_cases q : en = 1
        · rw [← q]; exact st.2.1
        · exact zo 1 (Or.inr rfl) (fun z => q z.symm) hz.2
      have e63 : ∀ t, M8 63 0 t = M6 63 0 t := fun t => by rw [O8 _ _ _ (by omega), O7 _ _ _ (by omega)]
      have e27 : ∀ t, M8 27 0 t = M6 27 0 t := fun t => by rw [O8 _ _ _ (by omega), O7 _ _ _ (by omega)]
      have eL : x_L (M8 27 0) (M8 63 0) = x_L (M6 27 0) (M6 63 0) := by rw [show M8 27 0 = M6 27 0 from funext e27, show M8 63 0 = M6 63 0 from funext e63]
      refine H1 hno M8 en W R res set' cnt (x_L (M6 27 0) (M6 63 0)) (fun k m s q => ?_) hen hne (by rw [O8 _ _ _ (by omega)]; exact h87) ?_ ⟨⟨fun s => by rw [O38 _ _ _ (by omega)]; exact st.1.1 s, fun s => by rw [O38 _ _ _ (by omega)]; exact st.1.2 s⟩, ⟨zs 0 z0, zs 1 z1⟩, ?_, ⟨fun it i => by rw [O38 _ _ _ (by omega)]; exact st.2.2.2.1 it i, fun y a b q => by rw [O38 _ _ _ (by omega)]; exact st.2.2.2.2 y a b q⟩⟩ comp ⟨fun c a b => c_ch_fr (ed.2.1 c a b) (fun k s q => O38 _ _ _ (by omega)) (fun k s q => O38 _ _ _ (by omega)), by rw [O8 _ _ _ (by omega)]; exact e34, fun y a b t => by rw [O38 _ _ _ (by omega), O38 _ _ _ (by omega), O38 _ _ _ (by omega)]; exact ed.2.2.2 y a b t, ?_, fun x a b c => ?_, by rw [f8, qU_s]; rfl⟩ ⟨fun x a b => ?_, fun y a b t => ?_, fun c a b y y0 y1 => ?_, fun t a b => ?_, ?_, ?_, ?_, eL.symm⟩ (fun x a b c q => ?_) ?_ ?_
      · by_cases qa : (k = 3 ∨ (23 ≤ k ∧ k ≤ 26)) ∨ (k = 9 ∨ (48 ≤ k ∧ k ≤ 61)) ∨ (k = 8 ∨ (43 ≤ k ∧ k ≤ 47))
        · rw [O48 k m s (by omega) (by omega) (by omega) (by omega) (by omega), O4 k m s (by omega)]
          by_cases qk : k = 3
          · rw [O3 k m s (by omega) (by omega) (by omega) (by omega)]; exact O12 k m s (by omega) (by omega)
          · by_cases qk2 : 23 ≤ k ∧ k ≤ 26
            · rw [O3 k m s (by omega) (by omega) (by omega) (by omega)]; exact O12 k m s (by omega) (by omega)
            · rw [O3 k m s (by omega) (by omega) (by omega) (by omega)]; exact O12 k m s (by omega) (by omega)
        · rw [O48 k m s (by omega) (by omega) (by omega) (by omega) (by omega), frB4 k m s (by omega)]
          exact O12 k m s (by omega) (by omega)
      · rw [O48 _ _ _ (by omega) (by omega) (by omega) (by omega) (by omega), f4, qU_s]
      · refine ⟨?_, fun x a b c => by rw [O38 _ _ _ (by omega), O38 _ _ _ (by omega)]; exact st.2.2.1.2 x a b c⟩
        intro x a b c
        have e36 : M8 36 (1 + x) = M3 36 (1 + x) := by funext s; exact O38 _ _ _ (by omega)
        have e37 : M8 37 (1 + x) = M3 37 (1 + x) := by funext s; exact O38 _ _ _ (by omega)
        rw [O38 _ _ _ (by omega), O38 _ _ _ (by omega), O38 _ _ _ (by omega), e36, e37]
        exact st.2.2.1.1 x a b c
      · rw [O48 _ _ _ (by omega) (by omega) (by omega) (by omega) (by omega), O48 _ _ _ (by omega) (by omega) (by omega) (by omega) (by omega), O48 _ _ _ (by omega) (by omega) (by omega) (by omega) (by omega), O48 _ _ _ (by omega) (by omega) (by omega) (by omega) (by omega), frB4 _ _ _ (by omega), frB4 _ _ _ (by omega), frB4 _ _ _ (by omega), frB4 _ _ _ (by omega)]
        exact ⟨a0, a1, a2, a3⟩
      · rw [O48 _ _ _ (by omega) (by omega) (by omega) (by omega) (by omega), frB4 _ _ _ (by omega)]; exact aser x a b c
      · have := ed.1 x a b
        exact ⟨by rw [O38 _ _ _ (by omega)]; exact this.1, by rw [O38 _ _ _ (by omega)]; exact this.2.1, fun s => by rw [O38 _ _ _ (by omega)]; exact this.2.2 s⟩
      · rw [O38 _ _ _ (by omega)]; exact bw.2 y a b
      · rw [O8 _ _ _ (by omega), O7 _ _ _ (by omega), O6 _ _ _ (by omega) (by omega)]; exact mg c a b y y0 y1
      · exact x_idx_fr (ix t a b) ⟨by decide, Int.le_refl _⟩ (fun y p q => by omega) (e27 t) (fun k s q => by rw [O8 _ _ _ (by omega), O7 _ _ _ (by omega)])
      · rw [O8 _ _ _ (by omega)]; exact v3
      · rw [O8 _ _ _ (by omega)]; exact v4
      · rw [O8 _ _ _ (by omega)]; exact v5
      · have := bw.1 x a b c q
        exact ⟨by rw [O38 _ _ _ (by omega)]; exact this.1, fun j j0 j1 => by rw [O38 _ _ _ (by omega)]; exact this.2 j j0 j1⟩
      · rw [O38 _ _ _ (by omega)]; exact s10
      · rw [O38 _ _ _ (by omega)]; exact s9
    have fails : ∀ (M3 : qM) (W : Int → Int), frC en M2 M3 → c_ncomp B (b ≠ 0) Bo Ro (c_p0 B) W → c_brkW B W M3 → (c_bd M3 ∧ c_z en M3 ∧ c_brk B M3 ∧ c_35 B M3) → ∀ M4, M4 = qU M3 10 0 13 0 → F (-1) M4 := by
      intro M3 W O3 nc bw st M4 f4
      have O4 : ∀ (k : Nat) (m s : Int), ¬ (k = 10 ∧ m = 0 ∧ s = 13) → M4 k m s = M3 k m s := fun k m s q => by rw [f4]; unfold qU; rw [if_neg q]
      have zs : ∀ e, c_z e M3 → c_z e M4 := fun e z c a b => by
        have := z c a b
        rw [O4 _ _ _ (by omega), O4 _ _ _ (by omega), O4 _ _ _ (by omega), O4 _ _ _ (by omega), O4 _ _ _ (by omega)]; exact this
      have zo : ∀ e, (e = 0 ∨ e = 1) → e ≠ en → c_z e M → c_z e M3 := fun e he hne z c a b => by
        have := z c a b
        rw [O3 _ _ _ (by omega) (by omega) (by omega) (by omega), O3 _ _ _ (by omega) (by omega) (by omega) (by omega), O3 _ _ _ (by omega) (by omega) (by omega) (by omega), O3 _ _ _ (by omega) (by omega) (by omega) (by omega), O3 _ _ _ (by omega) (by omega) (by omega) (by omega), O12 _ _ _ (by omega) (by omega), O12 _ _ _ (by omega) (by omega), O12 _ _ _ (by omega) (by omega), O12 _ _ _ (by omega) (by omega), O12 _ _ _ (by omega) (by omega)]
        exact this
      have z0 : c_z 0 M3 := by
        by_cases q : en = 0
        · rw [← q]; exact st.2.1
        · exact zo 0 (Or.inl rfl) (fun z => q z.symm) hz.1
      have z1 : c_z 1 M3 := by
        by_cases q : en = 1
        · rw [← q]; exact st.2.1
        · exact zo 1 (Or.inr rfl) (fun z => q z.symm) hz.2
      refine H0 hno M4 en W (fun k m s q => ?_) hen hne (by rw [O4 _ _ _ (by omega), O3 _ _ _ (by omega) (by omega) (by omega) (by omega)]; exact h82) (by rw [f4, qU_s]) ⟨⟨fun s => by rw [O4 _ _ _ (by omega)]; exact st.1.1 s, fun s => by rw [O4 _ _ _ (by omega)]; exact st.1.2 s⟩, ⟨zs 0 z0, zs 1 z1⟩, ⟨fun x a b c => ?_, fun x a b c => by rw [O4 _ _ _ (by omega), O4 _ _ _ (by omega)]; exact st.2.2.1.2 x a b c⟩, ⟨fun it i => by rw [O4 _ _ _ (by omega)]; exact st.2.2.2.1 it i, fun y a b q => by rw [O4 _ _ _ (by omega)]; exact st.2.2.2.2 y a b q⟩⟩ nc (fun x a b c q => by
        have := bw x a b c q
        exact ⟨by rw [O4 _ _ _ (by omega)]; exact this.1, fun j j0 j1 => by rw [O4 _ _ _ (by omega)]; exact this.2 j j0 j1⟩)
      · rw [O4 k m s (by omega)]
        by_cases qk : k = 3
        · rw [O3 k m s (by omega) (by omega) (by omega) (by omega)]; exact O12 k m s (by omega) (by omega)
        · by_cases qk2 : 23 ≤ k ∧ k ≤ 26
          · rw [O3 k m s (by omega) (by omega) (by omega) (by omega)]; exact O12 k m s (by omega) (by omega)
          · rw [O3 k m s (by omega) (by omega) (by omega) (by omega)]; exact O12 k m s (by omega) (by omega)
      · have e36 : M4 36 (1 + x) = M3 36 (1 + x) := by funext s; exact O4 _ _ _ (by omega)
        have e37 : M4 37 (1 + x) = M3 37 (1 + x) := by funext s; exact O4 _ _ _ (by omega)
        rw [O4 _ _ _ (by omega), O4 _ _ _ (by omega), O4 _ _ _ (by omega), e36, e37]
        exact st.2.2.1.1 x a b c
    have zen : c_z en M := by
      rcases hen with z | z
      · rw [z]; exact hz.1
      · rw [z]; exact hz.2
    have pre : c_pre B (b ≠ 0) Bo Ro en e' (c_p0 B) at' wd M2 := by
      refine ⟨⟨fun c a b => by rw [O12 _ _ _ (by omega) (by omega)]; exact hM.1 c a b, fun x a b => by rw [O12 _ _ _ (by omega) (by omega), O12 _ _ _ (by omega) (by omega), O12 _ _ _ (by omega) (by omega), O12 _ _ _ (by omega) (by omega)]; exact hM.2.1 x a b, fun y a b => by rw [O12 _ _ _ (by omega) (by omega), O12 _ _ _ (by omega) (by omega), O12 _ _ _ (by omega) (by omega)]; exact hM.2.2 y a b⟩, ⟨a0, a1, a2, a3⟩, aser, ?_, ⟨fun it i => by rw [O12 _ _ _ (by omega) (by omega)]; exact hlm.1 it i, fun it => by rw [O12 _ _ _ (by omega) (by omega)]; exact hlm.2 it⟩, ⟨⟨fun s => by rw [O12 _ _ _ (by omega) (by omega)]; exact hst.1.1 s, fun s => by rw [O12 _ _ _ (by omega) (by omega)]; exact hst.1.2 s⟩, fun c a b => ?_, ⟨fun x a b c => ?_, fun x a b c => by rw [O12 _ _ _ (by omega) (by omega), O12 _ _ _ (by omega) (by omega)]; exact hst.2.1.2 x a b c⟩, ⟨fun it i => by rw [O12 _ _ _ (by omega) (by omega)]; exact hst.2.2.1 it i, fun y a b q => by rw [O12 _ _ _ (by omega) (by omega)]; exact hst.2.2.2 y a b q⟩⟩, fun x a b c q => ?_⟩
      · by_cases qb : b = 0
        · exact Or.inl (fun z => z qb)
        · rcases hpr with z | ⟨z1, z2, z3, z4⟩
          · exact absurd ⟨qb, z⟩ hno
          · have ne : en ≠ e' := by
              rcases hne with y | y
              · omega
              · exact y
            exact Or.inr ⟨qb, ⟨by omega, ne⟩, c_om_fr z3 (fun k m s q => O12 k m s (by omega) (by omega)), z4⟩
      · have := zen c a b
        rw [O12 _ _ _ (by omega) (by omega), O12 _ _ _ (by omega) (by omega), O12 _ _ _ (by omega) (by omega), O12 _ _ _ (by omega) (by omega), O12 _ _ _ (by omega) (by omega)]; exact this
      · have e36 : M2 36 (1 + x) = M 36 (1 + x) := by funext s; exact O12 _ _ _ (by omega) (by omega)
        have e37 : M2 37 (1 + x) = M 37 (1 + x) := by funext s; exact O12 _ _ _ (by omega) (by omega)
        rw [O12 _ _ _ (by omega) (by omega), O12 _ _ _ (by omega) (by omega), O12 _ _ _ (by omega) (by omega), e36, e37]
        exact hst.2.1.1 x a b c
      · have := hat x a b c q
        exact ⟨by rw [O12 _ _ _ (by omega) (by omega)]; exact this.1, fun j j0 j1 => by rw [O12 _ _ _ (by omega) (by omega)]; exact this.2 j j0 j1⟩
    have he : 0 ≤ en ∧ en < 1000 := by omega
    refine ⟨fun q => by omega, fun _ => ⟨fun qb => ?_, fun qb => ⟨fun q => absurd ⟨qb, by rw [← h92]; exact q⟩ hno, fun q => ?_, fun q => ?_⟩⟩, fun q => by omega⟩
    · rw [y82]
      refine t11n hS hB h180 he (fun z => z qb) hp pre (fun M3 R W res s cnt O3 comp ed bw st s10 s9 z hz => ?_) (fun M3 W O3 nc st z hz => ?_)
      · have rp := (c_comp_out comp).2.1
        rw [if_neg (by omega)] at hz
        refine ⟨Or.inr hz, fun M4 f4 => ?_⟩
        rw [hz] at f4
        have v13 : M4 10 0 13 = 1 := by rw [f4, qU_s]
        have v8 : M4 10 0 8 = en + 1 := by rw [f4, qU_l (by decide), O3 _ _ _ (by omega) (by omega) (by omega) (by omega)]; exact h82
        refine ⟨fun q => by omega, fun _ => ⟨fun q => by omega, fun _ => ?_, fun q => by omega⟩⟩
        rw [show M4 10 0 8 - 1 = en by omega]
        exact tail M3 W R res s cnt O3 comp ed bw st s10 s9 M4 f4
      · rw [if_pos (by decide)] at hz
        refine ⟨Or.inl hz, fun M4 f4 => ?_⟩
        rw [hz] at f4
        have v13 : M4 10 0 13 = 0 := by rw [f4, qU_s]
        exact ⟨fun _ => fails M3 W O3 nc st.2 st.1 M4 f4, fun q => absurd v13 q⟩
    · rw [y82]
      rw [h92] at q ⊢
      rcases hpr with z | ⟨z1, z2, z3, z4⟩
      · omega
      · rw [show M 10 0 9 - 1 = e' by omega]
        refine t11 hS hB h180 he ⟨by omega, by omega⟩ qb hp pre (fun M3 R W res s cnt O3 comp ed bw st s10 s9 z hz => ?_) (fun M3 W O3 nc st z hz => ?_)
        · have rp := (c_comp_out comp).2.1
          rw [if_neg (by omega)] at hz
          refine ⟨Or.inr hz, fun M4 f4 => ?_⟩
          rw [hz] at f4
          have v13 : M4 10 0 13 = 1 := by rw [f4, qU_s]
          have v8 : M4 10 0 8 = en + 1 := by rw [f4, qU_l (by decide), O3 _ _ _ (by omega) (by omega) (by omega) (by omega)]; exact h82
          refine ⟨fun q => by omega, fun _ => ⟨fun q => by omega, fun _ => ?_, fun q => by omega⟩⟩
          rw [show M4 10 0 8 - 1 = en by omega]
          exact tail M3 W R res s cnt O3 comp ed bw st s10 s9 M4 f4
        · rw [if_pos (by decide)] at hz
          refine ⟨Or.inl hz, fun M4 f4 => ?_⟩
          rw [hz] at f4
          have v13 : M4 10 0 13 = 0 := by rw [f4, qU_s]
          exact ⟨fun _ => fails M3 W O3 nc st.2 st.1 M4 f4, fun q => absurd v13 q⟩
    · rcases hpr with z | ⟨z1, z2, z3, z4⟩ <;> omega
  -- the choice of the edition
  have pos : 0 < M 10 0 8 := by omega
  have choose : ¬ (b ≠ 0 ∧ M 10 0 9 = 0) → ∀ u2, b104_21 d h F G b u2 M := fun hno u2 => by
    rcases hpr with z | ⟨z1, z2, z3, z4⟩
    · refine w104_21 hS ⟨fun q => by omega, fun _ => ⟨fun _ => ⟨fun q => absurd q (by simp), fun _ => go hno M e0 _ hnow.2 (Or.inl z) hnow.1 (fun _ _ _ _ => rfl)⟩, fun q => by omega, fun q => by omega⟩, fun q => by omega⟩
    · refine w104_21 hS ⟨fun q => by omega, fun _ => ⟨fun q => by omega, fun _ => ⟨fun same => ⟨fun q => by omega, fun _ => ⟨fun one => ⟨by decide, fun M1 f1 => ?_⟩, fun two M1 f1 => ?_⟩, fun q => by omega⟩, fun diff => ?_⟩, fun q => by omega⟩, fun q => by omega⟩
      · have e0' : e' = 0 := by
          have := Option.some.inj one
          have := congrArg Prod.snd this
          simp only at this
          omega
        exact go hno M1 1 _ (Or.inr rfl) (Or.inr (by omega)) (by rw [f1, qU_s]; rfl) (fun k m s q => by rw [f1]; unfold qU; rw [if_neg q])
      · have e1' : e' = 1 := by
          have : e' ≠ 0 := fun y => two (by rw [show M 10 0 9 - 1 = 0 by omega])
          omega
        exact go hno M1 0 _ (Or.inl rfl) (Or.inr (by omega)) (by rw [f1, qU_s]) (fun k m s q => by rw [f1]; unfold qU; rw [if_neg q])
      · have ne : e0 ≠ e' := fun y => diff (by rw [show M 10 0 8 - 1 = M 10 0 9 - 1 by omega])
        exact go hno M e0 _ hnow.2 (Or.inr ne) hnow.1 (fun _ _ _ _ => rfl)
  refine w104 hS ⟨fun qb => choose (fun z => z.1 qb) _, fun qb => ⟨fun q => HX qb q, fun q => choose (fun z => by omega) _, fun q => by rcases hpr with z | ⟨z1, z2, z3, z4⟩ <;> omega⟩⟩
