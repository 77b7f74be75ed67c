/-! ===== writes whole ===== -/
section
variable {d : Nat} {f : Int → qH → qM → Prop} {B : pT} {n : Int} {M : qM} {c : Int}
theorem l_rel_up (h : l_all n B M) (hn : 0 ≤ n ∧ n < 100) : l_rel (n + 1) M := ⟨B, l_all_up h ⟨by omega, by omega⟩⟩
theorem l_fun {M M2 : qM} (cl : ∀ (k : Nat) (o s : Int), k < 64 → M2 k o s = M k o s) : M2 32 0 = M 32 0 ∧ M2 33 0 = M 33 0 ∧ M2 34 0 = M 34 0 ∧ M2 5 0 2 = M 5 0 2 := ⟨funext fun s => cl 32 0 s (by decide), funext fun s => cl 33 0 s (by decide), funext fun s => cl 34 0 s (by decide), cl _ _ _ (by decide)⟩
/-- paragraph -/
theorem k_para {u : Nat} {h : qH} {x1 heads x11 : Int} {x3 : Int} {u2 u12 u13 : qV} (hu : k_h u h) (ha : l_all n B M) (hn : 0 ≤ n ∧ n < 100) (hc : 0 ≤ c ∧ c < 3) (hh : heads = p_sum (fun j => if B 1 (10 * c + j) = 0 then 0 else 1) 6) (hb : 0 ≤ heads ∧ heads ≤ 6) (H : ∀ h' N, k_h (u + 10) h' → l_rel (n + 1) N → f 1 h' N) :
 e155 (d + 6) h 3 M (fun v122 z125 M123 =>
 ((v122 = (-7100) →
 e155 (d + 6) z125 (-1) M123 (fun v129 z132 M130 =>
 ((v129 = (-7100) →
 e226 (d + 3) z132 c (-1) M130 (fun v136 M137 => 
 ((v136 = 0 →
 e155 (d + 6) z132 c M137 (fun v142 z145 M143 =>
 (∀ x146 : Int, x146 = (if v142 = (-7300) then 1 else 0) → ((x146 = 0 ∨ x146 = 1) ∧ f x146 z145 M143)))) ∧
 (¬ (v136 = 0) →
 ((0 ≤ c ∧ c < 3) ∧ (((M137 77 0 c) = 6 →
 b228_604 d z132 f (.inl x1) (u2) (.inl x3) (.inr (.inl (some (64, 0)))) (.inr (.inl (some (65, 0)))) (.inr (.inl (some (79, 0)))) (.inr (.inl (some (77, 0)))) (.inl c) (.inl heads) (.inl x11) (u12) (u13) M137) ∧
 (¬ ((M137 77 0 c) = 6) →
 e225 (d + 2) z132 c (-1) (-1) M137 (fun v155 M156 => 
 (qIn (v155 + (M156 76 0 0)) ∧ (qIn ((v155 + (M156 76 0 0)) + heads) ∧ ((((v155 + (M156 76 0 0)) + heads) ≤ 16 →
 (qIn (6 * c) ∧ ((0 ≤ c ∧ c < 3) ∧ (qIn ((6 * c) + (M156 77 0 c)) ∧ e227 (d + 1) z132 ((6 * c) + (M156 77 0 c)) M156 (fun M172 => 
 ((0 ≤ c ∧ c < 3) ∧ (qIn ((M172 77 0 c) + 1) ∧ ((0 ≤ c ∧ c < 3) ∧ ∀ M178, M178 = qU M172 77 0 c ((M172 77 0 c) + 1) → e155 (d + 6) z132 c M178 (fun v181 z184 M182 =>
 ((0 ≤ c ∧ c < 3) ∧ (qIn ((M182 77 0 c) - 1) ∧ (∀ x189 : Int, x189 = (if v181 = ((M182 77 0 c) - 1) then 1 else 0) → ((x189 = 0 ∨ x189 = 1) ∧ f x189 z184 M182))))))))))))) ∧
 (¬ (((v155 + (M156 76 0 0)) + heads) ≤ 16) →
 b228_604 d z132 f (.inl x1) (u2) (.inl x3) (.inr (.inl (some (64, 0)))) (.inr (.inl (some (65, 0)))) (.inr (.inl (some (79, 0)))) (.inr (.inl (some (77, 0)))) (.inl c) (.inl heads) (.inl x11) (u12) (u13) M156)))))))))))) ∧
 (¬ (v129 = (-7100)) →
 f 0 z132 M130)))) ∧
 (¬ (v122 = (-7100)) →
 f 0 z125 M123))) := by
  have hz := ha.1.1
  have hB := hz.2.1.1.1
  have hB2 := hz.2.1.1.2
  have hbk := ha.1.2.1.1
  have hl := ha.1.2.1.2.1
  have huq := ha.1.2.1.2.2
  have dr := ha.1.2.2.2.1
  have zd := hz.2.2.1
  have d0 := zd.1
  have d1 := dr.1
  have b0 := (hB.1 c hc.1 hc.2).1
  have l6 := (hl.1 c hc.1 hc.2).1
  have hu1 := k_h_bump hu
  have hu2 := k_h_bump hu1
  have hu3 := k_h_bump hu2
  have e77 : M 77 0 c = B 0 c := hbk.1 c hc.1 hc.2
  have ct := k_ct3_b hB hl (c := c) (but := -1) (kd := -1) hc
  have ff := l_fits hB hB2 hl hbk hc zd dr (but := -1) (but' := -1) (Or.inl ⟨rfl, rfl⟩)
  refine C155 hu.1 hz (by omega) (fun q => absurd q (by decide)) (fun q => absurd q (by decide)) (fun _ => ⟨fun _ => ?_, fun y => absurd rfl y⟩)
  refine C155 hu1.1 hz (by omega) (fun q => absurd q (by decide)) (fun q => absurd q (by decide)) (fun _ => ⟨fun _ => ?_, fun y => absurd rfl y⟩)
  refine L226 (n := M 5 0 2) hu2.1 hB hB2 hl hbk hc d1.1 d0 (l_codes ha) (fun fit => ⟨fun y => absurd y (by decide), fun _ => ⟨hc, ?_⟩⟩) (fun fit => ⟨fun _ => ?_, fun y => absurd rfl y⟩)
  · have clr : ∀ u12 u13 : qV, b228_604 d (lBh (lBh h)) f (.inl x1) (u2) (.inl x3) (.inr (.inl (some (64, 0)))) (.inr (.inl (some (65, 0)))) (.inr (.inl (some (79, 0)))) (.inr (.inl (some (77, 0)))) (.inl c) (.inl heads) (.inl x11) (u12) (u13) M := fun u12 u13 => w228_604 hu2.1 (k_clr hu2.1 ha (fun N hN => H _ N (k_h_up hu2 (by omega)) (l_rel_up hN hn)))
    refine ⟨fun _ => clr _ _, fun n6 => L225 hu2.1 hB hB2 hl hbk hc ?_⟩
    refine ⟨⟨by omega, by omega⟩, ⟨by omega, by omega⟩, fun room => ?_, fun _ => clr _ _⟩
    rw [e77] at n6 ⊢
    have h18 : 0 ≤ 6 * c + B 0 c ∧ 6 * c + B 0 c < 18 := by omega
    have bt := hbk.2.1 (6 * c + B 0 c) h18.1 h18.2
    refine ⟨⟨by omega, by omega⟩, hc, ⟨by omega, by omega⟩, L227 (n := M 5 0 2) hu2.1 h18 d1.1 ⟨d0.1, d1.2⟩ bt.1 (l_codes ha) (fun M1 O1 cd1 t1 a0 a4 => ⟨hc, ?_⟩)⟩
    have e1 : M1 77 0 c = B 0 c := by rw [O1 _ _ _ (by omega) (by omega) (by omega)]; exact e77
    rw [e1]
    refine ⟨⟨by omega, by omega⟩, hc, fun M2 f2 => ?_⟩
    have law : ∀ (k : Nat) (o s : Int), ¬ (k = 64 ∧ o = 0 ∧ 3 * (6 * c + B 0 c) ≤ s ∧ s < 3 * (6 * c + B 0 c) + 3) → ¬ (k = 65 ∧ o = 0 ∧ s = 6 * c + B 0 c) → ¬ (k = 76 ∧ o = 0 ∧ (s = 0 ∨ s = 4)) → ¬ (k = 77 ∧ o = 0 ∧ s = c) → M2 k o s = M k o s := fun k o s a b c' d' => by rw [f2]; unfold qU; rw [if_neg d']; exact O1 k o s a b c'
    have cl : ∀ (k : Nat) (o s : Int), k < 64 → M2 k o s = M k o s := fun k o s a => law k o s (by omega) (by omega) (by omega) (by omega)
    have fu := l_fun cl
    have fy := ff.mp fit
    have o2 : ∀ (k : Nat) (s : Int), k ≠ 77 → M2 k 0 s = M1 k 0 s := fun k s q => by rw [f2, qU_k q]
    refine C155 hu2.1 (l_cl ha cl) (by omega) (fun _ _ _ N zn => ?_) (fun _ q => absurd ⟨by omega, by rw [fu.2.1, fu.2.2.1, fu.2.2.2]; exact fy⟩ q) (fun q => absurd hc q)
    have rel : l_rel (n + 1) N := by
      rw [fu.2.2.2] at zn
      refine l_new (i := B 0 c) (hd := 0) (nw := M 5 0 2) (dr := 0) (M2 := M2) ha hc ⟨b0.1, by omega⟩ rfl rfl (Or.inl ⟨rfl, rfl⟩) ⟨d0.1, d1.2⟩ (Or.inl rfl) (fun k o s a1 a2 a3 a4 _ => law k o s a1 a2 a3 a4) (by rw [f2, qU_s]) ?_ (fun _ => ?_) ?_ (fun lt => absurd lt (Int.lt_irrefl _)) (fun w w0 w1 => ?_) ?_ ?_ (Or.inl rfl) zn ?_ ?_
      · rw [o2 65 _ (by decide), t1]
        exact ⟨by omega, by omega, by omega, fun y => absurd rfl y⟩
      · rw [o2 65 _ (by decide), t1]; omega
      · rw [o2 65 _ (by decide), t1]
        have := ha.1.2.2.2.2.2.1 (6 * c + B 0 c) h18.1 h18.2
        omega
      · have e : k_cd M2 (6 * c + B 0 c) w = k_cd M1 (6 * c + B 0 c) w := by unfold k_cd; rw [o2 64 _ (by decide)]
        rw [e, cd1 w w0 w1]
        exact (dr.2 w w0 w1).1
      · rw [o2 76 _ (by decide)]; exact a4
      · rw [o2 76 _ (by decide)]; exact a0
      · exact l_lim hB hB2 hl hc ⟨b0.1, by omega⟩ (Or.inl ⟨rfl, rfl⟩) (Or.inr rfl) ⟨d0.1, d1.2⟩ (fun w w0 w1 => (dr.2 w w0 w1).2) (but := -1) (Or.inl ⟨rfl, rfl⟩) (fun _ => (hB2 (10 * c + B 0 c) (by omega) (by omega) (by rw [show (10 * c + B 0 c) / 10 = c by omega]; omega)).1) (by rw [if_pos rfl, ← hh]; omega)
      · exact l_uq hB huq hc ⟨b0.1, by omega⟩ (Or.inl ⟨rfl, rfl⟩) ⟨d0.1, d1.2⟩ (but := -1) (Or.inl ⟨rfl, rfl⟩) fy.2.2.2.2
    have eN : N 77 0 c = B 0 c + 1 := by rw [zn.2.1.1 77 _ _ (by decide), f2, qU_s]
    rw [eN]
    refine ⟨hc, ⟨by omega, by omega⟩, fun x hx => ?_⟩
    rw [if_pos (by omega)] at hx
    rw [hx]
    exact ⟨Or.inr rfl, H _ N (k_h_up hu2 (by omega)) rel⟩
  · refine C155 hu2.1 hz (by omega) (fun _ _ q => absurd (ff.mpr q) fit) (fun _ _ x hx => ?_) (fun q => absurd hc q)
    rw [if_pos rfl] at hx
    rw [hx]
    exact ⟨Or.inr rfl, H _ M (k_h_up hu3 (by omega)) (l_rel_up ha hn)⟩
/-- head -/
theorem k_headw {u : Nat} {h : qH} {x1 heads : Int} {x3 : Int} {u2 u12 u13 : qV} (hu : k_h u h) (ha : l_all n B M) (hn : 0 ≤ n ∧ n < 100) (hc : 0 ≤ c ∧ c < 3) (hh : heads = p_sum (fun j => if B 1 (10 * c + j) = 0 then 0 else 1) 6) (hb : 0 ≤ heads ∧ heads ≤ 6) (H : ∀ h' N, k_h (u + 10) h' → l_rel (n + 1) N → f 1 h' N) :
 e151 (d + 1) h x3 3 M (fun v196 M197 => 
 (qIn (1 + v196) ∧ e156 (d + 3) h 3 2 0 M197 (fun v201 z204 M202 =>
 ((v201 = (-7100) →
 e156 (d + 3) z204 c 2 1 M202 (fun v208 z211 M209 =>
 ((v208 = (-7200) →
 e156 (d + 3) z211 c 0 0 M209 (fun v215 z218 M216 =>
 ((v215 = (-7200) →
 e156 (d + 3) z218 c 0 4 M216 (fun v222 z225 M223 =>
 ((v222 = (-7200) →
 ((0 ≤ c ∧ c < 3) ∧ (((M223 77 0 c) = 6 →
 b228_784 d z225 f (.inl x1) (u2) (.inl x3) (.inr (.inl (some (64, 0)))) (.inr (.inl (some (65, 0)))) (.inr (.inl (some (79, 0)))) (.inr (.inl (some (76, 0)))) (.inr (.inl (some (77, 0)))) c (.inl heads) (.inl (1 + v196)) (u12) (u13) M223) ∧
 (¬ ((M223 77 0 c) = 6) →
 e225 (d + 2) z225 c (-1) (-1) M223 (fun v234 M235 => 
 (qIn (v234 + heads) ∧ (((v234 + heads) ≤ 15 →
 (qIn (6 * c) ∧ ((0 ≤ c ∧ c < 3) ∧ (qIn ((6 * c) + (M235 77 0 c)) ∧ (qIn (64 * (1 + v196)) ∧ (qIn (32 + (64 * (1 + v196))) ∧ ((0 ≤ ((6 * c) + (M235 77 0 c)) ∧ ((6 * c) + (M235 77 0 c)) < 18) ∧ ∀ M252, M252 = qU M235 65 0 ((6 * c) + (M235 77 0 c)) (32 + (64 * (1 + v196))) → ((0 ≤ c ∧ c < 3) ∧ (qIn ((M252 77 0 c) + 1) ∧ ((0 ≤ c ∧ c < 3) ∧ ∀ M259, M259 = qU M252 77 0 c ((M252 77 0 c) + 1) → (∀ M262, M262 = qU M259 76 0 4 0 → e151 (d + 1) z225 (x3 / 16) 2 M262 (fun v263 M264 => 
 e156 (d + 3) z225 c v263 (1 + v196) M264 (fun v266 z269 M267 =>
 ((0 ≤ c ∧ c < 3) ∧ (qIn ((M267 77 0 c) - 1) ∧ (∀ x274 : Int, x274 = (if v266 = ((M267 77 0 c) - 1) then 1 else 0) → ((x274 = 0 ∨ x274 = 1) ∧ f x274 z269 M267))))))))))))))))) ∧
 (¬ ((v234 + heads) ≤ 15) →
 b228_784 d z225 f (.inl x1) (u2) (.inl x3) (.inr (.inl (some (64, 0)))) (.inr (.inl (some (65, 0)))) (.inr (.inl (some (79, 0)))) (.inr (.inl (some (76, 0)))) (.inr (.inl (some (77, 0)))) c (.inl heads) (.inl (1 + v196)) (u12) (u13) M235)))))))) ∧
 (¬ (v222 = (-7200)) →
 f 0 z225 M223)))) ∧
 (¬ (v215 = (-7200)) →
 f 0 z218 M216)))) ∧
 (¬ (v208 = (-7200)) →
 f 0 z211 M209)))) ∧
 (¬ (v201 = (-7100)) →
 f 0 z204 M202))))) := by
  have hz := ha.1.1
  have hB := hz.2.1.1.1
  have hB2 := hz.2.1.1.2
  have hbk := ha.1.2.1.1
  have hl := ha.1.2.1.2.1
  have huq := ha.1.2.1.2.2
  have dr := ha.1.2.2.2.1
  have zd := hz.2.2.1
  have d0 := zd.1
  have d1 := dr.1
  have b0 := (hB.1 c hc.1 hc.2).1
  have l6 := (hl.1 c hc.1 hc.2).1
  have hu1 := k_h_bump hu
  have hu2 := k_h_bump hu1
  have hu3 := k_h_bump hu2
  have hu4 := k_h_bump hu3
  have hu5 := k_h_bump hu4
  have e77 : M 77 0 c = B 0 c := hbk.1 c hc.1 hc.2
  have ct := k_ct3_b hB hl (c := c) (but := -1) (kd := -1) hc
  refine L151 hu.1 (by decide) ?_
  have vb : 0 ≤ x3 % 4294967296 / 2 % 3 ∧ x3 % 4294967296 / 2 % 3 < 3 := by omega
  generalize x3 % 4294967296 / 2 % 3 = v196 at *
  refine ⟨⟨by omega, by omega⟩, C156 hu.1 hz (by omega) (fun q => absurd q (by decide)) (fun q => absurd q (by decide)) (fun q => absurd q (by decide)) (fun _ => ⟨fun _ => ?_, fun y => absurd rfl y⟩)⟩
  refine C156 hu1.1 hz (by omega) (fun _ q => absurd q (by decide)) (fun _ q => absurd q (by decide)) (fun _ _ => ⟨fun _ => ?_, fun y => absurd rfl y⟩) (fun q => absurd hc q)
  refine C156 hu2.1 hz (by omega) (fun _ q => absurd q (by decide)) (fun _ q => absurd q (by decide)) (fun _ _ => ⟨fun _ => ?_, fun y => absurd rfl y⟩) (fun q => absurd hc q)
  refine C156 hu3.1 hz (by omega) (fun _ q => absurd q (by decide)) (fun _ q => absurd q (by decide)) (fun _ _ => ⟨fun _ => ⟨hc, ?_⟩, fun y => absurd rfl y⟩) (fun q => absurd hc q)
  have skip : ∀ u12 u13 : qV, b228_784 d (lBh (lBh (lBh (lBh h)))) f (.inl x1) (u2) (.inl x3) (.inr (.inl (some (64, 0)))) (.inr (.inl (some (65, 0)))) (.inr (.inl (some (79, 0)))) (.inr (.inl (some (76, 0)))) (.inr (.inl (some (77, 0)))) c (.inl heads) (.inl (1 + v196)) (u12) (u13) M := fun u12 u13 => w228_784 hu4.1 (A162 hu4.1 hz.2.1 (fun q => absurd q.2.2 (by omega)) (fun _ x hx => by
    rw [if_pos rfl] at hx
    rw [hx]
    exact ⟨Or.inr rfl, H _ M (k_h_up hu5 (by omega)) (l_rel_up ha hn)⟩))
  refine ⟨fun _ => skip _ _, fun n6 => L225 hu4.1 hB hB2 hl hbk hc ?_⟩
  refine ⟨⟨by omega, by omega⟩, fun room => ?_, fun _ => skip _ _⟩
  rw [e77] at n6 ⊢
  have h18 : 0 ≤ 6 * c + B 0 c ∧ 6 * c + B 0 c < 18 := by omega
  refine ⟨⟨by omega, by omega⟩, hc, ⟨by omega, by omega⟩, ⟨by omega, by omega⟩, ⟨by omega, by omega⟩, h18, fun M1 f1 => ⟨hc, ?_⟩⟩
  have e1 : M1 77 0 c = B 0 c := by rw [f1, qU_k (by decide)]; exact e77
  rw [e1]
  refine ⟨⟨by omega, by omega⟩, hc, fun M2 f2 M3 f3 => L151 hu4.1 (by decide) ?_⟩
  have lb : 0 ≤ x3 / 16 % 4294967296 / 2 % 2 ∧ x3 / 16 % 4294967296 / 2 % 2 ≤ 1 := by omega
  generalize x3 / 16 % 4294967296 / 2 % 2 = lv at *
  have law : ∀ (k : Nat) (o s : Int), ¬ (k = 64 ∧ o = 0 ∧ 3 * (6 * c + B 0 c) ≤ s ∧ s < 3 * (6 * c + B 0 c) + 3) → ¬ (k = 65 ∧ o = 0 ∧ s = 6 * c + B 0 c) → ¬ (k = 76 ∧ o = 0 ∧ (s = 0 ∨ s = 4)) → ¬ (k = 77 ∧ o = 0 ∧ s = c) → M3 k o s = M k o s := fun k o s a b c' d' => by rw [f3, f2, f1]; unfold qU; rw [if_neg (by omega), if_neg (by omega), if_neg (by omega)]
  have cl : ∀ (k : Nat) (o s : Int), k < 64 → M3 k o s = M k o s := fun k o s a => law k o s (by omega) (by omega) (by omega) (by omega)
  have fu := l_fun cl
  have e65 : M3 65 0 (6 * c + B 0 c) = 32 + 64 * (1 + v196) := by rw [f3, qU_k (by decide), f2, qU_k (by decide), f1, qU_s]
  refine C156 hu4.1 (l_cl ha cl) (by omega) (fun _ _ _ N zn => ?_) (fun _ _ q => absurd (by omega) q) (fun _ q => absurd ⟨lb, by omega, by omega⟩ q) (fun q => absurd hc q)
  have zw : ∀ t, y_ws (M 33 0) (M 34 0) t 0 = 0 := fun t => p_sum_0
  have rel : l_rel (n + 1) N := by
    rw [fu.2.2.2] at zn
    refine l_new (i := B 0 c) (hd := 1) (nw := 0) (dr := M 5 0 2) (M2 := M3) ha hc ⟨b0.1, by omega⟩ rfl rfl (Or.inl ⟨rfl, rfl⟩) ⟨Int.le_refl _, by decide⟩ (Or.inr rfl) (fun k o s a1 a2 a3 a4 _ => law k o s a1 a2 a3 a4) (by rw [f3, qU_k (by decide), f2, qU_s]) ?_ (fun y => absurd y (by decide)) ?_ (fun lt => absurd lt (Int.lt_irrefl _)) (fun w w0 w1 => by omega) (by rw [f3, qU_s]) ?_ (Or.inr rfl) zn ?_ ?_
    · rw [e65]
      exact ⟨by omega, by omega, by omega, fun _ => by omega⟩
    · rw [e65]; omega
    · rw [f3, qU_l (by decide), f2, qU_k (by decide), f1, qU_k (by decide)]; exact d1.1
    · exact l_lim hB hB2 hl hc ⟨b0.1, by omega⟩ (Or.inl ⟨rfl, rfl⟩) (Or.inl ⟨rfl, rfl⟩) ⟨Int.le_refl _, by decide⟩ (fun w w0 w1 => by omega) (but := -1) (Or.inl ⟨rfl, rfl⟩) (fun y => absurd y (by decide)) (by rw [if_neg (by decide), ← hh]; omega)
    · exact l_uq hB huq hc ⟨b0.1, by omega⟩ (Or.inl ⟨rfl, rfl⟩) ⟨Int.le_refl _, by decide⟩ (but := -1) (Or.inl ⟨rfl, rfl⟩) (fun ⟨w, hw, _⟩ => by omega)
  have eN : N 77 0 c = B 0 c + 1 := by rw [zn.2.1.1 77 _ _ (by decide), f3, qU_k (by decide), f2, qU_s]
  rw [eN]
  refine ⟨hc, ⟨by omega, by omega⟩, fun x hx => ?_⟩
  rw [if_pos (by omega)] at hx
  rw [hx]
  exact ⟨Or.inr rfl, H _ N (k_h_up hu4 (by omega)) rel⟩
/-- replace -/
theorem k_repl {u : Nat} {h : qH} {x1 heads : Int} {x3 : Int} {u2 u13 : qV} (hu : k_h u h) (ha : l_all n B M) (hn : 0 ≤ n ∧ n < 100) (hc : 0 ≤ c ∧ c < 3) (hh : heads = p_sum (fun j => if B 1 (10 * c + j) = 0 then 0 else 1) 6) (hb : 0 ≤ heads ∧ heads ≤ 6) (H : ∀ h' N, k_h (u + 10) h' → l_rel (n + 1) N → f 1 h' N) :
 ((0 ≤ c ∧ c < 3) ∧ (qIn ((M 77 0 c) + 1) ∧ e151 (d + 1) h x3 ((M 77 0 c) + 1) M (fun v285 M286 => 
 (qIn (6 * c) ∧ (qIn ((6 * c) + v285) ∧ ((0 ≤ c ∧ c < 3) ∧ ((v285 = (M286 77 0 c) →
 e157 (d + 6) h c v285 M286 (fun v297 z300 M298 =>
 ((v297 = (-7100) →
 e157 (d + 6) z300 3 0 M298 (fun v304 z307 M305 =>
 (∀ x308 : Int, x308 = (if v304 = (-7100) then 1 else 0) → ((x308 = 0 ∨ x308 = 1) ∧ f x308 z307 M305)))) ∧
 (¬ (v297 = (-7100)) →
 f 0 z300 M298)))) ∧
 (¬ (v285 = (M286 77 0 c)) →
 e190 (d + 1) h ((6 * c) + v285) M286 (fun v312 M313 => 
 ((v312 = 0 →
 e226 (d + 3) h c ((6 * c) + v285) M313 (fun v318 M319 => 
 ((v318 = 0 →
 b228_970 d h f (.inl x1) (u2) (.inl x3) (.inr (.inl (some (64, 0)))) (.inr (.inl (some (65, 0)))) (.inr (.inl (some (79, 0)))) (.inr (.inl (some (76, 0)))) (.inr (.inl (some (77, 0)))) c (.inl heads) v285 (.inl ((6 * c) + v285)) (u13) M319) ∧
 (¬ (v318 = 0) →
 e225 (d + 2) h c ((6 * c) + v285) (-1) M319 (fun v324 M325 => 
 (qIn (v324 + (M325 76 0 0)) ∧ (qIn ((v324 + (M325 76 0 0)) + heads) ∧ ((((v324 + (M325 76 0 0)) + heads) ≤ 16 →
 e189 (d + 1) h ((6 * c) + v285) M325 (fun v334 M335 => 
 ((0 ≤ ((6 * c) + v285) ∧ ((6 * c) + v285) < 18) ∧ (qIn ((M335 65 0 ((6 * c) + v285)) + 256) ∧ ((0 ≤ ((6 * c) + v285) ∧ ((6 * c) + v285) < 18) ∧ ∀ M341, M341 = qU M335 65 0 ((6 * c) + v285) ((M335 65 0 ((6 * c) + v285)) + 256) → e227 (d + 1) h ((6 * c) + v285) M341 (fun M345 => 
 e157 (d + 6) h c v285 M345 (fun v347 z350 M348 =>
 (∀ x351 : Int, x351 = (if v347 = v334 then 1 else 0) → ((x351 = 0 ∨ x351 = 1) ∧ f x351 z350 M348))))))))) ∧
 (¬ (((v324 + (M325 76 0 0)) + heads) ≤ 16) →
 e162 (d + 4) h c v285 M325 (fun v355 z358 M356 =>
 e189 (d + 1) z358 ((6 * c) + v285) M356 (fun v359 M360 => 
 (∀ x362 : Int, x362 = (if v355 = v359 then 1 else 0) → ((x362 = 0 ∨ x362 = 1) ∧ f x362 z358 M360))))))))))))) ∧
 (¬ (v312 = 0) →
 b228_970 d h f (.inl x1) (u2) (.inl x3) (.inr (.inl (some (64, 0)))) (.inr (.inl (some (65, 0)))) (.inr (.inl (some (79, 0)))) (.inr (.inl (some (76, 0)))) (.inr (.inl (some (77, 0)))) c (.inl heads) v285 (.inl ((6 * c) + v285)) (u13) M313))))))))))) := by
  have hz := ha.1.1
  have hB := hz.2.1.1.1
  have hB2 := hz.2.1.1.2
  have hbk := ha.1.2.1.1
  have hl := ha.1.2.1.2.1
  have huq := ha.1.2.1.2.2
  have dr := ha.1.2.2.2.1
  have zd := hz.2.2.1
  have d0 := zd.1
  have d1 := dr.1
  have b0 := (hB.1 c hc.1 hc.2).1
  have l6 := (hl.1 c hc.1 hc.2).1
  have hu1 := k_h_bump hu
  have hu2 := k_h_bump hu1
  have e77 : M 77 0 c = B 0 c := hbk.1 c hc.1 hc.2
  rw [e77]
  refine ⟨hc, ⟨by omega, by omega⟩, L151 hu.1 (by omega) ?_⟩
  have ib : 0 ≤ x3 % 4294967296 / 2 % (B 0 c + 1) ∧ x3 % 4294967296 / 2 % (B 0 c + 1) < B 0 c + 1 := ⟨Int.emod_nonneg _ (by omega), Int.emod_lt_of_pos _ (by omega)⟩
  generalize x3 % 4294967296 / 2 % (B 0 c + 1) = i at *
  rw [e77]
  refine ⟨⟨by omega, by omega⟩, ⟨by omega, by omega⟩, hc, fun e => ?_, fun ne => ?_⟩
  · refine C157 hu.1 hz (by omega) (fun q => absurd q.2.2 (by omega)) (fun q => absurd q.2.2 (by omega)) (fun _ => ⟨fun _ => ?_, fun y => absurd rfl y⟩)
    refine C157 hu1.1 hz (by omega) (fun q => absurd q.1 (by decide)) (fun q => absurd q.1 (by decide)) (fun _ x hx => ?_)
    rw [if_pos rfl] at hx
    rw [hx]
    exact ⟨Or.inr rfl, H _ M (k_h_up hu2 (by omega)) (l_rel_up ha hn)⟩
  have hi : 0 ≤ i ∧ i < B 0 c := ⟨ib.1, by omega⟩
  obtain ⟨cit, h18, i6, kx, m65, n15, ky⟩ := k_item hB hB2 hl hbk hc hi
  have bt := hbk.2.1 (6 * c + i) h18.1 h18.2
  rw [kx] at bt
  have ff := l_fits hB hB2 hl hbk hc zd dr (but := 6 * c + i) (but' := i) (Or.inr ⟨rfl, i6.1, i6.2⟩)
  have ct := k_ct3_b hB hl (c := c) (but := 6 * c + i) (kd := -1) hc
  have no : ¬ (B 1 (10 * c + i) = 0 ∧ y_fit B c i (M 33 0) (M 34 0) (M 5 0 2)) → ∀ u13 : qV, b228_970 d h f (.inl x1) (u2) (.inl x3) (.inr (.inl (some (64, 0)))) (.inr (.inl (some (65, 0)))) (.inr (.inl (some (79, 0)))) (.inr (.inl (some (76, 0)))) (.inr (.inl (some (77, 0)))) c (.inl heads) i (.inl ((6 * c) + i)) (u13) M := fun q u13 => w228_970 hu.1 (C157 hu.1 hz (by omega) (fun _ a b => absurd ⟨a, b⟩ q) (fun _ _ x hx => by
    rw [if_pos rfl] at hx
    rw [hx]
    exact ⟨Or.inr rfl, H _ M (k_h_up hu1 (by omega)) (l_rel_up ha hn)⟩) (fun q => absurd cit q))
  refine L190 hu.1 h18 m65.2 ?_
  rw [bt.2.2.1]
  refine ⟨fun b1 => ?_, fun b1 => no (fun q => b1 q.1) _⟩
  refine L226 (n := M 5 0 2) hu.1 hB hB2 hl hbk hc d1.1 d0 (l_codes ha) (fun fit => ⟨fun y => absurd y (by decide), fun _ => L225 hu.1 hB hB2 hl hbk hc ?_⟩) (fun fit => ⟨fun _ => no (fun q => fit (ff.mpr q.2)) _, fun y => absurd rfl y⟩)
  refine ⟨⟨by omega, by omega⟩, ⟨by omega, by omega⟩, fun room => ?_, fun _ => ?_⟩
  · have real := z_itx hB cit
    have at30 := ha.1.2.2.2.2.2.2 (10 * c + i) real.1.1 real.1.2 real.2.1 b1
    have eat := (ha.1.2.2.1.2 (6 * c + i) h18.1 h18.2 (by rw [show (6 * c + i) % 6 = i by omega, show (6 * c + i) / 6 = c by omega]; exact hi.2) (by rw [kx]; exact b1)).1
    rw [kx] at eat
    have tb := ha.1.2.2.2.2.2.1 (6 * c + i) h18.1 h18.2
    refine L189 hu.1 h18 ?_
    rw [m65.1]
    refine ⟨h18, ⟨by omega, by omega⟩, h18, fun M0 f0 => ?_⟩
    have e0 : M0 65 0 (6 * c + i) = M 65 0 (6 * c + i) + 256 := by rw [f0, qU_s]
    have e079 : ∀ s, M0 79 0 s = M 79 0 s := fun s => by rw [f0, qU_k (by decide)]
    have e076 : ∀ s, M0 76 0 s = M 76 0 s := fun s => by rw [f0, qU_k (by decide)]
    refine L227 (n := M 5 0 2) hu.1 h18 (by rw [e076]; exact d1.1) ⟨d0.1, d1.2⟩ (by rw [e0]; omega) (fun i a b => by rw [e079]; exact l_codes ha i a b) (fun M2 O2 cd2 t2 a0 a4 => ?_)
    have law : ∀ (k : Nat) (o s : Int), ¬ (k = 64 ∧ o = 0 ∧ 3 * (6 * c + i) ≤ s ∧ s < 3 * (6 * c + i) + 3) → ¬ (k = 65 ∧ o = 0 ∧ s = 6 * c + i) → ¬ (k = 76 ∧ o = 0 ∧ (s = 0 ∨ s = 4)) → ¬ (k = 77 ∧ o = 0 ∧ s = c) → M2 k o s = M k o s := fun k o s a b c' _ => by rw [O2 k o s a b c', f0]; unfold qU; rw [if_neg b]
    have cl : ∀ (k : Nat) (o s : Int), k < 64 → M2 k o s = M k o s := fun k o s a => law k o s (by omega) (by omega) (by omega) (by omega)
    have fu := l_fun cl
    have fy := ff.mp fit
    refine C157 hu.1 (l_cl ha cl) (by omega) (fun _ _ _ N zn => ?_) (fun _ q => absurd ⟨b1, by rw [fu.2.1, fu.2.2.1, fu.2.2.2]; exact fy⟩ q) (fun q => absurd cit q)
    have rel : l_rel (n + 1) N := by
      rw [fu.2.2.2] at zn
      refine l_new (i := i) (hd := 0) (nw := M 5 0 2) (dr := 0) (M2 := M2) ha hc i6 rfl rfl (Or.inr ⟨rfl, hi.2⟩) ⟨d0.1, d1.2⟩ (Or.inl rfl) (fun k o s a1 a2 a3 a4 _ => law k o s a1 a2 a3 a4) ?_ ?_ (fun _ => ?_) ?_ (fun lt => ?_) (fun w w0 w1 => ?_) a4 a0 (Or.inl rfl) zn ?_ ?_
      · rw [O2 77 _ _ (by omega) (by omega) (by omega), f0, qU_k (by decide)]; exact e77
      · rw [t2, e0]
        exact ⟨by omega, by omega, by omega, fun y => absurd rfl y⟩
      · rw [t2, e0]; omega
      · rw [t2, e0]; omega
      · rw [t2, e0]; omega
      · rw [cd2 w w0 w1, e079]
        exact (dr.2 w w0 w1).1
      · exact l_lim hB hB2 hl hc i6 (Or.inr ⟨rfl, hi.2⟩) (Or.inr rfl) ⟨d0.1, d1.2⟩ (fun w w0 w1 => (dr.2 w w0 w1).2) (but := 6 * c + i) (Or.inr ⟨rfl, hi.2, b1⟩) (fun _ => b1) (by rw [if_pos rfl, ← hh]; omega)
      · exact l_uq hB huq hc i6 (Or.inr ⟨rfl, hi.2⟩) ⟨d0.1, d1.2⟩ (but := i) (Or.inr ⟨rfl, hi.2⟩) fy.2.2.2.2
    intro x hx
    rw [if_pos rfl] at hx
    rw [hx]
    exact ⟨Or.inr rfl, H _ N (k_h_up hu (by omega)) rel⟩
  · refine A162 hu.1 hz.2.1 (fun _ => L189 hu.1 h18 (fun x hx => ?_)) (fun q => absurd cit q)
    rw [if_pos m65.1.symm] at hx
    rw [hx]
    exact ⟨Or.inr rfl, H _ M (k_h_up hu (by omega)) (l_rel_up ha hn)⟩
theorem L228 {u : Nat} {h : qH} {act g j : Int} (hu : k_h u h) (ha : l_all n B M) (hn : 0 ≤ n ∧ n < 100) (H : ∀ h' N, k_h (u + 20) h' → l_rel (n + 1) N → f 1 h' N) : e228 (d + 7) h act g j M f := by
  refine w228 hu.1 ⟨fun _ => ?_, fun a8 => L151 hu.1 (by decide) ?_⟩
  · exact k_9 hu (fun h' N hu' hN => H h' N hu' (l_rel_up hN hn)) 3 0 M _ _ _ _ (by decide) (Int.le_refl _) (by decide) ha
  have cb : 0 ≤ g % 4294967296 / 2 % 3 ∧ g % 4294967296 / 2 % 3 < 3 := by omega
  generalize g % 4294967296 / 2 % 3 = c at *
  have hz := ha.1.1
  have hB := hz.2.1.1.1
  have hbk := ha.1.2.1.1
  have sb : ∀ i, 0 ≤ i → 0 ≤ p_sum (fun j => if B 1 (10 * c + j) = 0 then (0 : Int) else 1) i ∧ p_sum (fun j => if B 1 (10 * c + j) = 0 then (0 : Int) else 1) i ≤ 1 * i := fun i i0 => p_sum_bd (fun k => by show 0 ≤ (if B 1 (10 * c + k) = 0 then (0 : Int) else 1) ∧ (if B 1 (10 * c + k) = 0 then (0 : Int) else 1) ≤ 1; split <;> omega) i0
  refine ⟨⟨by omega, by omega⟩, ?_⟩
  refine q_upto (P := fun i => 0 ≤ i → ∀ u12 u13 : qV, b228_466 d h f act (.inl g) j c (p_sum (fun j => if B 1 (10 * c + j) = 0 then (0 : Int) else 1) i) (6 * c + i) u12 u13 M) (a := 0) (b := 6) (by decide) (fun _ u12 u13 => ?_) (fun i i0 i1 ih _ u12 u13 => ?_) (Int.le_refl _) q_u q_u |> fun k => by rw [p_sum_0, Int.add_zero] at k; exact k
  · have s6 := sb 6 (by decide)
    refine w228_466 hu.1 ⟨⟨by omega, by omega⟩, ⟨by omega, by omega⟩, fun y => absurd y (by omega), fun _ => ⟨fun _ => ?_, fun _ => ⟨fun _ => ?_, fun _ => ⟨fun _ => ?_, fun _ => ?_⟩⟩⟩⟩
    · exact k_para hu ha hn cb rfl (by omega) (fun h' N hu' hN => H h' N (k_h_up hu' (by omega)) hN)
    · exact k_headw hu ha hn cb rfl (by omega) (fun h' N hu' hN => H h' N (k_h_up hu' (by omega)) hN)
    · exact k_repl hu ha hn cb rfl (by omega) (fun h' N hu' hN => H h' N (k_h_up hu' (by omega)) hN)
    · exact k_clr hu.1 ha (fun N hN => H h N (k_h_up hu (by omega)) (l_rel_up hN hn))
  · have s6 := sb i i0
    have s := p_sum_s (g := fun j => if B 1 (10 * c + j) = 0 then (0 : Int) else 1) i0
    have kx : k_x (6 * c + i) = 10 * c + i := k_x_c cb ⟨i0, i1⟩
    have bt := hbk.2.1 (6 * c + i) (by omega) (by omega)
    rw [kx] at bt
    refine w228_466 hu.1 ⟨⟨by omega, by omega⟩, ⟨by omega, by omega⟩, fun _ => L190 hu.1 ⟨by omega, by omega⟩ bt.1 (fun y hy => ?_), fun y => absurd (show 6 * c + i < 6 * c + 6 by omega) y⟩
    rw [bt.2.2.1] at hy
    rw [← hy] at s
    have yb : 0 ≤ y ∧ y ≤ 1 := by rw [hy]; split <;> omega
    refine ⟨⟨by omega, by omega⟩, ⟨by omega, by omega⟩, ?_⟩
    have := ih (by omega) u12 u13
    rw [s, show 6 * c + (i + 1) = 6 * c + i + 1 by omega] at this
    exact this
end
