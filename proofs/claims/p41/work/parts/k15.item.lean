/-! ===== the law's lines of an item; by wip/p41/gen/mk15.py ===== -/
theorem k_down {P : Int → Prop} {b : Int} : ∀ (t : Nat) (j : Int), j ≤ b + t → (∀ j, j ≤ b → P j) → (∀ j, b < j → P (j - 1) → P j) → P j
  | 0, j, h, h0, _ => h0 j (by omega)
  | t + 1, j, h, h0, h1 => by
    by_cases z : j ≤ b
    · exact h0 j z
    · exact h1 j (by omega) (k_down t (j - 1) (by omega) h0 h1)
theorem k_best_cg {w C L C' L' : Int → Int} {n W j hi c l e : Int} (hc : ∀ to, j < to → C to = C' to ∧ L to = L' to) (h : p_best w C L n W j hi c l e) : p_best w C' L' n W j hi c l e := by
  obtain ⟨h1, h2, h3, h4, h5⟩ := h
  refine ⟨h1, h2, by rw [h3, (hc e h1.1).1], by rw [h4, (hc e h1.1).2], fun to a b g => ?_⟩
  have := h5 to a b g
  rw [(hc to a).1, (hc to a).2] at this
  exact this
theorem k_tab_bd {w C L E : Int → Int} {n W j : Int} (hw : ∀ i, 0 ≤ w i ∧ w i ≤ 16) (hW : 8 ≤ W ∧ W ≤ 30) (hj : 0 ≤ j + 1) (c0 : C n = 0 ∧ L n = 0) (pb : ∀ x, j < x → x < n → p_best w C L n W x (n + 1) (C x) (L x) (E x)) : ∀ x, j < x → x ≤ n → 0 ≤ C x ∧ C x ≤ 1000 * (n - x) ∧ 0 ≤ L x ∧ L x ≤ n - x := by
  intro x x0 x1
  have key : ∀ y, x ≤ y → y ≤ n → 0 ≤ C y ∧ C y ≤ 1000 * (n - y) ∧ 0 ≤ L y ∧ L y ≤ n - y := by
    refine q_upto (P := fun x => j < x → ∀ y, x ≤ y → y ≤ n → 0 ≤ C y ∧ C y ≤ 1000 * (n - y) ∧ 0 ≤ L y ∧ L y ≤ n - y) x1 (fun _ y y0 y1 => ?_) (fun x a b ih c y y0 y1 => ?_) x0
    · rw [show y = n by omega, c0.1, c0.2]; omega
    · by_cases e : y = x
      · subst e
        have := p_best_bd hw hW ⟨by omega, b⟩ (pb y c b) (fun i i0 i1 => ih (by omega) i (by omega) i1)
        omega
      · exact ih (by omega) y (by omega) y1
  exact key x (Int.le_refl _) x1
/-- the best end of a line, among those behind e, as the law keeps it -/
def k_bs (w C L : Int → Int) (n W j e v t : Int) : Prop := (v = 1073741824 ∧ ∀ to, e < to → to ≤ n → ¬ p_feas w W j to) ∨ ∃ c l, v = 64 * c + l ∧ (e < t ∧ t ≤ n) ∧ p_feas w W j t ∧ c = p_lc w n W j t + C t ∧ l = L t + 1 ∧ ∀ to, e < to → to ≤ n → p_feas w W j to → c < p_lc w n W j to + C to ∨ (c = p_lc w n W j to + C to ∧ (l < L to + 1 ∨ (l = L to + 1 ∧ to ≤ t)))
section
variable {w C L : Int → Int} {n W j e v t : Int}
theorem k_bs_end (hj : j < n) (h : k_bs w C L n W j j v t) : ∃ c l, v = 64 * c + l ∧ p_best w C L n W j (n + 1) c l t := by
  rcases h with ⟨_, h⟩ | ⟨c, l, h1, h2, h3, h4, h5, h6⟩
  · exact absurd (Or.inl rfl) (h (j + 1) (by omega) (by omega))
  · exact ⟨c, l, h1, ⟨h2.1, by omega⟩, h3, h4, h5, fun to a b g => h6 to a (by omega) g⟩
theorem k_bs_skip (hn : ¬ p_feas w W j e) (h : k_bs w C L n W j e v t) : k_bs w C L n W j (e - 1) v t := by
  rcases h with ⟨h0, h⟩ | ⟨c, l, h1, h2, h3, h4, h5, h6⟩
  · exact Or.inl ⟨h0, fun to a b => by
      by_cases z : to = e
      · rw [z]; exact hn
      · exact h to (by omega) b⟩
  · exact Or.inr ⟨c, l, h1, ⟨by omega, h2.2⟩, h3, h4, h5, fun to a b g => by
      by_cases z : to = e
      · rw [z] at g; exact absurd g hn
      · exact h6 to (by omega) b g⟩
theorem k_bs_no (bd : ∀ x, j < x → x ≤ n → 0 ≤ C x ∧ C x ≤ 1000 * (n - x) ∧ 0 ≤ L x ∧ L x ≤ n - x) (he : j < e ∧ e ≤ n) (hf : p_feas w W j e) (hn15 : ¬ (64 * p_lc w n W j e + 1 + (64 * C e + L e) < v)) (h : k_bs w C L n W j e v t) (hn : n ≤ j + 16 := by omega) (hlc : p_lc w n W j e ≤ 1000000 := by omega) : k_bs w C L n W j (e - 1) v t := by
  have be := bd e he.1 he.2
  rcases h with ⟨h0, h⟩ | ⟨c, l, h1, h2, h3, h4, h5, h6⟩
  · exfalso; omega
  · have bt := bd t (by omega) h2.2
    exact Or.inr ⟨c, l, h1, ⟨by omega, h2.2⟩, h3, h4, h5, fun to a b g => by
      by_cases z : to = e
      · rw [z]; omega
      · exact h6 to (by omega) b g⟩
theorem k_bs_yes (bd : ∀ x, j < x → x ≤ n → 0 ≤ C x ∧ C x ≤ 1000 * (n - x) ∧ 0 ≤ L x ∧ L x ≤ n - x) (he : j < e ∧ e ≤ n) (hf : p_feas w W j e) (hlt : 64 * p_lc w n W j e + 1 + (64 * C e + L e) < v) (h : k_bs w C L n W j e v t) (hn : n ≤ j + 16 := by omega) : k_bs w C L n W j (e - 1) (64 * p_lc w n W j e + 1 + (64 * C e + L e)) e := by
  have be := bd e he.1 he.2
  refine Or.inr ⟨p_lc w n W j e + C e, L e + 1, by omega, ⟨by omega, he.2⟩, hf, rfl, rfl, fun to a b g => ?_⟩
  by_cases z : to = e
  · rw [z]; omega
  · rcases h with ⟨h0, h⟩ | ⟨c, l, h1, h2, h3, h4, h5, h6⟩
    · exact absurd g (h to (by omega) b)
    · have bt := bd t (by omega) h2.2
      have bo := bd to (by omega) b
      have := h6 to (by omega) b g
      omega
end
theorem L193 {d u : Nat} {h : qH} {f : Int → qH → qM → Prop} {M : qM} {ro c i n W R : Int} {w : Int → Int} (hu : k_h u h) (hc : 0 ≤ c ∧ c < 3) (hi : 0 ≤ i ∧ i < 6) (hn : M 65 0 (6 * c + i) % 32 = n) (hn15 : n ≤ 15) (hM : 0 ≤ M 65 0 (6 * c + i) ∧ M 65 0 (6 * c + i) ≤ 2147483647) (hW : 8 ≤ W ∧ W ≤ 30) (m1 : M 76 0 1 = W) (mR : M 76 0 (19 + c) = R) (hR : 0 ≤ R)
    (hw : ∀ j, 0 ≤ w j ∧ w j ≤ 16) (hwj : ∀ j, 0 ≤ j → j < n → k_cd M (6 * c + i) j % 16 + M 68 0 (M 67 0 (6 * c + i) + j) = w j ∧ (0 ≤ M 67 0 (6 * c + i) + j ∧ M 67 0 (6 * c + i) + j < 64) ∧ 0 ≤ M 68 0 (M 67 0 (6 * c + i) + j) ∧ M 68 0 (M 67 0 (6 * c + i) + j) ≤ 1000)
    (Hh : M 65 0 (6 * c + i) / 32 % 2 ≠ 0 → R ≤ 19 ∧ ∀ M', (∀ (k : Nat) (o s : Int), ¬ (k = 71 ∧ o = ro ∧ s = 20 * c + R) → ¬ (k = 76 ∧ o = 0 ∧ s = 19 + c) → M' k o s = M k o s) → M' 71 ro (20 * c + R) = i → M' 76 0 (19 + c) = R + 1 → f 0 h M')
    (Hp : M 65 0 (6 * c + i) / 32 % 2 = 0 → (1 ≤ n ∧ R + n ≤ 20) ∧ ∀ h' M' L Cc E, k_h (u + 2) h' → (∀ (k : Nat) (o s : Int), ¬ (k = 87 ∨ k = 88) → ¬ (k = 71 ∧ o = ro ∧ 20 * c + R ≤ s ∧ s < 20 * c + R + L) → ¬ (k = 76 ∧ o = 0 ∧ s = 19 + c) → M' k o s = M k o s) → p_lined w n W L Cc E → M' 76 0 (19 + c) = R + L → (∀ s, 0 ≤ s → s < L → M' 71 ro (20 * c + R + s) = i + 16 * (if s = 0 then 0 else E (s - 1)) + 512 * E s) → f Cc h' M') : e193 (d + 3) h ro c i M f := by
  have n0 : 0 ≤ n := by omega
  refine w193 hu.1 ⟨⟨by omega, by omega⟩, ⟨by omega, by omega⟩, L189 hu.1 ⟨by omega, by omega⟩ (L190 hu.1 ⟨by omega, by omega⟩ hM ⟨fun h0 => ?_, fun h1 => ?_⟩)⟩
  case _ =>
    obtain ⟨⟨n1, hRn⟩, H⟩ := Hp h0
    rw [hn]
    have K1 := k_h_new (k := 87) (j := 1) (w := 17) hu (by decide) (Nat.le_refl _) (by omega)
    have K2 := k_h_new (k := 88) (j := 1) (w := 17) K1 (by decide) (Nat.le_refl _) (by omega)
    refine ⟨hu.2.1 _, fun nb enb M1 f1 z1 g1 => ?_⟩
    subst g1
    refine ⟨K1.2.1 _, fun nt ent M2 f2 z2 g2 => ?_⟩
    subst g2
    have O2 : ∀ (a : Nat) (o s : Int), ¬ (a = 87 ∨ a = 88) → M2 a o s = M a o s := fun a o s z => by rw [f2, lNm_o (fun y => z (Or.inr y.1)), f1, lNm_o (fun y => z (Or.inl y.1))]
    have b0 : M2 87 nb n = 0 := by rw [f2, lNm_o (by omega), f1, lNm_s]
    have ws := fun (x : Int) (hx : 0 ≤ x) => p_ws_s (w := w) hx
    have hmono : ∀ a b : Int, 0 ≤ a → a ≤ b → p_ws w a ≤ p_ws w b ∧ p_ws w b ≤ p_ws w a + 17 * (b - a) := by
      intro a b ha hab
      refine q_upto (P := fun x => p_ws w x ≤ p_ws w b ∧ p_ws w b ≤ p_ws w x + 17 * (b - x)) hab ⟨by omega, by omega⟩ (fun x h1 h2 h3 => ?_)
      have := p_ws_s (w := w) (x := x) (by omega)
      have := hw x
      omega
    -- the table, from the back
    have main : ∀ (j : Int) (M3 : qM) (u1 u13 u14 u15 : qV), j < n → -1 ≤ j → (∀ (a : Nat) (o s : Int), ¬ (a = 87 ∨ a = 88) → M3 a o s = M a o s) → (∃ C L E : Int → Int, (C n = 0 ∧ L n = 0) ∧ (∀ x, j < x → x < n → p_best w C L n W x (n + 1) (C x) (L x) (E x)) ∧ (∀ x, j < x → x ≤ n → M3 87 nb x = 64 * C x + L x) ∧ ∀ x, j < x → x < n → M3 88 nt x = E x) → b193_78 d (lNh (lNh h 87 17) 88 17) f u1 ro c i (6 * c + i) n nb nt j u13 u14 u15 M3 := by
      intro j
      refine k_down (b := -1) (P := fun j => ∀ (M3 : qM) (u1 u13 u14 u15 : qV), j < n → -1 ≤ j → (∀ (a : Nat) (o s : Int), ¬ (a = 87 ∨ a = 88) → M3 a o s = M a o s) → (∃ C L E : Int → Int, (C n = 0 ∧ L n = 0) ∧ (∀ x, j < x → x < n → p_best w C L n W x (n + 1) (C x) (L x) (E x)) ∧ (∀ x, j < x → x ≤ n → M3 87 nb x = 64 * C x + L x) ∧ ∀ x, j < x → x < n → M3 88 nt x = E x) → b193_78 d (lNh (lNh h 87 17) 88 17) f u1 ro c i (6 * c + i) n nb nt j u13 u14 u15 M3) (j + 1).toNat j (by omega) ?_ ?_
      · -- all is known: the lines
        intro j jn M3 u1 u13 u14 u15 _ j1 O3 hT
        have ej : j = -1 := by omega
        subst ej
        obtain ⟨C, L, E, c0, pb, e87, e88⟩ := hT
        have tab : p_tab w C L E n W := ⟨c0.1, c0.2, fun x a b => pb x (by omega) b⟩
        have bd := p_tab_bd n0 hw hW tab
        refine w193_78 K2.1 ⟨fun _ => ?_, fun z => absurd (by decide) z⟩
        have lines : ∀ (t s : Nat) (M4 : qM) (u0 u1 u2 u3 u8 u13 u14 u15 : qV), s + t = 16 → (∀ q : Nat, q < s → p_end E q < n) → (∀ (a : Nat) (o x : Int), ¬ (a = 71 ∧ o = ro ∧ 20 * c + R ≤ x ∧ x < 20 * c + R + s) → ¬ (a = 76 ∧ o = 0 ∧ x = 19 + c) → M4 a o x = M3 a o x) → M4 76 0 (19 + c) = R + s → (∀ q : Nat, q < s → M4 71 ro (20 * c + R + q) = i + 16 * p_end E q + 512 * p_end E (q + 1)) → b193_277 d (lNh (lNh h 87 17) 88 17) f u0 u1 u2 u3 ro c i u8 n nb nt (p_end E s) u13 u14 u15 M4 := by
          intro t
          induction t with
          | zero =>
            intro s M4 u0 u1 u2 u3 u8 u13 u14 u15 hst hlt
            have := p_end_lt (C := C) (L := L) tab.2.2 15 (fun q hq => hlt q (by omega))
            have := hlt 15 (by omega)
            omega
          | succ t ih =>
            intro s M4 u0 u1 u2 u3 u8 u13 u14 u15 hst hlt O4 v19 rows
            have pl := p_end_lt (C := C) (L := L) tab.2.2 s hlt
            have pe : 0 ≤ p_end E s := by have := pl.1; omega
            by_cases more : p_end E s < n
            · have bj := tab.2.2 (p_end E s) (by omega) more
              have eE : M4 88 nt (p_end E s) = E (p_end E s) := by rw [O4 _ _ _ (by omega) (by omega)]; exact e88 _ (by omega) more
              have eS : p_end E (s + 1) = E (p_end E s) := rfl
              have bE := bj.1
              refine w193_277 K2.1 ⟨fun _ => ?_, fun z => absurd more z⟩
              rw [v19, eE]
              have sn : (s : Int) ≤ p_end E s := pl.1
              refine ⟨⟨by omega, by omega⟩, ⟨by omega, by omega⟩, ⟨by omega, by omega⟩, ⟨by omega, by omega⟩, ⟨by omega, by omega⟩, ⟨by omega, by omega⟩, ⟨by omega, by omega⟩, ⟨by omega, by omega⟩, ⟨by omega, by omega⟩, ⟨by omega, by omega⟩, fun M5 f5 => ⟨⟨by omega, by omega⟩, ⟨by omega, by omega⟩, ?_⟩⟩
              have v5 : M5 76 0 (19 + c) = R + s := by rw [f5, qU_k (by decide)]; exact v19
              rw [v5]
              refine ⟨⟨by omega, by omega⟩, ⟨by omega, by omega⟩, fun M6 f6 => ⟨⟨by omega, by omega⟩, ?_⟩⟩
              have O6 : ∀ (a : Nat) (o x : Int), ¬ (a = 71 ∧ o = ro ∧ x = 20 * c + (R + s)) → ¬ (a = 76 ∧ o = 0 ∧ x = 19 + c) → M6 a o x = M4 a o x := fun a o x z1 z2 => by rw [f6]; unfold qU; rw [if_neg z2, f5]; unfold qU; rw [if_neg z1]
              rw [O6 88 _ _ (by omega) (by omega), eE, ← eS]
              refine ih (s + 1) M6 _ _ _ _ _ _ _ _ (by omega) (fun q hq => ?_) (fun a o x z1 z2 => ?_) ?_ (fun q hq => ?_)
              · by_cases e : q = s
                · subst e; exact more
                · exact hlt q (by omega)
              · rw [O6 a o x (fun y => z1 ⟨y.1, y.2.1, by omega, by omega⟩) z2, O4 a o x (fun y => z1 ⟨y.1, y.2.1, by omega, by omega⟩) z2]
              · rw [f6, qU_s]; omega
              · by_cases e : q = s
                · subst e
                  rw [f6, qU_k (by decide), f5, show 20 * c + R + (q : Int) = 20 * c + (R + q) by omega, qU_s, eS]
                · rw [O6 _ _ _ (by omega) (by omega)]; exact rows q (by omega)
            · refine w193_277 K2.1 ⟨fun z => absurd z more, fun _ => ?_⟩
              have e0 : M4 87 nb 0 = 64 * C 0 + L 0 := by rw [O4 _ _ _ (by omega) (by omega)]; exact e87 0 (by omega) n0
              have bd0 := bd 0 (Int.le_refl _) n0
              rw [e0, show (64 * C 0 + L 0) / 64 = C 0 by omega]
              have en : p_end E s = n := by omega
              refine ⟨by omega, H _ M4 s (C 0) (fun x => p_end E (x.toNat + 1)) (k_h_up K2 (by omega)) (fun k o x z z1 z2 => by rw [O4 k o x z1 z2]; exact O3 k o x z) ⟨C, L, E, tab, rfl, ⟨by omega, by omega⟩, by rw [Int.toNat_natCast]; exact en, fun q hq => hlt q (by omega), fun q hq => by show p_end E ((q : Int).toNat + 1) = _; rw [Int.toNat_natCast]⟩ v19 (fun x x0 x1 => ?_)⟩
              have := rows x.toNat (by omega)
              rw [show ((x.toNat : Nat) : Int) = x by omega] at this
              rw [this]
              by_cases z : x = 0
              · subst z; rw [if_pos rfl]; rfl
              · rw [if_neg z, show (x - 1).toNat + 1 = x.toNat by omega]
        exact lines 16 0 M3 _ _ _ _ _ _ _ _ rfl (fun q hq => absurd hq (Nat.not_lt_zero _)) (fun _ _ _ _ _ => rfl) (by rw [O3 _ _ _ (by omega), mR]; omega) (fun q hq => absurd hq (Nat.not_lt_zero _))
      · -- one word more
        intro j j0 ih M3 u1 u13 u14 u15 jn j1 O3 hT
        obtain ⟨C, L, E, c0, pb, e87, e88⟩ := hT
        have bd : ∀ x, j < x → x ≤ n → 0 ≤ C x ∧ C x ≤ 1000 * (n - x) ∧ 0 ≤ L x ∧ L x ≤ n - x := k_tab_bd hw hW (by omega) c0 pb
        refine w193_78 K2.1 ⟨fun z => absurd z (by omega), fun _ => ⟨⟨by omega, by omega⟩, fun M4 f4 => ?_⟩⟩
        have O4 : ∀ (a : Nat) (o s : Int), ¬ (a = 87 ∨ a = 88) → M4 a o s = M a o s := fun a o s z => by rw [f4, qU_k (by omega), O3 a o s z]
        -- the ends, from the last one
        have ends : ∀ (e : Int) (M5 : qM) (u1 u14 u15 : qV), e ≤ n → j ≤ e → (∀ (a : Nat) (o s : Int), ¬ (a = 87 ∨ a = 88) → M5 a o s = M a o s) → (∀ x, j < x → x ≤ n → M5 87 nb x = 64 * C x + L x) → (∀ x, j < x → x < n → M5 88 nt x = E x) → k_bs w C L n W j e (M5 87 nb j) (M5 88 nt j) → b193_94 d (lNh (lNh h 87 17) 88 17) f u1 ro c i (6 * c + i) n nb nt j e u14 u15 M5 := by
          intro e
          refine k_down (b := j) (P := fun e => ∀ (M5 : qM) (u1 u14 u15 : qV), e ≤ n → j ≤ e → (∀ (a : Nat) (o s : Int), ¬ (a = 87 ∨ a = 88) → M5 a o s = M a o s) → (∀ x, j < x → x ≤ n → M5 87 nb x = 64 * C x + L x) → (∀ x, j < x → x < n → M5 88 nt x = E x) → k_bs w C L n W j e (M5 87 nb j) (M5 88 nt j) → b193_94 d (lNh (lNh h 87 17) 88 17) f u1 ro c i (6 * c + i) n nb nt j e u14 u15 M5) (e - j).toNat e (by omega) ?_ ?_
          · intro e en M5 u1 u14 u15 _ je O5 a87 a88 bs
            have eq : e = j := by omega
            subst eq
            refine w193_94 K2.1 ⟨fun _ => ⟨⟨by omega, by omega⟩, ?_⟩, fun z => absurd (Int.le_refl _) z⟩
            rw [show e + -1 = e - 1 by omega]
            obtain ⟨cc, ll, v1, v2⟩ := k_bs_end (by omega) bs
            refine ih M5 _ _ _ _ (by omega) (by omega) O5 ⟨fun x => if x = e then cc else C x, fun x => if x = e then ll else L x, fun x => if x = e then M5 88 nt e else E x, ⟨by show (if n = e then cc else C n) = 0; rw [if_neg (by omega)]; exact c0.1, by show (if n = e then ll else L n) = 0; rw [if_neg (by omega)]; exact c0.2⟩, fun x x0 x1 => ?_, fun x x0 x1 => ?_, fun x x0 x1 => ?_⟩
            · by_cases z : x = e
              · subst z
                refine k_best_cg (C := C) (L := L) (fun to h => ⟨(if_neg (by omega)).symm, (if_neg (by omega)).symm⟩) ?_
                show p_best w C L n W x (n + 1) (if x = x then cc else C x) (if x = x then ll else L x) (if x = x then M5 88 nt x else E x)
                rw [if_pos rfl, if_pos rfl, if_pos rfl]
                exact v2
              · refine k_best_cg (C := C) (L := L) (fun to h => ⟨(if_neg (by omega)).symm, (if_neg (by omega)).symm⟩) ?_
                show p_best w C L n W x (n + 1) (if x = e then cc else C x) (if x = e then ll else L x) (if x = e then M5 88 nt e else E x)
                rw [if_neg z, if_neg z, if_neg z]
                exact pb x (by omega) x1
            · show M5 87 nb x = 64 * (if x = e then cc else C x) + (if x = e then ll else L x)
              by_cases z : x = e
              · subst z; rw [if_pos rfl, if_pos rfl]; exact v1
              · rw [if_neg z, if_neg z]; exact a87 x (by omega) x1
            · show M5 88 nt x = (if x = e then M5 88 nt e else E x)
              by_cases z : x = e
              · subst z; rw [if_pos rfl]
              · rw [if_neg z]; exact a88 x (by omega) x1
          · intro e e0 ihe M5 u1 u14 u15 en je O5 a87 a88 bs
            refine w193_94 K2.1 ⟨fun z => absurd z (by omega), fun _ => ⟨⟨by omega, by omega⟩, ⟨by omega, by omega⟩, ?_⟩⟩
            have je2 : j < e := by omega
            have m15 : M5 76 0 1 = W := by rw [O5 _ _ _ (by omega)]; exact m1
            -- the length of the line
            refine q_upto (P := fun k => j ≤ k → b193_114 d (lNh (lNh h 87 17) 88 17) f u1 ro c i (6 * c + i) n nb nt j e (e - k - 1 + p_ws w k - p_ws w j) k M5) (a := j) (b := e) (by omega) ?_ ?_ (Int.le_refl _) |> fun z => by
                rw [show e - j - 1 + p_ws w j - p_ws w j = e - j - 1 by omega] at z
                exact z
            · intro _
              have g4 := hmono j e (by omega) (by omega)
              rw [show e - e - 1 + p_ws w e - p_ws w j = p_len w j e by unfold p_len; omega]
              have gl : p_len w j e = p_ws w e - p_ws w j - 1 := rfl
              have nx : ∀ (M6 : qM) (u14 u15 : qV), (∀ (a : Nat) (o s : Int), ¬ (a = 87 ∨ a = 88) → M6 a o s = M a o s) → (∀ x, j < x → x ≤ n → M6 87 nb x = 64 * C x + L x) → (∀ x, j < x → x < n → M6 88 nt x = E x) → k_bs w C L n W j (e - 1) (M6 87 nb j) (M6 88 nt j) → b193_94 d (lNh (lNh h 87 17) 88 17) f u1 ro c i (6 * c + i) n nb nt j (e + -1) u14 u15 M6 := fun M6 u14 u15 O6 b87 b88 bs6 => by
                rw [show e + -1 = e - 1 by omega]
                exact ihe M6 _ _ _ (by omega) (by omega) O6 b87 b88 bs6
              have fits : p_feas w W j e → b193_163 d (lNh (lNh h 87 17) 88 17) f u1 ro c i (6 * c + i) n nb nt j e (p_len w j e) (.inl e) M5 := by
                intro hfe
                refine w193_163 K2.1 ?_
                rw [m15]
                have sq := q_sq (x := W - p_len w j e) (by omega) (by omega)
                refine ⟨⟨fun _ _ => ⟨⟨by omega, by omega⟩, ⟨by omega, by omega⟩, sq.1⟩, fun _ => ⟨⟨by omega, by omega⟩, by omega, by omega⟩⟩, fun its hits => ?_⟩
                have elc : its = p_lc w n W j e := by rw [hits]; rfl
                have lcb : 0 ≤ p_lc w n W j e ∧ p_lc w n W j e ≤ 1000000 := by
                  rw [← elc, hits]
                  split
                  · split <;> omega
                  · omega
                rw [elc, a87 e (by omega) en]
                have be := bd e (by omega) en
                refine ⟨⟨by omega, by omega⟩, ⟨by omega, by omega⟩, ⟨by omega, by omega⟩, ⟨by omega, by omega⟩, ⟨by omega, by omega⟩, fun lt => ⟨⟨by omega, by omega⟩, ⟨by omega, by omega⟩, ⟨by omega, by omega⟩, ⟨by omega, by omega⟩, ⟨by omega, by omega⟩, fun M6 f6 => ⟨⟨by omega, by omega⟩, fun M7 f7 => ⟨⟨by omega, by omega⟩, ?_⟩⟩⟩, fun nlt => ⟨⟨by omega, by omega⟩, nx M5 _ _ O5 a87 a88 (k_bs_no bd ⟨by omega, en⟩ hfe nlt bs)⟩⟩
                have x87 : M7 87 nb j = 64 * p_lc w n W j e + 1 + (64 * C e + L e) := by rw [f7, qU_k (by decide), f6, qU_s]
                have x88 : M7 88 nt j = e := by rw [f7, qU_s]
                have O7 : ∀ (a : Nat) (o s : Int), ¬ ((a = 87 ∨ a = 88) ∧ s = j) → M7 a o s = M5 a o s := fun a o s z => by rw [f7]; unfold qU; rw [if_neg (fun y => z ⟨Or.inr y.1, y.2.2⟩), f6]; unfold qU; rw [if_neg (fun y => z ⟨Or.inl y.1, y.2.2⟩)]
                refine nx M7 _ _ (fun a o s z => by rw [O7 a o s (fun y => z y.1)]; exact O5 a o s z) (fun x x0 x1 => by rw [O7 _ _ _ (by omega)]; exact a87 x x0 x1) (fun x x0 x1 => by rw [O7 _ _ _ (by omega)]; exact a88 x x0 x1) ?_
                rw [x87, x88]
                exact k_bs_yes bd ⟨by omega, en⟩ hfe lt bs
              refine w193_114 K2.1 ⟨fun z => absurd z (Int.lt_irrefl _), fun _ => ?_⟩
              rw [m15]
              refine ⟨fun le => fits (Or.inr le), fun gt => ⟨⟨by omega, by omega⟩, fun one => fits (Or.inl (by omega)), fun two => ⟨⟨by omega, by omega⟩, nx M5 _ _ O5 a87 a88 (k_bs_skip (fun hf => by rcases hf with z | z <;> omega) bs)⟩⟩⟩
            · intro k k0 k1 ihk _
              have wk := hwj k (by omega) (by omega)
              have hwk := hw k
              have s1 := p_ws_s (w := w) (x := k) (by omega)
              have g4 := hmono j k (by omega) (by omega)
              have e67 : M5 67 0 (6 * c + i) = M 67 0 (6 * c + i) := O5 _ _ _ (by omega)
              have e68 : ∀ s, M5 68 0 s = M 68 0 s := fun s => O5 _ _ _ (by omega)
              have ecd : k_cd M5 (6 * c + i) k = k_cd M (6 * c + i) k := by unfold k_cd; rw [O5 _ _ _ (by omega)]
              refine w193_114 K2.1 ⟨fun _ => L192 K2.1 ⟨by omega, by omega⟩ ⟨by omega, by omega⟩ (by rw [e67]; exact wk.2.1) (by rw [e67, e68]; exact wk.2.2) ?_, fun z => absurd k1 z⟩
              rw [e67, e68, ecd, wk.1]
              refine ⟨⟨by omega, by omega⟩, ⟨by omega, by omega⟩, ?_⟩
              have := ihk (by omega)
              rw [show e - (k + 1) - 1 + p_ws w (k + 1) - p_ws w j = e - k - 1 + p_ws w k - p_ws w j + w k by omega] at this
              exact this
        have v4 : M4 87 nb j = 1073741824 := by rw [f4, qU_s]
        refine ends n M4 _ _ _ (Int.le_refl _) (by omega) O4 (fun x x0 x1 => by rw [f4, qU_l (by omega)]; exact e87 x x0 x1) (fun x x0 x1 => by rw [f4, qU_k (by decide)]; exact e88 x x0 x1) ?_
        exact Or.inl ⟨v4, fun to t0 t1 => by omega⟩
    refine ⟨⟨by omega, by omega⟩, main (n - 1) M2 _ _ _ _ (by omega) (by omega) O2 ⟨fun _ => 0, fun _ => 0, fun _ => 0, ⟨rfl, rfl⟩, fun x x0 x1 => by omega, fun x x0 x1 => ?_, fun x x0 x1 => by omega⟩⟩
    rw [show x = n by omega, b0]; rfl
  case _ =>
    obtain ⟨R19, H⟩ := Hh h1
    rw [mR]
    refine ⟨⟨by omega, by omega⟩, ⟨by omega, by omega⟩, ⟨by omega, by omega⟩, ⟨by omega, by omega⟩, ⟨by omega, by omega⟩, fun M1 f1 => ⟨⟨by omega, by omega⟩, ⟨by omega, by omega⟩, ?_⟩⟩
    have v1 : M1 76 0 (19 + c) = R := by rw [f1, qU_k (by decide)]; exact mR
    rw [v1]
    refine ⟨⟨by omega, by omega⟩, ⟨by omega, by omega⟩, fun M2 f2 => H M2 (fun k o s z1 z2 => by rw [f2]; unfold qU; rw [if_neg z2, f1]; unfold qU; rw [if_neg z1]) (by rw [f2, qU_k (by decide), f1, qU_s]) (by rw [f2, qU_s])⟩
theorem L193v1 {d u : Nat} {h : qH} {f : Int → qH → qM → Prop} {M : qM} {ro ao c i n W R : Int} {w : Int → Int} (hu : k_h u h) (hc : 0 ≤ c ∧ c < 3) (hi : 0 ≤ i ∧ i < 6) (hn : M 65 0 (6 * c + i) % 32 = n) (hn15 : n ≤ 15) (hM : 0 ≤ M 65 0 (6 * c + i) ∧ M 65 0 (6 * c + i) ≤ 2147483647) (hW : 8 ≤ W ∧ W ≤ 30) (m1 : M 101 ao 1 = W) (mR : M 101 ao (19 + c) = R) (hR : 0 ≤ R)
    (hw : ∀ j, 0 ≤ w j ∧ w j ≤ 16) (hwj : ∀ j, 0 ≤ j → j < n → k_cd M (6 * c + i) j % 16 + M 68 0 (M 67 0 (6 * c + i) + j) = w j ∧ (0 ≤ M 67 0 (6 * c + i) + j ∧ M 67 0 (6 * c + i) + j < 64) ∧ 0 ≤ M 68 0 (M 67 0 (6 * c + i) + j) ∧ M 68 0 (M 67 0 (6 * c + i) + j) ≤ 1000)
    (Hh : M 65 0 (6 * c + i) / 32 % 2 ≠ 0 → R ≤ 19 ∧ ∀ M', (∀ (k : Nat) (o s : Int), ¬ (k = 71 ∧ o = ro ∧ s = 20 * c + R) → ¬ (k = 101 ∧ o = ao ∧ s = 19 + c) → M' k o s = M k o s) → M' 71 ro (20 * c + R) = i → M' 101 ao (19 + c) = R + 1 → f 0 h M')
    (Hp : M 65 0 (6 * c + i) / 32 % 2 = 0 → (1 ≤ n ∧ R + n ≤ 20) ∧ ∀ h' M' L Cc E, k_h (u + 2) h' → (∀ (k : Nat) (o s : Int), ¬ (k = 87 ∨ k = 88) → ¬ (k = 71 ∧ o = ro ∧ 20 * c + R ≤ s ∧ s < 20 * c + R + L) → ¬ (k = 101 ∧ o = ao ∧ s = 19 + c) → M' k o s = M k o s) → p_lined w n W L Cc E → M' 101 ao (19 + c) = R + L → (∀ s, 0 ≤ s → s < L → M' 71 ro (20 * c + R + s) = i + 16 * (if s = 0 then 0 else E (s - 1)) + 512 * E s) → f Cc h' M') : e193v1 (d + 3) h ro ao c i M f := by
  have n0 : 0 ≤ n := by omega
  refine w193v1 hu.1 ⟨⟨by omega, by omega⟩, ⟨by omega, by omega⟩, L189 hu.1 ⟨by omega, by omega⟩ (L190 hu.1 ⟨by omega, by omega⟩ hM ⟨fun h0 => ?_, fun h1 => ?_⟩)⟩
  case _ =>
    obtain ⟨⟨n1, hRn⟩, H⟩ := Hp h0
    rw [hn]
    have K1 := k_h_new (k := 87) (j := 1) (w := 17) hu (by decide) (Nat.le_refl _) (by omega)
    have K2 := k_h_new (k := 88) (j := 1) (w := 17) K1 (by decide) (Nat.le_refl _) (by omega)
    refine ⟨hu.2.1 _, fun nb enb M1 f1 z1 g1 => ?_⟩
    subst g1
    refine ⟨K1.2.1 _, fun nt ent M2 f2 z2 g2 => ?_⟩
    subst g2
    have O2 : ∀ (a : Nat) (o s : Int), ¬ (a = 87 ∨ a = 88) → M2 a o s = M a o s := fun a o s z => by rw [f2, lNm_o (fun y => z (Or.inr y.1)), f1, lNm_o (fun y => z (Or.inl y.1))]
    have b0 : M2 87 nb n = 0 := by rw [f2, lNm_o (by omega), f1, lNm_s]
    have ws := fun (x : Int) (hx : 0 ≤ x) => p_ws_s (w := w) hx
    have hmono : ∀ a b : Int, 0 ≤ a → a ≤ b → p_ws w a ≤ p_ws w b ∧ p_ws w b ≤ p_ws w a + 17 * (b - a) := by
      intro a b ha hab
      refine q_upto (P := fun x => p_ws w x ≤ p_ws w b ∧ p_ws w b ≤ p_ws w x + 17 * (b - x)) hab ⟨by omega, by omega⟩ (fun x h1 h2 h3 => ?_)
      have := p_ws_s (w := w) (x := x) (by omega)
      have := hw x
      omega
    -- the table, from the back
    have main : ∀ (j : Int) (M3 : qM) (u1 u13 u14 u15 : qV), j < n → -1 ≤ j → (∀ (a : Nat) (o s : Int), ¬ (a = 87 ∨ a = 88) → M3 a o s = M a o s) → (∃ C L E : Int → Int, (C n = 0 ∧ L n = 0) ∧ (∀ x, j < x → x < n → p_best w C L n W x (n + 1) (C x) (L x) (E x)) ∧ (∀ x, j < x → x ≤ n → M3 87 nb x = 64 * C x + L x) ∧ ∀ x, j < x → x < n → M3 88 nt x = E x) → b193v1_78 d (lNh (lNh h 87 17) 88 17) f u1 ro ao c i (6 * c + i) n nb nt j u13 u14 u15 M3 := by
      intro j
      refine k_down (b := -1) (P := fun j => ∀ (M3 : qM) (u1 u13 u14 u15 : qV), j < n → -1 ≤ j → (∀ (a : Nat) (o s : Int), ¬ (a = 87 ∨ a = 88) → M3 a o s = M a o s) → (∃ C L E : Int → Int, (C n = 0 ∧ L n = 0) ∧ (∀ x, j < x → x < n → p_best w C L n W x (n + 1) (C x) (L x) (E x)) ∧ (∀ x, j < x → x ≤ n → M3 87 nb x = 64 * C x + L x) ∧ ∀ x, j < x → x < n → M3 88 nt x = E x) → b193v1_78 d (lNh (lNh h 87 17) 88 17) f u1 ro ao c i (6 * c + i) n nb nt j u13 u14 u15 M3) (j + 1).toNat j (by omega) ?_ ?_
      · -- all is known: the lines
        intro j jn M3 u1 u13 u14 u15 _ j1 O3 hT
        have ej : j = -1 := by omega
        subst ej
        obtain ⟨C, L, E, c0, pb, e87, e88⟩ := hT
        have tab : p_tab w C L E n W := ⟨c0.1, c0.2, fun x a b => pb x (by omega) b⟩
        have bd := p_tab_bd n0 hw hW tab
        refine w193v1_78 K2.1 ⟨fun _ => ?_, fun z => absurd (by decide) z⟩
        have lines : ∀ (t s : Nat) (M4 : qM) (u0 u1 u2 u3 u8 u13 u14 u15 : qV), s + t = 16 → (∀ q : Nat, q < s → p_end E q < n) → (∀ (a : Nat) (o x : Int), ¬ (a = 71 ∧ o = ro ∧ 20 * c + R ≤ x ∧ x < 20 * c + R + s) → ¬ (a = 101 ∧ o = ao ∧ x = 19 + c) → M4 a o x = M3 a o x) → M4 101 ao (19 + c) = R + s → (∀ q : Nat, q < s → M4 71 ro (20 * c + R + q) = i + 16 * p_end E q + 512 * p_end E (q + 1)) → b193v1_277 d (lNh (lNh h 87 17) 88 17) f u0 u1 u2 u3 ro ao c i u8 n nb nt (p_end E s) u13 u14 u15 M4 := by
          intro t
          induction t with
          | zero =>
            intro s M4 u0 u1 u2 u3 u8 u13 u14 u15 hst hlt
            have := p_end_lt (C := C) (L := L) tab.2.2 15 (fun q hq => hlt q (by omega))
            have := hlt 15 (by omega)
            omega
          | succ t ih =>
            intro s M4 u0 u1 u2 u3 u8 u13 u14 u15 hst hlt O4 v19 rows
            have pl := p_end_lt (C := C) (L := L) tab.2.2 s hlt
            have pe : 0 ≤ p_end E s := by have := pl.1; omega
            by_cases more : p_end E s < n
            · have bj := tab.2.2 (p_end E s) (by omega) more
              have eE : M4 88 nt (p_end E s) = E (p_end E s) := by rw [O4 _ _ _ (by omega) (by omega)]; exact e88 _ (by omega) more
              have eS : p_end E (s + 1) = E (p_end E s) := rfl
              have bE := bj.1
              refine w193v1_277 K2.1 ⟨fun _ => ?_, fun z => absurd more z⟩
              rw [v19, eE]
              have sn : (s : Int) ≤ p_end E s := pl.1
              refine ⟨⟨by omega, by omega⟩, ⟨by omega, by omega⟩, ⟨by omega, by omega⟩, ⟨by omega, by omega⟩, ⟨by omega, by omega⟩, ⟨by omega, by omega⟩, ⟨by omega, by omega⟩, ⟨by omega, by omega⟩, ⟨by omega, by omega⟩, ⟨by omega, by omega⟩, fun M5 f5 => ⟨⟨by omega, by omega⟩, ⟨by omega, by omega⟩, ?_⟩⟩
              have v5 : M5 101 ao (19 + c) = R + s := by rw [f5, qU_k (by decide)]; exact v19
              rw [v5]
              refine ⟨⟨by omega, by omega⟩, ⟨by omega, by omega⟩, fun M6 f6 => ⟨⟨by omega, by omega⟩, ?_⟩⟩
              have O6 : ∀ (a : Nat) (o x : Int), ¬ (a = 71 ∧ o = ro ∧ x = 20 * c + (R + s)) → ¬ (a = 101 ∧ o = ao ∧ x = 19 + c) → M6 a o x = M4 a o x := fun a o x z1 z2 => by rw [f6]; unfold qU; rw [if_neg z2, f5]; unfold qU; rw [if_neg z1]
              rw [O6 88 _ _ (by omega) (by omega), eE, ← eS]
              refine ih (s + 1) M6 _ _ _ _ _ _ _ _ (by omega) (fun q hq => ?_) (fun a o x z1 z2 => ?_) ?_ (fun q hq => ?_)
              · by_cases e : q = s
                · subst e; exact more
                · exact hlt q (by omega)
              · rw [O6 a o x (fun y => z1 ⟨y.1, y.2.1, by omega, by omega⟩) z2, O4 a o x (fun y => z1 ⟨y.1, y.2.1, by omega, by omega⟩) z2]
              · rw [f6, qU_s]; omega
              · by_cases e : q = s
                · subst e
                  rw [f6, qU_k (by decide), f5, show 20 * c + R + (q : Int) = 20 * c + (R + q) by omega, qU_s, eS]
                · rw [O6 _ _ _ (by omega) (by omega)]; exact rows q (by omega)
            · refine w193v1_277 K2.1 ⟨fun z => absurd z more, fun _ => ?_⟩
              have e0 : M4 87 nb 0 = 64 * C 0 + L 0 := by rw [O4 _ _ _ (by omega) (by omega)]; exact e87 0 (by omega) n0
              have bd0 := bd 0 (Int.le_refl _) n0
              rw [e0, show (64 * C 0 + L 0) / 64 = C 0 by omega]
              have en : p_end E s = n := by omega
              refine ⟨by omega, H _ M4 s (C 0) (fun x => p_end E (x.toNat + 1)) (k_h_up K2 (by omega)) (fun k o x z z1 z2 => by rw [O4 k o x z1 z2]; exact O3 k o x z) ⟨C, L, E, tab, rfl, ⟨by omega, by omega⟩, by rw [Int.toNat_natCast]; exact en, fun q hq => hlt q (by omega), fun q hq => by show p_end E ((q : Int).toNat + 1) = _; rw [Int.toNat_natCast]⟩ v19 (fun x x0 x1 => ?_)⟩
              have := rows x.toNat (by omega)
              rw [show ((x.toNat : Nat) : Int) = x by omega] at this
              rw [this]
              by_cases z : x = 0
              · subst z; rw [if_pos rfl]; rfl
              · rw [if_neg z, show (x - 1).toNat + 1 = x.toNat by omega]
        exact lines 16 0 M3 _ _ _ _ _ _ _ _ rfl (fun q hq => absurd hq (Nat.not_lt_zero _)) (fun _ _ _ _ _ => rfl) (by rw [O3 _ _ _ (by omega), mR]; omega) (fun q hq => absurd hq (Nat.not_lt_zero _))
      · -- one word more
        intro j j0 ih M3 u1 u13 u14 u15 jn j1 O3 hT
        obtain ⟨C, L, E, c0, pb, e87, e88⟩ := hT
        have bd : ∀ x, j < x → x ≤ n → 0 ≤ C x ∧ C x ≤ 1000 * (n - x) ∧ 0 ≤ L x ∧ L x ≤ n - x := k_tab_bd hw hW (by omega) c0 pb
        refine w193v1_78 K2.1 ⟨fun z => absurd z (by omega), fun _ => ⟨⟨by omega, by omega⟩, fun M4 f4 => ?_⟩⟩
        have O4 : ∀ (a : Nat) (o s : Int), ¬ (a = 87 ∨ a = 88) → M4 a o s = M a o s := fun a o s z => by rw [f4, qU_k (by omega), O3 a o s z]
        -- the ends, from the last one
        have ends : ∀ (e : Int) (M5 : qM) (u1 u14 u15 : qV), e ≤ n → j ≤ e → (∀ (a : Nat) (o s : Int), ¬ (a = 87 ∨ a = 88) → M5 a o s = M a o s) → (∀ x, j < x → x ≤ n → M5 87 nb x = 64 * C x + L x) → (∀ x, j < x → x < n → M5 88 nt x = E x) → k_bs w C L n W j e (M5 87 nb j) (M5 88 nt j) → b193v1_94 d (lNh (lNh h 87 17) 88 17) f u1 ro ao c i (6 * c + i) n nb nt j e u14 u15 M5 := by
          intro e
          refine k_down (b := j) (P := fun e => ∀ (M5 : qM) (u1 u14 u15 : qV), e ≤ n → j ≤ e → (∀ (a : Nat) (o s : Int), ¬ (a = 87 ∨ a = 88) → M5 a o s = M a o s) → (∀ x, j < x → x ≤ n → M5 87 nb x = 64 * C x + L x) → (∀ x, j < x → x < n → M5 88 nt x = E x) → k_bs w C L n W j e (M5 87 nb j) (M5 88 nt j) → b193v1_94 d (lNh (lNh h 87 17) 88 17) f u1 ro ao c i (6 * c + i) n nb nt j e u14 u15 M5) (e - j).toNat e (by omega) ?_ ?_
          · intro e en M5 u1 u14 u15 _ je O5 a87 a88 bs
            have eq : e = j := by omega
            subst eq
            refine w193v1_94 K2.1 ⟨fun _ => ⟨⟨by omega, by omega⟩, ?_⟩, fun z => absurd (Int.le_refl _) z⟩
            rw [show e + -1 = e - 1 by omega]
            obtain ⟨cc, ll, v1, v2⟩ := k_bs_end (by omega) bs
            refine ih M5 _ _ _ _ (by omega) (by omega) O5 ⟨fun x => if x = e then cc else C x, fun x => if x = e then ll else L x, fun x => if x = e then M5 88 nt e else E x, ⟨by show (if n = e then cc else C n) = 0; rw [if_neg (by omega)]; exact c0.1, by show (if n = e then ll else L n) = 0; rw [if_neg (by omega)]; exact c0.2⟩, fun x x0 x1 => ?_, fun x x0 x1 => ?_, fun x x0 x1 => ?_⟩
            · by_cases z : x = e
              · subst z
                refine k_best_cg (C := C) (L := L) (fun to h => ⟨(if_neg (by omega)).symm, (if_neg (by omega)).symm⟩) ?_
                show p_best w C L n W x (n + 1) (if x = x then cc else C x) (if x = x then ll else L x) (if x = x then M5 88 nt x else E x)
                rw [if_pos rfl, if_pos rfl, if_pos rfl]
                exact v2
              · refine k_best_cg (C := C) (L := L) (fun to h => ⟨(if_neg (by omega)).symm, (if_neg (by omega)).symm⟩) ?_
                show p_best w C L n W x (n + 1) (if x = e then cc else C x) (if x = e then ll else L x) (if x = e then M5 88 nt e else E x)
                rw [if_neg z, if_neg z, if_neg z]
                exact pb x (by omega) x1
            · show M5 87 nb x = 64 * (if x = e then cc else C x) + (if x = e then ll else L x)
              by_cases z : x = e
              · subst z; rw [if_pos rfl, if_pos rfl]; exact v1
              · rw [if_neg z, if_neg z]; exact a87 x (by omega) x1
            · show M5 88 nt x = (if x = e then M5 88 nt e else E x)
              by_cases z : x = e
              · subst z; rw [if_pos rfl]
              · rw [if_neg z]; exact a88 x (by omega) x1
          · intro e e0 ihe M5 u1 u14 u15 en je O5 a87 a88 bs
            refine w193v1_94 K2.1 ⟨fun z => absurd z (by omega), fun _ => ⟨⟨by omega, by omega⟩, ⟨by omega, by omega⟩, ?_⟩⟩
            have je2 : j < e := by omega
            have m15 : M5 101 ao 1 = W := by rw [O5 _ _ _ (by omega)]; exact m1
            -- the length of the line
            refine q_upto (P := fun k => j ≤ k → b193v1_114 d (lNh (lNh h 87 17) 88 17) f u1 ro ao c i (6 * c + i) n nb nt j e (e - k - 1 + p_ws w k - p_ws w j) k M5) (a := j) (b := e) (by omega) ?_ ?_ (Int.le_refl _) |> fun z => by
                rw [show e - j - 1 + p_ws w j - p_ws w j = e - j - 1 by omega] at z
                exact z
            · intro _
              have g4 := hmono j e (by omega) (by omega)
              rw [show e - e - 1 + p_ws w e - p_ws w j = p_len w j e by unfold p_len; omega]
              have gl : p_len w j e = p_ws w e - p_ws w j - 1 := rfl
              have nx : ∀ (M6 : qM) (u14 u15 : qV), (∀ (a : Nat) (o s : Int), ¬ (a = 87 ∨ a = 88) → M6 a o s = M a o s) → (∀ x, j < x → x ≤ n → M6 87 nb x = 64 * C x + L x) → (∀ x, j < x → x < n → M6 88 nt x = E x) → k_bs w C L n W j (e - 1) (M6 87 nb j) (M6 88 nt j) → b193v1_94 d (lNh (lNh h 87 17) 88 17) f u1 ro ao c i (6 * c + i) n nb nt j (e + -1) u14 u15 M6 := fun M6 u14 u15 O6 b87 b88 bs6 => by
                rw [show e + -1 = e - 1 by omega]
                exact ihe M6 _ _ _ (by omega) (by omega) O6 b87 b88 bs6
              have fits : p_feas w W j e → b193v1_163 d (lNh (lNh h 87 17) 88 17) f u1 ro ao c i (6 * c + i) n nb nt j e (p_len w j e) (.inl e) M5 := by
                intro hfe
                refine w193v1_163 K2.1 ?_
                rw [m15]
                have sq := q_sq (x := W - p_len w j e) (by omega) (by omega)
                refine ⟨⟨fun _ _ => ⟨⟨by omega, by omega⟩, ⟨by omega, by omega⟩, sq.1⟩, fun _ => ⟨⟨by omega, by omega⟩, by omega, by omega⟩⟩, fun its hits => ?_⟩
                have elc : its = p_lc w n W j e := by rw [hits]; rfl
                have lcb : 0 ≤ p_lc w n W j e ∧ p_lc w n W j e ≤ 1000000 := by
                  rw [← elc, hits]
                  split
                  · split <;> omega
                  · omega
                rw [elc, a87 e (by omega) en]
                have be := bd e (by omega) en
                refine ⟨⟨by omega, by omega⟩, ⟨by omega, by omega⟩, ⟨by omega, by omega⟩, ⟨by omega, by omega⟩, ⟨by omega, by omega⟩, fun lt => ⟨⟨by omega, by omega⟩, ⟨by omega, by omega⟩, ⟨by omega, by omega⟩, ⟨by omega, by omega⟩, ⟨by omega, by omega⟩, fun M6 f6 => ⟨⟨by omega, by omega⟩, fun M7 f7 => ⟨⟨by omega, by omega⟩, ?_⟩⟩⟩, fun nlt => ⟨⟨by omega, by omega⟩, nx M5 _ _ O5 a87 a88 (k_bs_no bd ⟨by omega, en⟩ hfe nlt bs)⟩⟩
                have x87 : M7 87 nb j = 64 * p_lc w n W j e + 1 + (64 * C e + L e) := by rw [f7, qU_k (by decide), f6, qU_s]
                have x88 : M7 88 nt j = e := by rw [f7, qU_s]
                have O7 : ∀ (a : Nat) (o s : Int), ¬ ((a = 87 ∨ a = 88) ∧ s = j) → M7 a o s = M5 a o s := fun a o s z => by rw [f7]; unfold qU; rw [if_neg (fun y => z ⟨Or.inr y.1, y.2.2⟩), f6]; unfold qU; rw [if_neg (fun y => z ⟨Or.inl y.1, y.2.2⟩)]
                refine nx M7 _ _ (fun a o s z => by rw [O7 a o s (fun y => z y.1)]; exact O5 a o s z) (fun x x0 x1 => by rw [O7 _ _ _ (by omega)]; exact a87 x x0 x1) (fun x x0 x1 => by rw [O7 _ _ _ (by omega)]; exact a88 x x0 x1) ?_
                rw [x87, x88]
                exact k_bs_yes bd ⟨by omega, en⟩ hfe lt bs
              refine w193v1_114 K2.1 ⟨fun z => absurd z (Int.lt_irrefl _), fun _ => ?_⟩
              rw [m15]
              refine ⟨fun le => fits (Or.inr le), fun gt => ⟨⟨by omega, by omega⟩, fun one => fits (Or.inl (by omega)), fun two => ⟨⟨by omega, by omega⟩, nx M5 _ _ O5 a87 a88 (k_bs_skip (fun hf => by rcases hf with z | z <;> omega) bs)⟩⟩⟩
            · intro k k0 k1 ihk _
              have wk := hwj k (by omega) (by omega)
              have hwk := hw k
              have s1 := p_ws_s (w := w) (x := k) (by omega)
              have g4 := hmono j k (by omega) (by omega)
              have e67 : M5 67 0 (6 * c + i) = M 67 0 (6 * c + i) := O5 _ _ _ (by omega)
              have e68 : ∀ s, M5 68 0 s = M 68 0 s := fun s => O5 _ _ _ (by omega)
              have ecd : k_cd M5 (6 * c + i) k = k_cd M (6 * c + i) k := by unfold k_cd; rw [O5 _ _ _ (by omega)]
              refine w193v1_114 K2.1 ⟨fun _ => L192 K2.1 ⟨by omega, by omega⟩ ⟨by omega, by omega⟩ (by rw [e67]; exact wk.2.1) (by rw [e67, e68]; exact wk.2.2) ?_, fun z => absurd k1 z⟩
              rw [e67, e68, ecd, wk.1]
              refine ⟨⟨by omega, by omega⟩, ⟨by omega, by omega⟩, ?_⟩
              have := ihk (by omega)
              rw [show e - (k + 1) - 1 + p_ws w (k + 1) - p_ws w j = e - k - 1 + p_ws w k - p_ws w j + w k by omega] at this
              exact this
        have v4 : M4 87 nb j = 1073741824 := by rw [f4, qU_s]
        refine ends n M4 _ _ _ (Int.le_refl _) (by omega) O4 (fun x x0 x1 => by rw [f4, qU_l (by omega)]; exact e87 x x0 x1) (fun x x0 x1 => by rw [f4, qU_k (by decide)]; exact e88 x x0 x1) ?_
        exact Or.inl ⟨v4, fun to t0 t1 => by omega⟩
    refine ⟨⟨by omega, by omega⟩, main (n - 1) M2 _ _ _ _ (by omega) (by omega) O2 ⟨fun _ => 0, fun _ => 0, fun _ => 0, ⟨rfl, rfl⟩, fun x x0 x1 => by omega, fun x x0 x1 => ?_, fun x x0 x1 => by omega⟩⟩
    rw [show x = n by omega, b0]; rfl
  case _ =>
    obtain ⟨R19, H⟩ := Hh h1
    rw [mR]
    refine ⟨⟨by omega, by omega⟩, ⟨by omega, by omega⟩, ⟨by omega, by omega⟩, ⟨by omega, by omega⟩, ⟨by omega, by omega⟩, fun M1 f1 => ⟨⟨by omega, by omega⟩, ⟨by omega, by omega⟩, ?_⟩⟩
    have v1 : M1 101 ao (19 + c) = R := by rw [f1, qU_k (by decide)]; exact mR
    rw [v1]
    refine ⟨⟨by omega, by omega⟩, ⟨by omega, by omega⟩, fun M2 f2 => H M2 (fun k o s z1 z2 => by rw [f2]; unfold qU; rw [if_neg z2, f1]; unfold qU; rw [if_neg z1]) (by rw [f2, qU_k (by decide), f1, qU_s]) (by rw [f2, qU_s])⟩
