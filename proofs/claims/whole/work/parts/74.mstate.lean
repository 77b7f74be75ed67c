/-! ===== FacingleafModel: states; manyBare, not added ===== -/
/-- a state's number; y: how far the page on the left is filled, 0 if there is none -/
def m_st (T : pT) (a f n y : Int) : Int := ((a * 5 + f) * 4 + (T 2 a - n)) * 15 + y
def m_x (a y : Int) : Int := if a = 0 then 15 else y
def m_ok (T : pT) (a f n y : Int) : Prop := g_at T a f n ∧ (0 ≤ y ∧ y ≤ 14) ∧ (a = 0 → y = 0)
theorem m_st_p {T : pT} (hT : g_tab T) {a f n y : Int} (h : m_ok T a f n y) : (0 ≤ m_st T a f n y ∧ m_st T a f n y < (a + 1) * 300) ∧ m_st T a f n y / 300 = a ∧ m_st T a f n y / 60 % 5 = f ∧ T 2 a - m_st T a f n y / 15 % 4 = n ∧ m_st T a f n y % 15 = y := by
  obtain ⟨s, h2, h3⟩ := h
  have ta := g_tab_at hT s.1
  have hF := hT.2.2.1
  obtain ⟨s1, s2, s3⟩ := s
  unfold m_st
  omega
theorem m_far {T : pT} {a b f m n y : Int} (h : a = 0 → y = 0) : g_far T a b f m n (m_x a y) = g_far T a b f m n y := by
  unfold m_x
  by_cases k : a = 0
  · rw [if_pos k, h k]
    unfold g_far
    rw [if_neg (by decide), if_pos rfl, if_pos rfl]
  · rw [if_neg k]
theorem m_xb {a y : Int} (hy : 0 ≤ y ∧ y ≤ 14) : 0 ≤ m_x a y ∧ m_x a y ≤ 15 := by unfold m_x; split <;> omega
/-- the state behind a page -/
def m_nx (T : pT) (a f n y b m : Int) : Int := m_st T b (f + m) (n + g_lines T a b f m n) (g_ahead T a b f m n (m_x a y))
theorem m_next {T : pT} (hT : g_tab T) {a f n y b m : Int} (h : m_ok T a f n y) (hc : g_can T a f n b m) : m_ok T b (f + m) (n + g_lines T a b f m n) (g_ahead T a b f m n (m_x a y)) ∧ m_x b (g_ahead T a b f m n (m_x a y)) = g_ahead T a b f m n (m_x a y) := by
  have nn := (g_nums hT h.1 hc.1 ⟨hc.2.1.1, hc.2.1.2.2⟩).2.2.2.2.2 hc.2.2
  have h1 := h.1.1
  have h2 := hc.1
  refine ⟨⟨g_next hT h.1 hc.1 ⟨hc.2.1.1, hc.2.1.2.2⟩ hc.2.2, by unfold g_ahead; split <;> omega, fun q => by omega⟩, ?_⟩
  unfold m_x
  rw [if_neg (show ¬ b = 0 by omega)]
theorem t189 {d : Nat} {h : qH} (hS : qSe h) {s : Int} {M : qM} {F : Int → qM → Prop} (hs : 0 ≤ s) (H : F (s / 60 % 5) M) : e189 (d + 1) h s M F :=
  w189 hS ⟨hs, by omega, H⟩
theorem t190 {d : Nat} {h : qH} (hS : qSe h) {T : pT} {c s : Int} {M : qM} {F : Int → qM → Prop} (hT : g_tab T) (hM : g_mT T c M) (hs : 0 ≤ s ∧ s / 300 ≤ T 8 0) (H : F (T 2 (s / 300) - s / 15 % 4) M) : e190 (d + 1) h s M F := by
  have h70 := hT.1
  have hN := hT.2.2.2.1
  have ta := g_tab_at hT (a := s / 300) ⟨by omega, hs.2⟩
  refine w190 hS ?_
  rw [(hM.2.2.2.2.2.1 (s / 300) (by omega) hs.2).2.2.1]
  exact ⟨hs.1, ⟨by omega, by omega⟩, hs.1, by omega, ⟨by omega, by omega⟩, H⟩
theorem t187 {d : Nat} {h : qH} (hS : qSe h) {T : pT} {c a f n o x : Int} {M : qM} {F : Int → qM → Prop} (hT : g_tab T) (hM : g_mT T c M) (hs : g_at T a f n) (hx : 0 ≤ x ∧ x ≤ 100) (H : F (m_st T a f n (if o = 0 then 0 else x)) M) : e187 (d + 1) h a f n o x M F := by
  have h70 := hT.1
  have hF := hT.2.2.1
  have hN := hT.2.2.2.1
  have ta := g_tab_at hT hs.1
  obtain ⟨s1, s2, s3⟩ := hs
  refine w187 hS ?_
  rw [(hM.2.2.2.2.2.1 a s1.1 s1.2).2.2.1]
  refine ⟨⟨by omega, by omega⟩, ⟨by omega, by omega⟩, ⟨by omega, by omega⟩, ⟨by omega, by omega⟩, ⟨by omega, by omega⟩, ⟨by omega, by omega⟩, ⟨by omega, by omega⟩, fun y hy => ?_⟩
  have hy2 : 0 ≤ y ∧ y ≤ 100 := by rw [hy]; split <;> omega
  have e : ((a * 5 + f) * 4 + T 2 a - n) * 15 + y = m_st T a f n (if o = 0 then 0 else x) := by rw [← hy]; unfold m_st; omega
  refine ⟨⟨by omega, by omega⟩, ?_⟩
  rw [e]
  exact H
theorem t188 {d : Nat} {h : qH} (hS : qSe h) {s : Int} {M : qM} {F : Int → qM → Prop} (hs : 0 ≤ s) (H : F (if s / 300 = 0 then 1 else if s % 15 ≤ 0 then 0 else 1) M) : e188 (d + 1) h s M F := by
  refine w188 hS ⟨hs, fun _ => hs, fun y hy => ⟨by rw [hy]; split <;> (try split) <;> omega, by rw [hy]; exact H⟩⟩
theorem t192 {d : Nat} {h : qH} (hS : qSe h) {T : pT} {c b f : Int} {M : qM} {F : Int → qM → Prop} (hT : g_tab T) (hM : g_mT T c M) (hb : 0 ≤ b ∧ b ≤ T 8 0) (hf : 0 ≤ f ∧ f ≤ 4) (H : F (if T 1 b - f < 2 then T 1 b - f else 2) M) : e192 (d + 2) h b f M F := by
  have h70 := hT.1
  have hF := hT.2.2.1
  have tb := g_tab_at hT hb
  refine w192 hS ?_
  rw [(hM.2.2.2.2.2.1 b hb.1 hb.2).2.1]
  refine ⟨⟨by omega, by omega⟩, ⟨by omega, by omega⟩, t153 hS ?_⟩
  have e : (if (2 : Int) < T 1 b - f then 2 else T 1 b - f) = (if T 1 b - f < 2 then T 1 b - f else 2) := by split <;> split <;> omega
  rw [e]
  exact H
theorem t198 {d : Nat} {h : qH} (hS : qSe h) {T : pT} {c a b f m n y : Int} {M : qM} {F : Int → qM → Prop} (hT : g_tab T) (hM : g_mT T c M) (hs : m_ok T a f n y) (hab : a < b ∧ b ≤ T 8 0) (hm : 0 ≤ m ∧ f + m ≤ T 1 b)
    (H1 : g_ok T a b f m n → ∀ M', fr185 M M' → M' 11 0 51 = m → M' 11 0 52 = g_lines T a b f m n → M' 11 0 53 = g_grown T a b f m n → M' 11 0 54 = g_fill T a b f m n → M' 11 0 55 = g_cost T a b f m n + g_far T a b f m n (m_x a y) → F 1 M')
    (H0 : ¬ g_ok T a b f m n → ∀ M', fr185 M M' → F 0 M') : e198 (d + 3) h c (m_st T a f n y) (b - a) m M F := by
  have ps := m_st_p hT hs
  have hs1 := hs.1.1
  refine w198 hS ⟨ps.1.1, t189 hS ps.1.1 (t190 hS hT hM ⟨ps.1.1, by omega⟩ ?_)⟩
  rw [ps.2.1, ps.2.2.1, ps.2.2.2.1, ps.2.2.2.2]
  refine ⟨ps.1.1, t185 hS hT hM hs.1 hab hm hs.2.1 (fun ok M1 O1 x1 x2 x3 x4 x5 => ⟨Or.inr rfl, H1 ok M1 O1 x1 x2 x3 x4 (by rw [m_far hs.2.2]; exact x5)⟩) (fun nok M1 O1 => ⟨Or.inl rfl, H0 nok M1 O1⟩)⟩
theorem t191 {d : Nat} {h : qH} (hS : qSe h) {T : pT} {c a b f m n y : Int} {M : qM} {F : Int → qM → Prop} (hT : g_tab T) (hM : g_mT T c M) (hs : m_ok T a f n y) (hc : g_can T a f n b m) (h51 : M 11 0 51 = m) (h52 : M 11 0 52 = g_lines T a b f m n) (h54 : M 11 0 54 = g_fill T a b f m n)
    (H : F (m_nx T a f n y b m) M) : e191 (d + 2) h b (m_st T a f n y) M F := by
  have ps := m_st_p hT hs
  have hs1 := hs.1.1
  have nn := (g_nums hT hs.1 hc.1 ⟨hc.2.1.1, hc.2.1.2.2⟩).2.2.2.2.2 hc.2.2
  have nxt := g_next hT hs.1 hc.1 ⟨hc.2.1.1, hc.2.1.2.2⟩ hc.2.2
  have qq := g_can_q hT hs.1 hc
  refine w191 hS (t189 hS ps.1.1 ?_)
  rw [h51, ps.2.2.1]
  refine ⟨qq.1, t190 hS hT hM ⟨ps.1.1, by omega⟩ ?_⟩
  rw [h52, ps.2.1, ps.2.2.2.1]
  refine ⟨qq.2, t188 hS ps.1.1 ?_⟩
  rw [ps.2.1, ps.2.2.2.2, h54]
  intro o ho
  refine t187 hS hT hM nxt ⟨by omega, by omega⟩ ?_
  have e : (if o = 0 then 0 else g_fill T a b f m n) = g_ahead T a b f m n (m_x a y) := by
    rw [ho]
    unfold g_ahead m_x
    have hy := hs.2.1
    have hy0 := hs.2.2
    by_cases k : a = 0
    · rw [if_pos k, if_pos k, if_neg (show ¬ (1 : Int) = 0 by decide), if_pos rfl, if_neg (show ¬ (15 : Int) = 0 by decide)]
    · rw [if_neg k, if_neg k]
      by_cases k2 : y ≤ 0
      · rw [if_pos k2, if_pos rfl, if_neg (show ¬ (1 : Int) = 0 by decide), if_pos (show y = 0 by omega)]
      · rw [if_neg k2, if_neg (show ¬ (1 : Int) = 0 by decide), if_pos rfl, if_neg (show ¬ y = 0 by omega)]
  rw [e]
  exact H
/-- a page without rows is looked at: its floats -/
theorem t186_42 {d : Nat} {h : qH} (hS : qSe h) {T : pT} {c x4 p f n : Int} {M : qM} {F : Int → qM → Prop} {u2 u3 : qV} (hT : g_tab T) (hM : g_mT T c M) (hf : 0 ≤ f ∧ f ≤ T 8 2)
    (H : b186_90 d h F c u2 u3 x4 p (g_bF T f) n f n (T 4 (g_bF T f) - T 4 f) M) : b186_42 d h F c u2 u3 x4 p f n f n 0 M := by
  have hF := hT.2.2.1
  have hD := hT.2.1
  have hm := hT.2.2.2.2.2.2.2.2.1
  obtain ⟨c0, c1, c2, c3, c4, c5, c6, c7⟩ := id hM
  have loop : ∀ (t : Nat) (g : Int), g + t = T 8 2 → f ≤ g → T 4 g - T 4 f ≤ T 8 1 → b186_42 d h F c u2 u3 x4 p g n f n (T 4 g - T 4 f) M := by
    intro t
    induction t with
    | zero =>
      intro g e0 e1 e2
      refine w186_42 hS ⟨c0, fun q => by rw [c3] at q; omega, fun _ => ?_⟩
      rw [g_bF_u hT hf ⟨e1, by omega⟩ e2 (Or.inl (by omega))]
      exact H
    | succ t ih =>
      intro g e0 e1 e2
      have a1 := hm f g hf.1 e1 (by omega)
      have a2 := hm g (g + 1) (by omega) (by omega) (by omega)
      have e : T 4 g - T 4 f + (T 4 (g + 1) - T 4 g) = T 4 (g + 1) - T 4 f := by omega
      refine w186_42 hS ⟨c0, fun _ => t182 hS hT hM ⟨by omega, by decide, by omega⟩ ?_, fun q => by rw [c3] at q; omega⟩
      rw [e, c2]
      refine ⟨⟨by omega, by omega⟩, fun k => t182 hS hT hM ⟨by omega, by decide, by omega⟩ ?_, fun k => ?_⟩
      · rw [e]
        exact ⟨⟨by omega, by omega⟩, ⟨by omega, by omega⟩, ih (g + 1) (by omega) (by omega) k⟩
      · have eg := g_bF_u hT hf ⟨e1, by omega⟩ e2 (Or.inr (by omega))
        rw [eg]
        exact H
  have := loop (T 8 2 - f).toNat f (by omega) (Int.le_refl _) (by omega)
  rw [show T 4 f - T 4 f = 0 by omega] at this
  exact this
/-- and its lines -/
theorem t186_90 {d : Nat} {h : qH} (hS : qSe h) {T : pT} {c x4 p f n : Int} {M : qM} {F : Int → qM → Prop} {u2 u3 : qV} (hT : g_tab T) (hM : g_mT T c M) (hf : 0 ≤ f ∧ f ≤ T 8 2) (hn : 0 ≤ n ∧ n ≤ T 8 3) (hp : 0 ≤ p ∧ p ≤ 100)
    (H0 : x4 = 0 → ∀ (u8 u9 u10 : qV), b186_9 d h F c u2 u3 x4 (p + 1) (g_bF T f) (n + g_bL T f n) u8 u9 u10 M)
    (H1 : x4 ≠ 0 → ∀ (u8 u9 u10 : qV), e195 (d + 1) h c (T 8 0) 0 f (g_bF T f - f) n (g_bL T f n) 0 (g_bZ T f n) M (fun M' => b186_9 d h F c u2 u3 x4 (p + 1) (g_bF T f) (n + g_bL T f n) u8 u9 u10 M')) : b186_90 d h F c u2 u3 x4 p (g_bF T f) n f n (T 4 (g_bF T f) - T 4 f) M := by
  have hF := hT.2.2.1
  have hN := hT.2.2.2.1
  have hD := hT.2.1
  have hm := hT.2.2.2.2.2.2.2.2.1
  obtain ⟨c0, c1, c2, c3, c4, c5, c6, c7⟩ := id hM
  have gp := (g_bF_p hT hf).1
  have go := g_b_go hT hf hn
  have h4g := hm f (g_bF T f) hf.1 gp.1 gp.2
  -- behind the lines
  have fin : ∀ (l : Int), l = g_bL T f n → (¬ (n + l ≤ n) → qIn (n + l - n) ∧ qIn (n + l - n + 1)) ∧ (∀ x, x = (if n + l ≤ n then 0 else n + l - n + 1) → qIn (T 4 (g_bF T f) - T 4 f + x) ∧ qIn (p + 1) ∧ (x4 = 0 → b186_9 d h F c u2 u3 x4 (p + 1) (g_bF T f) (n + l) (.inl f) (.inl n) (.inl (T 4 (g_bF T f) - T 4 f + x)) M) ∧ (¬ (x4 = 0) → (0 ≤ c ∧ c < 3) ∧ qIn (g_bF T f - f) ∧ qIn (n + l - n) ∧ e195 (d + 1) h c (M 87 0 c) 0 f (g_bF T f - f) n (n + l - n) 0 (T 4 (g_bF T f) - T 4 f + x) M (fun M' => b186_9 d h F c u2 u3 x4 (p + 1) (g_bF T f) (n + l) (.inl f) (.inl n) (.inl (T 4 (g_bF T f) - T 4 f + x)) M'))) := by
    intro l hl
    have hl2 : 0 ≤ l ∧ n + l ≤ T 8 3 := by rw [hl]; exact go.1
    refine ⟨fun _ => ⟨⟨by omega, by omega⟩, ⟨by omega, by omega⟩⟩, fun x hx => ?_⟩
    have hx2 : 0 ≤ x ∧ x ≤ 20 := by rw [hx]; split <;> omega
    refine ⟨⟨by omega, by omega⟩, ⟨by omega, by omega⟩, fun k => by rw [hl]; exact H0 k _ _ _, fun k => ⟨c0, ⟨by omega, by omega⟩, ⟨by omega, by omega⟩, ?_⟩⟩
    have ez : T 4 (g_bF T f) - T 4 f + x = g_bZ T f n := by
      rw [hx, hl]
      unfold g_bZ
      by_cases k2 : g_bL T f n ≤ 0
      · rw [if_pos k2, if_pos (by omega)]
      · rw [if_neg k2, if_neg (by omega)]; omega
    rw [c1, show n + l - n = g_bL T f n by omega, ez, hl]
    exact H1 k _ _ _
  have er : g_bR T f = T 8 1 - (T 4 (g_bF T f) - T 4 f) - 1 := rfl
  refine w186_90 hS ?_
  rw [c2, c4]
  refine ⟨⟨by omega, by omega⟩, fun k => ?_, fun k => ⟨c0, ⟨by omega, by omega⟩, ⟨by omega, by omega⟩, ⟨by omega, by omega⟩, t153 hS ?_⟩⟩
  · have e0 : (0 : Int) = g_bL T f n := by unfold g_bL; rw [if_pos (by omega)]
    have := fin 0 e0
    refine ⟨⟨by omega, by omega⟩, this.1, this.2⟩
  · have e0 : (if T 8 3 - n < T 8 1 - (T 4 (g_bF T f) - T 4 f) - 1 then T 8 3 - n else T 8 1 - (T 4 (g_bF T f) - T 4 f) - 1) = g_bL T f n := by
      unfold g_bL
      rw [← er, if_neg (show ¬ g_bR T f < 1 by omega)]
    have := fin _ e0
    refine ⟨?_, this.1, this.2⟩
    rw [e0]
    exact ⟨by omega, by omega⟩
theorem t186 {d : Nat} {h : qH} (hS : qSe h) {T : pT} {c f n : Int} {M : qM} {F : Int → qM → Prop} (hT : g_tab T) (hM : g_mT T c M) (hf : 0 ≤ f ∧ f ≤ T 8 2) (hn : 0 ≤ n ∧ n ≤ T 8 3) (H : F (g_bN T f n) M) : e186 (d + 2) h c f n 0 M F := by
  have hF := hT.2.2.1
  have hN := hT.2.2.2.1
  obtain ⟨c0, c1, c2, c3, c4, c5, c6, c7⟩ := id hM
  refine w186 hS ?_
  have loop : ∀ (t : Nat) (u2 u3 : qV) (f' n' p : Int) (u8 u9 u10 : qV), T 8 2 + T 8 3 - f' - n' ≤ t → (0 ≤ f' ∧ f' ≤ T 8 2) → (0 ≤ n' ∧ n' ≤ T 8 3) → 0 ≤ p → p + (T 8 2 + T 8 3 - f' - n') ≤ 16 → p + g_bN T f' n' = g_bN T f n → b186_9 d h F c u2 u3 0 p f' n' u8 u9 u10 M := by
    intro t
    induction t with
    | zero =>
      intro u2 u3 f' n' p u8 u9 u10 e0 e1 e2 p0 p1 e3
      have s := (g_bN_s hT e1 e2).2.2 (by omega)
      have e : p = g_bN T f n := by omega
      refine w186_9 hS ⟨c0, fun q => by rw [c3] at q; omega, fun _ => ⟨c0, fun q => by rw [c4] at q; omega, fun _ => ?_⟩⟩
      rw [e]; exact H
    | succ t ih =>
      intro u2 u3 f' n' p u8 u9 u10 e0 e1 e2 p0 p1 e3
      by_cases hmore : f' < T 8 2 ∨ n' < T 8 3
      · have s := (g_bN_s hT e1 e2).2.1 hmore
        have go := g_b_go hT e1 e2
        have gp := (g_bF_p hT e1).1
        have g3 := go.2.2 hmore
        have step : b186_42 d h F c u2 u3 0 p f' n' f' n' 0 M := t186_42 hS hT hM e1 (t186_90 hS hT hM e1 e2 ⟨p0, by omega⟩ (fun _ u8 u9 u10 => ih _ _ _ _ _ _ _ _ (by omega) ⟨by omega, gp.2⟩ ⟨by omega, go.1.2⟩ (by omega) (by omega) (by omega)) (fun q => absurd rfl q))
        refine w186_9 hS ⟨c0, fun _ => step, fun k => ⟨c0, fun _ => step, fun k2 => ?_⟩⟩
        exfalso
        rw [c3] at k
        rw [c4] at k2
        omega
      · have s := (g_bN_s hT e1 e2).2.2 hmore
        have e : p = g_bN T f n := by omega
        refine w186_9 hS ⟨c0, fun q => by rw [c3] at q; omega, fun _ => ⟨c0, fun q => by rw [c4] at q; omega, fun _ => ?_⟩⟩
        rw [e]; exact H
  exact loop (T 8 2 + T 8 3 - f - n).toNat _ _ f n 0 _ _ _ (by omega) hf hn (Int.le_refl _) (by omega) (by omega)
