/-! ===== pages without rows; the least cost from a state on ===== -/
def g_bFN (T : pT) (f : Int) : Nat → Int
  | 0 => f
  | k + 1 => if g_bFN T f k < T 8 2 ∧ T 4 (g_bFN T f k + 1) - T 4 f ≤ T 8 1 then g_bFN T f k + 1 else g_bFN T f k
/-- the floats up to the end of a page without rows -/
def g_bF (T : pT) (f : Int) : Int := g_bFN T f 5
def g_bR (T : pT) (f : Int) : Int := T 8 1 - (T 4 (g_bF T f) - T 4 f) - 1
def g_bL (T : pT) (f n : Int) : Int := if g_bR T f < 1 then 0 else if T 8 3 - n < g_bR T f then T 8 3 - n else g_bR T f
def g_bZ (T : pT) (f n : Int) : Int := T 4 (g_bF T f) - T 4 f + (if g_bL T f n ≤ 0 then 0 else g_bL T f n + 1)
/-- how many pages without rows follow -/
def g_bNN (T : pT) : Nat → Int → Int → Int
  | 0 => fun _ _ => 0
  | k + 1 => fun f n => if f < T 8 2 ∨ n < T 8 3 then 1 + g_bNN T k (g_bF T f) (n + g_bL T f n) else 0
def g_bN (T : pT) (f n : Int) : Int := g_bNN T 17 f n
theorem g_bF_p {T : pT} (hT : g_tab T) {f : Int} (hf : 0 ≤ f ∧ f ≤ T 8 2) : (f ≤ g_bF T f ∧ g_bF T f ≤ T 8 2) ∧ T 4 (g_bF T f) - T 4 f ≤ T 8 1 ∧ (g_bF T f = T 8 2 ∨ T 8 1 < T 4 (g_bF T f + 1) - T 4 f) := by
  have hF := hT.2.2.1
  have hD := hT.2.1
  have key : ∀ k : Nat, (f ≤ g_bFN T f k ∧ g_bFN T f k ≤ T 8 2) ∧ T 4 (g_bFN T f k) - T 4 f ≤ T 8 1 ∧ (g_bFN T f k = f + k ∨ g_bFN T f k = T 8 2 ∨ T 8 1 < T 4 (g_bFN T f k + 1) - T 4 f) := by
    intro k
    induction k with
    | zero => exact ⟨⟨Int.le_refl _, hf.2⟩, by show T 4 f - T 4 f ≤ _; omega, Or.inl (by show f = f + 0; omega)⟩
    | succ k ih =>
      have e : g_bFN T f (k + 1) = if g_bFN T f k < T 8 2 ∧ T 4 (g_bFN T f k + 1) - T 4 f ≤ T 8 1 then g_bFN T f k + 1 else g_bFN T f k := rfl
      rw [e]
      by_cases h : g_bFN T f k < T 8 2 ∧ T 4 (g_bFN T f k + 1) - T 4 f ≤ T 8 1
      · rw [if_pos h]
        refine ⟨⟨by omega, by omega⟩, h.2, ?_⟩
        rcases ih.2.2 with k1 | k1 | k1
        · left; omega
        · omega
        · omega
      · rw [if_neg h]
        refine ⟨ih.1, ih.2.1, ?_⟩
        rcases ih.2.2 with k1 | k1 | k1
        · by_cases h2 : g_bFN T f k < T 8 2
          · right; right; exact Int.not_le.mp (fun z => h ⟨h2, z⟩)
          · right; left; omega
        · exact Or.inr (Or.inl k1)
        · exact Or.inr (Or.inr k1)
  have := key 5
  show (f ≤ g_bFN T f 5 ∧ g_bFN T f 5 ≤ T 8 2) ∧ T 4 (g_bFN T f 5) - T 4 f ≤ T 8 1 ∧ (g_bFN T f 5 = T 8 2 ∨ T 8 1 < T 4 (g_bFN T f 5 + 1) - T 4 f)
  omega
theorem g_bF_u {T : pT} (hT : g_tab T) {f g : Int} (hf : 0 ≤ f ∧ f ≤ T 8 2) (h1 : f ≤ g ∧ g ≤ T 8 2) (h2 : T 4 g - T 4 f ≤ T 8 1) (h3 : g = T 8 2 ∨ T 8 1 < T 4 (g + 1) - T 4 f) : g = g_bF T f := by
  obtain ⟨b1, b2, b3⟩ := g_bF_p hT hf
  have hm := hT.2.2.2.2.2.2.2.2.1
  rcases Int.lt_trichotomy g (g_bF T f) with k | k | k
  · have := hm (g + 1) (g_bF T f) (by omega) (by omega) (by omega); omega
  · exact k
  · have := hm (g_bF T f + 1) g (by omega) (by omega) (by omega); omega
/-- a page without rows shows something -/
theorem g_b_go {T : pT} (hT : g_tab T) {f n : Int} (hf : 0 ≤ f ∧ f ≤ T 8 2) (hn : 0 ≤ n ∧ n ≤ T 8 3) : (0 ≤ g_bL T f n ∧ n + g_bL T f n ≤ T 8 3) ∧ (0 ≤ g_bZ T f n ∧ g_bZ T f n ≤ 14) ∧ (f < T 8 2 ∨ n < T 8 3 → f + n + 1 ≤ g_bF T f + (n + g_bL T f n)) := by
  obtain ⟨b1, b2, b3⟩ := g_bF_p hT hf
  have hm := hT.2.2.2.2.2.2.2.2.1
  have hD := hT.2.1
  have m1 := hm f (g_bF T f) hf.1 b1.1 b1.2
  have hl : 0 ≤ g_bL T f n ∧ n + g_bL T f n ≤ T 8 3 := by
    unfold g_bL
    split
    · omega
    · split <;> omega
  have hl2 : g_bL T f n ≤ 0 ∨ g_bL T f n + 1 + (T 4 (g_bF T f) - T 4 f) ≤ T 8 1 := by
    unfold g_bL g_bR
    split
    · omega
    · split <;> omega
  refine ⟨hl, ?_, fun h => ?_⟩
  · unfold g_bZ; split <;> omega
  · by_cases hff : f < T 8 2
    · have m2 := hm f (f + 1) hf.1 (by omega) (by omega)
      by_cases k : g_bF T f = f
      · rw [k] at b3; omega
      · omega
    · have k : g_bF T f = f := by omega
      have : 1 ≤ g_bL T f n := by
        unfold g_bL
        have : g_bR T f = T 8 1 - 1 := by unfold g_bR; rw [k]; omega
        rw [this, if_neg (by omega)]
        split <;> omega
      omega
theorem g_bNN_st {T : pT} (hT : g_tab T) : ∀ (k k' : Nat) (f n : Int), (0 ≤ f ∧ f ≤ T 8 2) → (0 ≤ n ∧ n ≤ T 8 3) → T 8 2 + T 8 3 - f - n ≤ k → T 8 2 + T 8 3 - f - n ≤ k' → g_bNN T k f n = g_bNN T k' f n ∧ 0 ≤ g_bNN T k f n ∧ g_bNN T k f n ≤ T 8 2 + T 8 3 - f - n
  | 0, k', f, n, hf, hn, h1, h2 => by
    have e : ∀ k, g_bNN T k f n = 0 := by
      intro k
      cases k with
      | zero => rfl
      | succ k => show (if _ then _ else _) = _; rw [if_neg (by omega)]
    rw [e, e]; omega
  | k + 1, 0, f, n, hf, hn, h1, h2 => by
    have e : ∀ k, g_bNN T k f n = 0 := by
      intro k
      cases k with
      | zero => rfl
      | succ k => show (if _ then _ else _) = _; rw [if_neg (by omega)]
    rw [e, e]; omega
  | k + 1, k' + 1, f, n, hf, hn, h1, h2 => by
    have e1 : g_bNN T (k + 1) f n = if f < T 8 2 ∨ n < T 8 3 then 1 + g_bNN T k (g_bF T f) (n + g_bL T f n) else 0 := rfl
    have e2 : g_bNN T (k' + 1) f n = if f < T 8 2 ∨ n < T 8 3 then 1 + g_bNN T k' (g_bF T f) (n + g_bL T f n) else 0 := rfl
    rw [e1, e2]
    by_cases h : f < T 8 2 ∨ n < T 8 3
    · have go := g_b_go hT hf hn
      have gp := (g_bF_p hT hf).1
      have g3 := go.2.2 h
      have := g_bNN_st hT k k' (g_bF T f) (n + g_bL T f n) ⟨by omega, gp.2⟩ ⟨by omega, go.1.2⟩ (by omega) (by omega)
      rw [if_pos h, if_pos h, this.1]
      omega
    · rw [if_neg h, if_neg h]; omega
theorem g_bN_s {T : pT} (hT : g_tab T) {f n : Int} (hf : 0 ≤ f ∧ f ≤ T 8 2) (hn : 0 ≤ n ∧ n ≤ T 8 3) : (0 ≤ g_bN T f n ∧ g_bN T f n ≤ 16) ∧ (f < T 8 2 ∨ n < T 8 3 → g_bN T f n = 1 + g_bN T (g_bF T f) (n + g_bL T f n)) ∧ (¬ (f < T 8 2 ∨ n < T 8 3) → g_bN T f n = 0) := by
  have hF := hT.2.2.1
  have hN := hT.2.2.2.1
  have s := g_bNN_st hT 17 16 f n hf hn (by omega) (by omega)
  have e1 : g_bNN T 17 f n = if f < T 8 2 ∨ n < T 8 3 then 1 + g_bNN T 16 (g_bF T f) (n + g_bL T f n) else 0 := rfl
  unfold g_bN
  refine ⟨by omega, fun h => ?_, fun h => by rw [e1, if_neg h]⟩
  have go := g_b_go hT hf hn
  have gp := (g_bF_p hT hf).1
  have := g_bNN_st hT 16 17 (g_bF T f) (n + g_bL T f n) ⟨by omega, gp.2⟩ ⟨by omega, go.1.2⟩ (by omega) (by omega)
  rw [e1, if_pos h, this.1]
/-- the least of g 0 to g (k - 1), at most I -/
def g_minN (g : Nat → Int) (I : Int) : Nat → Int
  | 0 => I
  | k + 1 => if g k < g_minN g I k then g k else g_minN g I k
theorem g_minN_p {g : Nat → Int} {I : Int} : ∀ k : Nat, g_minN g I k ≤ I ∧ (∀ i, i < k → g_minN g I k ≤ g i) ∧ (g_minN g I k = I ∨ ∃ i, i < k ∧ g_minN g I k = g i)
  | 0 => ⟨Int.le_refl _, fun i hi => absurd hi (Nat.not_lt_zero _), Or.inl rfl⟩
  | k + 1 => by
    obtain ⟨h1, h2, h3⟩ := g_minN_p (g := g) (I := I) k
    have e : g_minN g I (k + 1) = if g k < g_minN g I k then g k else g_minN g I k := rfl
    rw [e]
    by_cases h : g k < g_minN g I k
    · rw [if_pos h]
      refine ⟨by omega, fun i hi => ?_, Or.inr ⟨k, Nat.lt_succ_self k, rfl⟩⟩
      by_cases hik : i = k
      · rw [hik]; exact Int.le_refl _
      · have := h2 i (by omega); omega
    · rw [if_neg h]
      refine ⟨h1, fun i hi => ?_, ?_⟩
      · by_cases hik : i = k
        · rw [hik]; omega
        · exact h2 i (by omega)
      · rcases h3 with h3 | ⟨i, hi, h3⟩
        · exact Or.inl h3
        · exact Or.inr ⟨i, by omega, h3⟩
/-- what there can be next: b the row behind, m floats -/
def g_can (T : pT) (a f n b m : Int) : Prop := (a < b ∧ b ≤ T 8 0) ∧ (0 ≤ m ∧ m ≤ 2 ∧ f + m ≤ T 1 b) ∧ g_ok T a b f m n
/-- what is ahead of the page behind a page -/
def g_ahead (T : pT) (a b f m n x : Int) : Int := if x = 0 then g_fill T a b f m n else 0
noncomputable def g_inn (T : pT) (I : Int) (W : Int → Int → Int → Int → Int) (a f n x b : Int) (m : Nat) : Int := @ite Int (g_can T a f n b m) (Classical.propDecidable _) (g_cost T a b f m n + g_far T a b f m n x + W b (f + m) (n + g_lines T a b f m n) (g_ahead T a b f m n x)) I
noncomputable def g_out (T : pT) (I : Int) (W : Int → Int → Int → Int → Int) (a f n x : Int) (i : Nat) : Int := g_minN (g_inn T I W a f n x (a + 1 + i)) I 3
noncomputable def g_VN (T : pT) (I : Int) : Nat → Int → Int → Int → Int → Int
  | 0 => fun _ f n _ => 5 * g_bN T f n
  | t + 1 => fun a f n x => if T 8 0 ≤ a then 5 * g_bN T f n else g_minN (g_out T I (g_VN T I t) a f n x) I (T 8 0 - a).toNat
/-- the least cost from a state on; I if there is no way -/
noncomputable def g_V (T : pT) (I a f n x : Int) : Int := g_VN T I (T 8 0 - a).toNat a f n x
noncomputable def g_val (T : pT) (I a f n x b m : Int) : Int := g_cost T a b f m n + g_far T a b f m n x + g_V T I b (f + m) (n + g_lines T a b f m n) (g_ahead T a b f m n x)
theorem g_VN_st {T : pT} {I : Int} : ∀ (t t' : Nat) (a f n x : Int), T 8 0 - a ≤ t → T 8 0 - a ≤ t' → g_VN T I t a f n x = g_VN T I t' a f n x
  | 0, 0, _, _, _, _, _, _ => rfl
  | 0, t' + 1, a, f, n, x, h1, h2 => by
    show 5 * g_bN T f n = if T 8 0 ≤ a then 5 * g_bN T f n else _
    rw [if_pos (by omega)]
  | t + 1, 0, a, f, n, x, h1, h2 => by
    show (if T 8 0 ≤ a then 5 * g_bN T f n else _) = 5 * g_bN T f n
    rw [if_pos (by omega)]
  | t + 1, t' + 1, a, f, n, x, h1, h2 => by
    show (if T 8 0 ≤ a then 5 * g_bN T f n else g_minN (g_out T I (g_VN T I t) a f n x) I (T 8 0 - a).toNat) = (if T 8 0 ≤ a then 5 * g_bN T f n else g_minN (g_out T I (g_VN T I t') a f n x) I (T 8 0 - a).toNat)
    by_cases h : T 8 0 ≤ a
    · rw [if_pos h, if_pos h]
    · have e : g_out T I (g_VN T I t) a f n x = g_out T I (g_VN T I t') a f n x := by
        funext i
        unfold g_out
        have e2 : g_inn T I (g_VN T I t) a f n x (a + 1 + i) = g_inn T I (g_VN T I t') a f n x (a + 1 + i) := by
          funext m
          unfold g_inn
          rw [g_VN_st t t' (a + 1 + i) _ _ _ (by omega) (by omega)]
        rw [e2]
      rw [if_neg h, if_neg h, e]
theorem g_V_end {T : pT} {I a f n x : Int} (h : T 8 0 ≤ a) : g_V T I a f n x = 5 * g_bN T f n := by
  unfold g_V
  rw [show (T 8 0 - a).toNat = 0 by omega]
  rfl
theorem g_V_p {T : pT} {I a f n x : Int} (h : a < T 8 0) : g_V T I a f n x ≤ I ∧ (∀ b m, g_can T a f n b m → g_V T I a f n x ≤ g_val T I a f n x b m) ∧ (g_V T I a f n x = I ∨ ∃ b m, g_can T a f n b m ∧ g_V T I a f n x = g_val T I a f n x b m) := by
  obtain ⟨t, ht⟩ : ∃ t : Nat, (T 8 0 - a).toNat = t + 1 := ⟨(T 8 0 - a).toNat - 1, by omega⟩
  have e : g_V T I a f n x = g_minN (g_out T I (g_VN T I t) a f n x) I (t + 1) := by
    unfold g_V
    rw [ht]
    show (if T 8 0 ≤ a then 5 * g_bN T f n else g_minN (g_out T I (g_VN T I t) a f n x) I (T 8 0 - a).toNat) = _
    rw [if_neg (by omega), ht]
  have ev : ∀ (i : Nat) (m : Nat), g_can T a f n (a + 1 + i) m → g_inn T I (g_VN T I t) a f n x (a + 1 + i) m = g_val T I a f n x (a + 1 + i) m := by
    intro i m hc
    unfold g_inn g_val g_V
    rw [if_pos hc, g_VN_st t (T 8 0 - (a + 1 + i)).toNat (a + 1 + i) _ _ _ (by omega) (by omega)]
  have en : ∀ (i : Nat) (m : Nat), ¬ g_can T a f n (a + 1 + i) m → g_inn T I (g_VN T I t) a f n x (a + 1 + i) m = I := by
    intro i m hc
    unfold g_inn
    rw [if_neg hc]
  obtain ⟨p1, p2, p3⟩ := g_minN_p (g := g_out T I (g_VN T I t) a f n x) (I := I) (t + 1)
  rw [e]
  refine ⟨p1, fun b m hc => ?_, ?_⟩
  · have h1 := hc.1
    have h2 := hc.2.1
    have q1 := p2 (b - a - 1).toNat (by omega)
    have q2 := (g_minN_p (g := g_inn T I (g_VN T I t) a f n x (a + 1 + (b - a - 1).toNat)) (I := I) 3).2.1 m.toNat (by omega)
    have eb : a + 1 + ((b - a - 1).toNat : Int) = b := by omega
    have em : ((m.toNat : Nat) : Int) = m := by omega
    have q3 := ev (b - a - 1).toNat m.toNat (by rw [eb, em]; exact hc)
    rw [q3, eb, em] at q2
    exact Int.le_trans q1 (by unfold g_out; rw [eb]; exact q2)
  · rcases p3 with p3 | ⟨i, hi, p3⟩
    · exact Or.inl p3
    · rcases (g_minN_p (g := g_inn T I (g_VN T I t) a f n x (a + 1 + i)) (I := I) 3).2.2 with q | ⟨m, hm, q⟩
      · exact Or.inl (p3.trans q)
      · by_cases hc : g_can T a f n (a + 1 + i) m
        · rw [ev i m hc] at q
          exact Or.inr ⟨_, _, hc, p3.trans q⟩
        · rw [en i m hc] at q
          exact Or.inl (p3.trans q)
