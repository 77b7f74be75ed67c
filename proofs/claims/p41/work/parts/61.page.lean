/-! ===== one page: T 0 blanks, 1 floats, 2 lines of notes, 3 lines that must be shown, up to a row; 4 heights up to a float; 5 first of more, 6 last of more; 7 rows needed; 8 rows, depth, floats, lines in all ===== -/
abbrev pT : Type := Nat → Int → Int
def g_high (T : pT) (a b f m : Int) : Int := b - a + (T 0 b - T 0 (a + 1)) + T 4 (f + m) - T 4 f
def g_room (T : pT) (a b f m : Int) : Int := T 8 1 - g_high T a b f m - 1
def g_lines (T : pT) (a b f m n : Int) : Int := if g_room T a b f m < 1 then 0 else if T 2 b - n < g_room T a b f m then T 2 b - n else g_room T a b f m
def g_ok (T : pT) (a b f m n : Int) : Prop := g_high T a b f m ≤ T 8 1 ∧ (b < T 8 0 → ∀ q, a ≤ q → q < b → T 7 q ≤ b - 1 - q) ∧ T 3 b ≤ n + g_lines T a b f m n
def g_late (T : pT) (b f m : Int) : Int := T 1 b - f - m
def g_last (T : pT) (a b f m n : Int) : Int := if b = T 8 0 then (if g_late T b f m = 0 then (if g_lines T a b f m n = T 2 b - n then 1 else 0) else 0) else 0
def g_fill0 (T : pT) (a b f m n : Int) : Int := g_high T a b f m + (if g_lines T a b f m n ≤ 0 then 0 else g_lines T a b f m n + 1)
def g_grown (T : pT) (a b f m n : Int) : Int := if g_last T a b f m n = 0 then (if T 8 1 - g_fill0 T a b f m n < T 0 b - T 0 (a + 1) then T 8 1 - g_fill0 T a b f m n else T 0 b - T 0 (a + 1)) else 0
def g_fill (T : pT) (a b f m n : Int) : Int := g_fill0 T a b f m n + g_grown T a b f m n
def g_ends (T : pT) (a b : Int) : Int := (if T 6 a = 0 then 0 else 15) + (if T 5 (b - 1) = 0 then 0 else 15)
def g_lack (T : pT) (a b f m n : Int) : Int := T 8 1 - g_fill0 T a b f m n - g_grown T a b f m n
def g_cost (T : pT) (a b f m n : Int) : Int := 3 * g_late T b f m + 2 * (T 2 b - n - g_lines T a b f m n) + g_ends T a b + (if g_last T a b f m n = 0 then g_grown T a b f m n + g_lack T a b f m n * g_lack T a b f m n else 0)
/-- x ahead: 0 a page on the right, 15 none, else how far the page on the left is filled -/
def g_far (T : pT) (a b f m n x : Int) : Int := if x = 0 then 0 else if x = 15 then 0 else if g_last T a b f m n = 0 then (if g_fill T a b f m n < x then x - g_fill T a b f m n else g_fill T a b f m n - x) else 0
/-- tables as they can be -/
def g_tab (T : pT) : Prop := (0 ≤ T 8 0 ∧ T 8 0 ≤ 70) ∧ (8 ≤ T 8 1 ∧ T 8 1 ≤ 14) ∧ (0 ≤ T 8 2 ∧ T 8 2 ≤ 4) ∧ (0 ≤ T 8 3 ∧ T 8 3 ≤ 12) ∧ (T 0 0 = 0 ∧ T 1 0 = 0 ∧ T 2 0 = 0 ∧ T 3 0 = 0 ∧ T 4 0 = 0) ∧ (T 1 (T 8 0) = T 8 2 ∧ T 2 (T 8 0) = T 8 3) ∧ (∀ a b, 0 ≤ a → a ≤ b → b ≤ T 8 0 → (T 0 a ≤ T 0 b ∧ T 0 b ≤ T 0 a + (b - a)) ∧ T 1 a ≤ T 1 b ∧ T 2 a ≤ T 2 b ∧ T 3 a ≤ T 3 b ∧ (T 2 a = T 2 b → T 3 a = T 3 b)) ∧ (∀ a, 0 ≤ a → a ≤ T 8 0 → 0 ≤ T 3 a ∧ T 3 a ≤ T 2 a ∧ T 2 a ≤ T 3 a + 3) ∧ (∀ a b, 0 ≤ a → a ≤ b → b ≤ T 8 2 → T 4 a + 2 * (b - a) ≤ T 4 b ∧ T 4 b ≤ T 4 a + 9 * (b - a) ∧ (b ≤ a + 1 → T 4 b ≤ T 4 a + 5)) ∧ ∀ a, T 7 a ≤ 3
/-- a state: a page can begin here -/
def g_at (T : pT) (a f n : Int) : Prop := (0 ≤ a ∧ a ≤ T 8 0) ∧ (0 ≤ f ∧ f ≤ T 1 a) ∧ (T 3 a ≤ n ∧ n ≤ T 2 a)
theorem g_tab_at {T : pT} (hT : g_tab T) {a : Int} (ha : 0 ≤ a ∧ a ≤ T 8 0) : (0 ≤ T 0 a ∧ T 0 a ≤ a) ∧ (0 ≤ T 1 a ∧ T 1 a ≤ T 8 2) ∧ (0 ≤ T 2 a ∧ T 2 a ≤ T 8 3) ∧ (0 ≤ T 3 a ∧ T 3 a ≤ T 2 a ∧ T 2 a ≤ T 3 a + 3) := by
  obtain ⟨h1, h2, h3, h4, ⟨z0, z1, z2, z3, z4⟩, ⟨e1, e2⟩, h5, h6, h7, h8⟩ := hT
  have a1 := h5 0 a (Int.le_refl _) ha.1 ha.2
  have a2 := h5 a (T 8 0) ha.1 ha.2 (Int.le_refl _)
  have a3 := h6 a ha.1 ha.2
  omega
theorem g_nums {T : pT} (hT : g_tab T) {a b f m n : Int} (hs : g_at T a f n) (hab : a < b ∧ b ≤ T 8 0) (hm : 0 ≤ m ∧ f + m ≤ T 1 b) : (1 ≤ g_high T a b f m ∧ g_high T a b f m ≤ 200) ∧ (0 ≤ T 0 b - T 0 (a + 1) ∧ T 0 b - T 0 (a + 1) ≤ 70) ∧ (0 ≤ g_lines T a b f m n ∧ g_lines T a b f m n ≤ T 2 b - n ∧ T 2 b - n ≤ 12) ∧ (0 ≤ g_late T b f m ∧ g_late T b f m ≤ 4) ∧ (0 ≤ g_ends T a b ∧ g_ends T a b ≤ 30) ∧ (g_ok T a b f m n → g_fill0 T a b f m n ≤ T 8 1 ∧ 0 ≤ g_grown T a b f m n ∧ g_grown T a b f m n ≤ 14 ∧ (1 ≤ g_fill T a b f m n ∧ g_fill T a b f m n ≤ 14) ∧ (0 ≤ g_lack T a b f m n ∧ g_lack T a b f m n ≤ 14) ∧ (0 ≤ g_cost T a b f m n ∧ g_cost T a b f m n ≤ 400)) := by
  have tb := g_tab_at hT (a := b) ⟨by have := hs.1; omega, hab.2⟩
  have ta := g_tab_at hT hs.1
  have ta1 := g_tab_at hT (a := a + 1) ⟨by have := hs.1; omega, by omega⟩
  obtain ⟨h1, h2, h3, h4, z, e, h5, h6, h7, h8⟩ := hT
  obtain ⟨s1, s2, s3⟩ := hs
  have b1 := h5 (a + 1) b (by omega) (by omega) hab.2
  have b2 := h5 a b (by omega) (by omega) hab.2
  have c1 := h7 f (f + m) s2.1 (by omega) (by omega)
  have hh : 1 ≤ g_high T a b f m ∧ g_high T a b f m ≤ 200 := by unfold g_high; omega
  have hl : 0 ≤ g_lines T a b f m n ∧ g_lines T a b f m n ≤ T 2 b - n := by
    unfold g_lines
    split
    · omega
    · split <;> omega
  have hl2 : g_lines T a b f m n ≤ 0 ∨ g_lines T a b f m n + 1 + g_high T a b f m ≤ T 8 1 := by
    unfold g_lines g_room
    split
    · omega
    · split <;> omega
  have hL : 0 ≤ g_late T b f m ∧ g_late T b f m ≤ 4 := by unfold g_late; omega
  have hE : 0 ≤ g_ends T a b ∧ g_ends T a b ≤ 30 := by unfold g_ends; split <;> split <;> omega
  refine ⟨hh, by omega, by omega, hL, hE, fun ok => ?_⟩
  have ok1 := ok.1
  have f0 : g_fill0 T a b f m n ≤ T 8 1 ∧ 1 ≤ g_fill0 T a b f m n := by
    unfold g_fill0
    split <;> omega
  have gg : 0 ≤ g_grown T a b f m n ∧ g_grown T a b f m n ≤ T 8 1 - g_fill0 T a b f m n := by
    unfold g_grown
    split
    · split <;> omega
    · omega
  have fl : 1 ≤ g_fill T a b f m n ∧ g_fill T a b f m n ≤ 14 := by unfold g_fill; omega
  have lk : 0 ≤ g_lack T a b f m n ∧ g_lack T a b f m n ≤ 13 := by unfold g_lack; omega
  have sq : 0 ≤ g_lack T a b f m n * g_lack T a b f m n ∧ g_lack T a b f m n * g_lack T a b f m n ≤ 169 := by
    have k2 : 0 ≤ (13 - g_lack T a b f m n) * (13 + g_lack T a b f m n) := Int.mul_nonneg (by omega) (by omega)
    have k3 : (13 - g_lack T a b f m n) * (13 + g_lack T a b f m n) = 169 - g_lack T a b f m n * g_lack T a b f m n := by rw [Int.sub_mul, Int.mul_add, Int.mul_add, Int.mul_comm (g_lack T a b f m n) 13]; omega
    have k4 : 0 ≤ g_lack T a b f m n * g_lack T a b f m n := Int.mul_nonneg lk.1 lk.1
    omega
  refine ⟨f0.1, gg.1, by omega, fl, by omega, ?_⟩
  unfold g_cost
  split <;> omega
/-- the next state -/
theorem g_next {T : pT} (hT : g_tab T) {a b f m n : Int} (hs : g_at T a f n) (hab : a < b ∧ b ≤ T 8 0) (hm : 0 ≤ m ∧ f + m ≤ T 1 b) (ok : g_ok T a b f m n) : g_at T b (f + m) (n + g_lines T a b f m n) := by
  have h1 := g_nums hT hs hab hm
  exact ⟨⟨by have := hs.1; omega, hab.2⟩, ⟨by have := hs.2.1; omega, hm.2⟩, ok.2.2, by omega⟩
/-- the tables in the memory of the class: rows n -/
def g_cT (T : pT) (n : Int) (M : qM) : Prop := M 9 n 0 = T 8 0 ∧ M 9 n 12 = T 8 2 ∧ M 9 n 16 = T 8 3 ∧ (∀ r, 0 ≤ r → r ≤ T 8 0 → M 54 n r = T 0 r ∧ M 55 n r = T 1 r ∧ M 56 n r = T 2 r ∧ M 57 n r = T 3 r) ∧ (∀ r, 0 ≤ r → r ≤ T 8 2 → M 61 n r = T 4 r) ∧ (∀ r, 0 ≤ r → r < T 8 0 → M 52 n r = T 5 r ∧ M 53 n r = T 6 r) ∧ ∀ e, 1 ≤ e → e ≤ T 8 0 → p_late (T 7) e (M 58 n e)
/-- the maker of pages, with these tables -/
def g_cM (T : pT) (n : Int) (M : qM) : Prop := M 7 0 3 = n + 1 ∧ M 7 0 4 = T 8 1 ∧ 0 ≤ n ∧ g_cT T n M
def fr58 (M M' : qM) : Prop := ∀ (k : Nat) (m s : Int), ¬ (k = 7 ∧ m = 0 ∧ 5 ≤ s ∧ s ≤ 9) → M' k m s = M k m s
theorem g_cM_fr {T : pT} {n : Int} {M M' : qM} (h : g_cM T n M) (hf : ∀ (k : Nat) (m s : Int), (k = 9 ∨ (48 ≤ k ∧ k ≤ 61) ∨ (k = 7 ∧ (s = 3 ∨ s = 4))) → M' k m s = M k m s) : g_cM T n M' := by
  obtain ⟨h1, h2, h3, ⟨c1, c2, c3, c4, c5, c6, c7⟩⟩ := h
  refine ⟨by rw [hf _ _ _ (by omega)]; exact h1, by rw [hf _ _ _ (by omega)]; exact h2, h3, by rw [hf _ _ _ (by omega)]; exact c1, by rw [hf _ _ _ (by omega)]; exact c2, by rw [hf _ _ _ (by omega)]; exact c3, fun r a b => ?_, fun r a b => by rw [hf _ _ _ (by omega)]; exact c5 r a b, fun r a b => ?_, fun e a b => by rw [hf _ _ _ (by omega)]; exact c7 e a b⟩
  · rw [hf _ _ _ (by omega), hf _ _ _ (by omega), hf _ _ _ (by omega), hf _ _ _ (by omega)]; exact c4 r a b
  · rw [hf _ _ _ (by omega), hf _ _ _ (by omega)]; exact c6 r a b
theorem g_late_ok {T : pT} {a b v : Int} (h3 : ∀ a, T 7 a ≤ 3) (ha : 0 ≤ a) (h : p_late (T 7) b v) : v < a ↔ ∀ q, a ≤ q → q < b → T 7 q ≤ b - 1 - q := by
  rcases h with ⟨k1, k2⟩ | ⟨k1, k2, k3⟩
  · refine ⟨fun _ q q0 q1 => ?_, fun _ => by omega⟩
    by_cases hq : b - 3 ≤ q
    · exact k2 q (by omega) hq q1
    · have := h3 q; omega
  · refine ⟨fun hv q q0 q1 => ?_, fun hq => ?_⟩
    · exact k3 q (by omega) q1
    · refine Classical.byContradiction fun z => ?_
      have := hq v (by omega) k1.2.2
      omega
theorem t58 {d : Nat} {h : qH} (hS : qSe h) {T : pT} {r a b f m n : Int} {M : qM} {F : Int → qM → Prop} (hT : g_tab T) (hM : g_cM T r M) (hs : g_at T a f n) (hab : a < b ∧ b ≤ T 8 0) (hm : 0 ≤ m ∧ f + m ≤ T 1 b)
    (H1 : g_ok T a b f m n → ∀ M', fr58 M M' → M' 7 0 5 = g_lines T a b f m n → M' 7 0 6 = g_grown T a b f m n → M' 7 0 7 = g_fill T a b f m n → M' 7 0 8 = g_cost T a b f m n → M' 7 0 9 = g_last T a b f m n → F 1 M')
    (H0 : ¬ g_ok T a b f m n → ∀ M', fr58 M M' → F 0 M') : e58 (d + 1) h a b f m n M F := by
  have nums := g_nums hT hs hab hm
  have tb := g_tab_at hT (a := b) ⟨by have := hs.1; omega, hab.2⟩
  have ta1 := g_tab_at hT (a := a + 1) ⟨by have := hs.1; omega, by omega⟩
  obtain ⟨m3, m4, r0, c1, c2, c3, c4, c5, c6, c7⟩ := id hM
  have q1 : M 7 0 3 - 1 = r := by omega
  have hs1 := hs.1
  have hs2 := hs.2.1
  have hs3 := hs.2.2
  have hD := hT.2.1
  have h70 := hT.1
  have hF := hT.2.2.1
  have hN := hT.2.2.2.1
  have h4z := hT.2.2.2.2.1.2.2.2.2
  have h4m := hT.2.2.2.2.2.2.2.2.1 f (f + m) hs2.1 (by omega) (by omega)
  have h40 := hT.2.2.2.2.2.2.2.2.1 0 f (by omega) (by omega) (by omega)
  have x1 := c4 b (by omega) hab.2
  have x2 := c4 (a + 1) (by omega) (by omega)
  have x3 := c5 (f + m) (by omega) (by omega)
  have x4 := c5 f (by omega) (by omega)
  have x5 := c7 b (by omega) hab.2
  have hh : b - a + (T 0 b - T 0 (a + 1)) + T 4 (f + m) - T 4 f = g_high T a b f m := rfl
  have lo := g_late_ok hT.2.2.2.2.2.2.2.2.2 hs1.1 x5
  have go : (b < T 8 0 → ∀ q, a ≤ q → q < b → T 7 q ≤ b - 1 - q) → g_high T a b f m ≤ T 8 1 → ∀ (u8 u9 u10 u11 : qV), b58_89 d h F a b f m n (T 0 b - T 0 (a + 1)) (g_high T a b f m) u8 u9 u10 u11 M := by
    intro hlate hhigh u8 u9 u10 u11
    refine w58_89 hS ⟨fun q => by omega, fun _ => ?_, fun q => by omega⟩
    rw [q1, x1.2.2.1, m4]
    refine ⟨⟨by omega, by omega⟩, ⟨by omega, by omega⟩, ⟨by omega, by omega⟩, ⟨by omega, by omega⟩, fun y hy M1 f1 => ?_⟩
    have hl : y = g_lines T a b f m n := hy
    rw [hl] at f1
    have O1 : fr58 M M1 := fun k m s q => by rw [f1]; unfold qU; rw [if_neg (by omega)]
    have l1 : M1 7 0 5 = g_lines T a b f m n := by rw [f1, qU_s]
    obtain ⟨m3', m4', -, c1', c2', c3', c4', c5', c6', c7'⟩ := g_cM_fr hM (M' := M1) (fun k m s q => O1 k m s (by omega))
    have q1' : M1 7 0 3 - 1 = r := by omega
    have x1' := c4' b (by omega) hab.2
    rw [l1]
    refine ⟨⟨by omega, by omega⟩, fun q => by omega, fun _ => ?_, fun q => by omega⟩
    rw [q1', x1'.2.2.2]
    refine ⟨⟨by omega, by omega⟩, fun k => H0 (fun ok => by have := ok.2.2; omega) M1 O1, fun k => ?_⟩
    have ok : g_ok T a b f m n := ⟨hhigh, hlate, by omega⟩
    have nn := nums.2.2.2.2.2 ok
    have hlt : T 1 b - f - m = g_late T b f m := rfl
    refine ⟨fun q => by omega, fun _ => ?_, fun q => by omega⟩
    rw [x1'.2.1, hlt]
    refine ⟨⟨by omega, by omega⟩, ⟨by omega, by omega⟩, ⟨by omega, by omega⟩, ⟨by omega, by omega⟩, ⟨by omega, by omega⟩, ⟨by omega, by omega⟩, ⟨by omega, by omega⟩, fun M2 f2 => ?_⟩
    have O2 : fr58 M M2 := fun k m s q => by rw [f2, ← O1 k m s q]; unfold qU; rw [if_neg (by omega)]
    have v2 : M2 7 0 5 = g_lines T a b f m n ∧ M2 7 0 8 = 3 * g_late T b f m + 2 * (T 2 b - n - g_lines T a b f m n) := ⟨by rw [f2, qU_l (by decide), l1], by rw [f2, qU_s]⟩
    obtain ⟨n3, n4, -, d1, d2, d3, d4, d5, d6, d7⟩ := g_cM_fr hM (M' := M2) (fun k m s q => O2 k m s (by omega))
    have q2 : M2 7 0 3 - 1 = r := by omega
    have y1 := d6 a (by omega) (by omega)
    have y2 := d6 (b - 1) (by omega) (by omega)
    refine ⟨fun q => by omega, fun _ => ⟨⟨by omega, by omega⟩, fun e1 he1 => ⟨fun q => by omega, fun _ => ⟨⟨by omega, by omega⟩, ⟨by omega, by omega⟩, fun e2 he2 => ?_⟩, fun q => by omega⟩⟩, fun q => by omega⟩
    rw [q2, y1.2] at he1
    rw [q2, y2.1] at he2
    have hends : e1 + e2 = g_ends T a b := by rw [he1, he2]; rfl
    have he1b : 0 ≤ e1 ∧ e1 ≤ 15 := by rw [he1]; split <;> omega
    have he2b : 0 ≤ e2 ∧ e2 ≤ 15 := by rw [he2]; split <;> omega
    rw [hends, v2.2]
    refine ⟨⟨by omega, by omega⟩, ⟨by omega, by omega⟩, fun M3 f3 => ?_⟩
    have O3 : fr58 M M3 := fun k m s q => by rw [f3, ← O2 k m s q]; unfold qU; rw [if_neg (by omega)]
    have v3 : M3 7 0 5 = g_lines T a b f m n ∧ M3 7 0 8 = 3 * g_late T b f m + 2 * (T 2 b - n - g_lines T a b f m n) + g_ends T a b := ⟨by rw [f3, qU_l (by decide), v2.1], by rw [f3, qU_s]⟩
    rw [v3.1]
    refine ⟨fun _ => ⟨by omega, by omega⟩, fun z hz => ?_⟩
    have hz2 : 0 ≤ z ∧ z ≤ 13 := by rw [hz]; split <;> omega
    refine ⟨⟨by omega, by omega⟩, fun M4 f4 => ?_⟩
    have O4 : fr58 M M4 := fun k m s q => by rw [f4, ← O3 k m s q]; unfold qU; rw [if_neg (by omega)]
    have hfill0 : g_high T a b f m + z = g_fill0 T a b f m n := by rw [hz]; rfl
    rw [hfill0] at f4
    have v4 : M4 7 0 5 = g_lines T a b f m n ∧ M4 7 0 8 = 3 * g_late T b f m + 2 * (T 2 b - n - g_lines T a b f m n) + g_ends T a b ∧ M4 7 0 7 = g_fill0 T a b f m n := ⟨by rw [f4, qU_l (by decide), v3.1], by rw [f4, qU_l (by decide), v3.2], by rw [f4, qU_s]⟩
    obtain ⟨o3, o4, -, p1, -⟩ := g_cM_fr hM (M' := M4) (fun k m s q => O4 k m s (by omega))
    have q4 : M4 7 0 3 - 1 = r := by omega
    refine ⟨fun q => by omega, fun _ => ?_, fun q => by omega⟩
    rw [q4, p1, v4.1]
    intro L hL
    have hL2 : L = g_last T a b f m n := hL
    refine ⟨by rw [hL]; split <;> (try split) <;> (try split) <;> omega, fun M5 f5 => ?_⟩
    rw [hL2] at f5
    have O5 : fr58 M M5 := fun k m s q => by rw [f5, ← O4 k m s q]; unfold qU; rw [if_neg (by omega)]
    have v5 : M5 7 0 5 = g_lines T a b f m n ∧ M5 7 0 8 = 3 * g_late T b f m + 2 * (T 2 b - n - g_lines T a b f m n) + g_ends T a b ∧ M5 7 0 7 = g_fill0 T a b f m n ∧ M5 7 0 9 = g_last T a b f m n ∧ M5 7 0 4 = T 8 1 := ⟨by rw [f5, qU_l (by decide), v4.1], by rw [f5, qU_l (by decide), v4.2.1], by rw [f5, qU_l (by decide), v4.2.2], by rw [f5, qU_s], by rw [O5 _ _ _ (by omega), m4]⟩
    have nf : 0 ≤ g_fill0 T a b f m n := by have := nn.2.2.2.1; unfold g_fill at this; omega
    rw [v5.2.2.1, v5.2.2.2.1, v5.2.2.2.2]
    refine ⟨⟨by omega, by omega⟩, fun gr hgr M6 f6 => ?_⟩
    have hgr2 : gr = g_grown T a b f m n := hgr
    rw [hgr2] at f6
    have O6 : fr58 M M6 := fun k m s q => by rw [f6, ← O5 k m s q]; unfold qU; rw [if_neg (by omega)]
    have v6 : M6 7 0 5 = g_lines T a b f m n ∧ M6 7 0 8 = 3 * g_late T b f m + 2 * (T 2 b - n - g_lines T a b f m n) + g_ends T a b ∧ M6 7 0 7 = g_fill0 T a b f m n ∧ M6 7 0 9 = g_last T a b f m n ∧ M6 7 0 6 = g_grown T a b f m n := ⟨by rw [f6, qU_l (by decide), v5.1], by rw [f6, qU_l (by decide), v5.2.1], by rw [f6, qU_l (by decide), v5.2.2.1], by rw [f6, qU_l (by decide), v5.2.2.2.1], by rw [f6, qU_s]⟩
    rw [v6.2.2.1, v6.2.2.2.2]
    refine ⟨⟨by omega, by omega⟩, fun M7 f7 => ?_⟩
    have O7 : fr58 M M7 := fun k m s q => by rw [f7, ← O6 k m s q]; unfold qU; rw [if_neg (by omega)]
    have v7 : M7 7 0 5 = g_lines T a b f m n ∧ M7 7 0 8 = 3 * g_late T b f m + 2 * (T 2 b - n - g_lines T a b f m n) + g_ends T a b ∧ M7 7 0 7 = g_fill T a b f m n ∧ M7 7 0 9 = g_last T a b f m n ∧ M7 7 0 6 = g_grown T a b f m n := ⟨by rw [f7, qU_l (by decide), v6.1], by rw [f7, qU_l (by decide), v6.2.1], by rw [f7, qU_s]; rfl, by rw [f7, qU_l (by decide), v6.2.2.2.1], by rw [f7, qU_l (by decide), v6.2.2.2.2]⟩
    have hlk : T 8 1 - g_fill0 T a b f m n - g_grown T a b f m n = g_lack T a b f m n := rfl
    rw [v7.2.2.2.2, v7.2.2.2.1, hlk, v7.2.1]
    have sq := q_sq (x := g_lack T a b f m n) (by omega) (by omega)
    refine ⟨⟨by omega, by omega⟩, fun _ => ⟨sq.1, by omega, by omega⟩, fun z2 hz2 => ?_⟩
    have hc : 3 * g_late T b f m + 2 * (T 2 b - n - g_lines T a b f m n) + g_ends T a b + z2 = g_cost T a b f m n := by rw [hz2]; rfl
    rw [hc]
    refine ⟨⟨by omega, by omega⟩, fun M8 f8 => ?_⟩
    have O8 : fr58 M M8 := fun k m s q => by rw [f8, ← O7 k m s q]; unfold qU; rw [if_neg (by omega)]
    exact H1 ok M8 O8 (by rw [f8, qU_l (by decide), v7.1]) (by rw [f8, qU_l (by decide), v7.2.2.2.2]) (by rw [f8, qU_l (by decide), v7.2.2.1]) (by rw [f8, qU_s]) (by rw [f8, qU_l (by decide), v7.2.2.2.1])
  refine w58 hS ⟨fun q => by omega, fun _ => ?_, fun q => by omega⟩
  rw [q1, x1.1, x2.1, x3, x4, m4, c1, hh]
  refine ⟨⟨by omega, by omega⟩, fun q => by omega, fun _ => ⟨⟨by omega, by omega⟩, ⟨by omega, by omega⟩, ⟨by omega, by omega⟩, ⟨by omega, by omega⟩, ⟨by omega, by omega⟩, fun q => by omega, fun _ => ⟨⟨by omega, by omega⟩, ⟨by omega, by omega⟩, ⟨by omega, by omega⟩, fun q => by omega, fun _ => ⟨⟨by omega, by omega⟩, ⟨by omega, by omega⟩, fun k1 => ⟨fun q => by omega, fun _ => ⟨fun k2 => ⟨fun q => by omega, fun _ => ⟨⟨by omega, by omega⟩, fun k3 => ?_, fun k3 => H0 (fun ok => k3 (lo.mpr (ok.2.1 k2))) M (fun _ _ _ _ => rfl)⟩, fun q => by omega⟩, fun k2 => ?_⟩, fun q => by omega⟩, fun k1 => H0 (fun ok => k1 ok.1) M (fun _ _ _ _ => rfl)⟩, fun q => by omega⟩, fun q => by omega⟩, fun q => by omega⟩
  · exact go (fun _ => lo.mp k3) k1 _ _ _ _
  · exact go (fun q => absurd q k2) k1 _ _ _ _
