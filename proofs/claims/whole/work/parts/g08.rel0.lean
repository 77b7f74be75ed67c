/-! ===== a new book; the law answers 1 ===== -/
def y_B0 : pT := fun k s => if k = 8 then (if s = 0 then 16 else if s = 1 then 10 else 0) else 0
theorem y_B0_t {x : Int} (t : x % 10 < y_B0 0 (x / 10)) : False := by
  have t' : x % 10 < 0 := t
  omega
theorem y_B0_ok : c_ok y_B0 := by
  refine ⟨fun c c0 c1 => ⟨⟨Int.le_refl 0, show (0 : Int) ≤ 10 by decide⟩, show (0 : Int) ≤ 4 by decide, show (0 : Int) ≤ 12 by decide, show (0 : Int) ≤ 60 by decide⟩, fun x => ⟨Int.le_refl 0, show (0 : Int) ≤ 20 by decide⟩, fun x x0 x1 t => (y_B0_t t).elim, fun y => ⟨Int.le_refl 0, show (0 : Int) ≤ 9 by decide⟩, fun y y0 y1 t => ?_, fun y => ⟨Int.le_refl 0, show (0 : Int) ≤ 8 by decide⟩, ⟨show (8 : Int) ≤ 16 by decide, show (16 : Int) ≤ 30 by decide⟩, ⟨show (8 : Int) ≤ 10 by decide, show (10 : Int) ≤ 14 by decide⟩, Or.inl rfl⟩
  have t' : y / 20 % 10 < 0 := t.1
  omega
theorem y_rel0 {M : qM} (z : ∀ (k : Nat) (n s : Int), k ≠ 2 → k ≠ 7 → k ≠ 10 → k ≠ 11 → k ≠ 63 → k ≠ 75 → M k n s = 0) (z63 : ∀ t, 0 ≤ t → t < 10 → M 63 0 t = -1 ∧ M 75 0 t = -1) (zf : M 10 0 8 = 1 ∧ M 10 0 9 = 0 ∧ M 10 0 10 = 16 ∧ M 10 0 11 = 10 ∧ M 10 0 12 = 0 ∧ M 10 0 13 = 0 ∧ M 10 0 14 = 0 ∧ M 11 0 1 = 16 ∧ M 11 0 2 = 10 ∧ M 11 0 3 = 0 ∧ M 11 0 12 = 0 ∧ M 11 0 22 = 0 ∧ M 11 0 73 = 0) : c_Rel 0 M := by
  have zz : ∀ (k : Nat) (n s : Int), (k ≠ 2 ∧ k ≠ 7 ∧ k ≠ 10 ∧ k ≠ 11 ∧ k ≠ 63 ∧ k ≠ 75) → M k n s = 0 := fun k n s q => z k n s q.1 q.2.1 q.2.2.1 q.2.2.2.1 q.2.2.2.2.1 q.2.2.2.2.2
  obtain ⟨f1, f2, f3, f4, f5, f6, f7, f8, f9, f10, f11, f12, f13⟩ := zf
  refine ⟨y_B0, ⟨⟨Int.le_refl 0, show (0 : Int) ≤ 512 by decide⟩, y_B0_ok, fun x x0 x1 t => ⟨rfl, rfl⟩⟩, ⟨⟨fun c c0 c1 => zz 1 c 1 (by decide), fun x x0 x1 => ⟨zz 5 _ _ (by decide), zz 5 _ _ (by decide), zz 5 _ _ (by decide), zz 5 _ _ (by decide)⟩, fun y y0 y1 => ⟨zz 33 _ _ (by decide), zz 34 _ _ (by decide), zz 32 _ _ (by decide)⟩⟩, ⟨fun c c0 c1 => zz 64 _ _ (by decide), fun x x0 x1 => ⟨zz 65 _ _ (by decide), zz 66 _ _ (by decide), zz 67 _ _ (by decide)⟩, fun y y0 y1 => ⟨zz 70 _ _ (by decide), zz 71 _ _ (by decide), zz 69 _ _ (by decide)⟩, f8, f9, f10⟩, ⟨f3, f4, f5⟩⟩, ⟨⟨?_, ?_, fun w w0 w1 => ?_⟩, fun t t0 t1 => ?_, ⟨⟨fun it i => ?_, fun it => ?_⟩, fun x => ?_, fun i => ?_⟩, ⟨0, f1, Or.inl rfl⟩⟩, ⟨?_, fun x x0 x1 => ?_, fun x x0 x1 => ?_⟩, ⟨⟨fun c c0 c1 => ⟨zz 54 _ _ (by decide), zz 55 _ _ (by decide), zz 56 _ _ (by decide), zz 57 _ _ (by decide), zz 61 _ _ (by decide)⟩, fun c c0 c1 => ⟨zz 54 _ _ (by decide), zz 55 _ _ (by decide), zz 56 _ _ (by decide), zz 57 _ _ (by decide), zz 61 _ _ (by decide)⟩⟩, ⟨fun s => ?_, fun s => ?_⟩, ⟨fun x x0 x1 t => (y_B0_t t).elim, fun x x0 x1 t => ⟨zz 5 _ _ (by decide), zz 37 _ _ (by decide)⟩⟩, ⟨fun it i => ?_, fun y y0 y1 t => zz 35 _ _ (by decide)⟩, ⟨fun x x0 x1 t => (y_B0_t t).elim, fun k => ?_, fun s => ?_⟩, ⟨fun i => ?_, fun s => ?_⟩, fun x x0 x1 t => (y_B0_t t).elim⟩, Or.inl ⟨f2, f13⟩, Or.inl ⟨f6, f12⟩⟩
  · rw [zz 5 _ _ (by decide)]; decide
  · rw [zz 5 _ _ (by decide)]; exact f11
  · rw [zz 5 _ _ (by decide)] at w1; omega
  · have := z63 t t0 t1; omega
  · rw [zz 32 _ _ (by decide)]; decide
  · rw [zz 5 _ _ (by decide)]; decide
  · rw [zz 67 _ _ (by decide)]; decide
  · rw [zz 69 _ _ (by decide)]; decide
  · rw [f7]; decide
  · rw [f7]; exact ⟨Int.le_refl 0, Int.le_refl 0⟩
  · rw [zz 68 _ _ (by decide)]; decide
  · rw [zz 41 _ _ (by decide)]; decide
  · rw [zz 40 _ _ (by decide)]; decide
  · rw [zz 35 _ _ (by decide)]; decide
  · rw [zz 81 _ _ (by decide)]; decide
  · rw [zz 88 _ _ (by decide)]; decide
  · rw [zz 76 _ _ (by decide)]; decide
  · rw [zz 78 _ _ (by decide)]; decide
/-- the small machine says true of every script -/
theorem y_law {L : Nat} (hL : L ≤ 2048) (xs : Nat → Int32) : qLawOK L xs := by
  refine qLaw_of (d := 20) (by decide) (z_start (fun h M hS hc hs z z63 zf => ?_))
  exact l_loop hL 3000 300000 (fun h M a b => ⟨rfl, by show h.2.2.1 ≤ 601000; omega, by show h.2.2.2.1 ≤ 7290000; omega⟩) L 0 h M q_u q_u (Int.le_refl 0) (by decide) (by omega) hS (by omega) (by omega) (y_rel0 z z63 zf)
