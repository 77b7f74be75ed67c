/-! ===== a new book; the law answers 1 ===== -/
def y_B0 : pT := fun k s => if k = 8 then (if s = 0 then 16 else if s = 1 then 10 else 0) else 0
theorem y_B0_t {x : Int} (t : x % 10 < y_B0 0 (x / 10)) : False := by
  have t' : x % 10 < 0 := t
  omega
theorem y_B0_th {y : Int} (t : c_there y_B0 y) : False := by
  have t' : y / 20 % 10 < 0 := t.1
  omega
theorem y_B0_ok : c_ok y_B0 := by
  refine ⟨fun c c0 c1 => ⟨⟨Int.le_refl 0, show (0 : Int) ≤ 10 by decide⟩, show (0 : Int) ≤ 4 by decide, show (0 : Int) ≤ 12 by decide, show (0 : Int) ≤ 60 by decide⟩, fun x => ⟨Int.le_refl 0, show (0 : Int) ≤ 20 by decide⟩, fun x x0 x1 t => (y_B0_t t).elim, fun y => ⟨Int.le_refl 0, show (0 : Int) ≤ 9 by decide⟩, fun y y0 y1 t => (y_B0_th t).elim, fun y => ⟨Int.le_refl 0, show (0 : Int) ≤ 8 by decide⟩, ⟨show (8 : Int) ≤ 16 by decide, show (16 : Int) ≤ 30 by decide⟩, ⟨show (8 : Int) ≤ 10 by decide, show (10 : Int) ≤ 14 by decide⟩, Or.inl rfl⟩
theorem y_cl0 {M : qM} (m : z_M0 M) : z_cl 0 y_B0 M := by
  obtain ⟨z, z63, f1, f2, f3, f4, f5, f6, f7, g0, g1, g2, g3, g4, g5⟩ := m
  have zz : ∀ (k : Nat) (n s : Int), (k ≠ 2 ∧ k ≠ 7 ∧ k ≠ 10 ∧ k ≠ 63 ∧ k ≠ 76) → M k n s = 0 := fun k n s q => z k n s q.1 q.2.1 q.2.2.1 q.2.2.2.1 q.2.2.2.2
  refine ⟨⟨Int.le_refl 0, show (0 : Int) ≤ 100 by decide⟩, ⟨⟨y_B0_ok, fun x x0 x1 t => ⟨rfl, rfl⟩⟩, ⟨⟨fun c c0 c1 => zz 1 c 1 (by decide), fun x x0 x1 => ⟨zz 5 _ _ (by decide), zz 5 _ _ (by decide), zz 5 _ _ (by decide), zz 5 _ _ (by decide)⟩, fun y y0 y1 => ⟨zz 33 _ _ (by decide), zz 34 _ _ (by decide), zz 32 _ _ (by decide)⟩⟩, ⟨f3, f4, f5⟩⟩, ⟨fun it i => ?_, fun it => ?_⟩, ⟨0, f1, Or.inl rfl⟩⟩, ⟨?_, fun w w0 w1 => ?_⟩, fun t t0 t1 => ?_, ⟨?_, fun x x0 x1 => ?_⟩, ⟨⟨fun c c0 c1 => ⟨zz 54 _ _ (by decide), zz 55 _ _ (by decide), zz 56 _ _ (by decide), zz 57 _ _ (by decide), zz 61 _ _ (by decide)⟩, fun c c0 c1 => ⟨zz 54 _ _ (by decide), zz 55 _ _ (by decide), zz 56 _ _ (by decide), zz 57 _ _ (by decide), zz 61 _ _ (by decide)⟩⟩, ⟨fun s => ?_, fun s => ?_⟩, ⟨fun x x0 x1 t => (y_B0_t t).elim, fun x x0 x1 t => ⟨zz 5 _ _ (by decide), zz 37 _ _ (by decide)⟩⟩, ⟨fun it i => ?_, fun y y0 y1 t => zz 35 _ _ (by decide)⟩⟩, Or.inl f6⟩
  · rw [zz 32 _ _ (by decide)]; decide
  · rw [zz 5 _ _ (by decide)]; decide
  · rw [zz 5 _ _ (by decide)]; decide
  · rw [zz 5 _ _ (by decide)] at w1; omega
  · have := z63 t t0 t1; omega
  · rw [f7]; decide
  · rw [f7]; exact ⟨Int.le_refl 0, Int.le_refl 0⟩
  · rw [zz 41 _ _ (by decide)]; decide
  · rw [zz 40 _ _ (by decide)]; decide
  · rw [zz 35 _ _ (by decide)]; decide
theorem y_bk0 {M : qM} (m : z_M0 M) : k_bk y_B0 M := by
  obtain ⟨z, z63, f1, f2, f3, f4, f5, f6, f7, g0, g1, g2, g3, g4, g5⟩ := m
  have zz : ∀ (k : Nat) (n s : Int), (k ≠ 2 ∧ k ≠ 7 ∧ k ≠ 10 ∧ k ≠ 63 ∧ k ≠ 76) → M k n s = 0 := fun k n s q => z k n s q.1 q.2.1 q.2.2.1 q.2.2.2.1 q.2.2.2.2
  refine ⟨fun c c0 c3 => zz 77 _ _ (by decide), fun it a b => ?_, fun it w a b c e => ?_, g1, g2, g3⟩
  · rw [zz 65 _ _ (by decide)]
    exact ⟨by decide, rfl, rfl, fun q => absurd rfl q⟩
  · have e' : w < 0 := e
    omega
theorem y_rel0 {M : qM} (m : z_M0 M) : l_rel 0 M := by
  have cl := y_cl0 m
  have bk := y_bk0 m
  obtain ⟨z, z63, f1, f2, f3, f4, f5, f6, f7, g0, g1, g2, g3, g4, g5⟩ := m
  have zz : ∀ (k : Nat) (n s : Int), (k ≠ 2 ∧ k ≠ 7 ∧ k ≠ 10 ∧ k ≠ 63 ∧ k ≠ 76) → M k n s = 0 := fun k n s q => z k n s q.1 q.2.1 q.2.2.1 q.2.2.2.1 q.2.2.2.2
  refine ⟨y_B0, ⟨cl, ⟨bk, ⟨fun c c0 c3 => ⟨show (0 : Int) ≤ 6 by decide, show (0 : Int) ≤ 16 by decide⟩, fun x x0 x1 => show (0 : Int) ≤ 15 by decide, fun y y0 y1 t => (y_B0_th t).elim⟩, fun y y' _ _ _ _ k1 _ _ => ?_⟩, ⟨fun it a b => ?_, fun it a b r q => ?_⟩, ⟨⟨?_, ?_⟩, fun w w0 w1 => ?_⟩, fun t t0 t1 => ?_, ⟨fun it a b => ?_, fun x x0 x1 t => (y_B0_t t).elim⟩⟩, Or.inl ⟨f6, g4⟩, Or.inl ⟨f2, g5⟩⟩
  · have th : c_there y_B0 y := c_K_there (by omega)
    exact (y_B0_th th).elim
  · rw [zz 66 _ _ (by decide)]
    exact ⟨by decide, by decide⟩
  · have r' : it % 6 < 0 := r
    omega
  · rw [g0, zz 5 _ _ (by decide)]
  · rw [zz 5 _ _ (by decide)]; decide
  · rw [zz 5 _ _ (by decide)] at w1; omega
  · rw [zz 78 _ _ (by decide), z63 t t0 t1]; rfl
  · rw [zz 65 _ _ (by decide)]; decide
/-- the small machine says true of every script -/
theorem y_law {L : Nat} {xs : Nat → Int32} : qLawOK L xs := by
  refine qLaw_of (d := 20) (by decide) ?_
  have go : ∀ (h : qH) (M : qM), k_h 13000 h → z_M0 M → b269_155 (3 + 8) h ((L : Int), fun j => (xs j.toNat).toInt) (fun v h _ => v = 1 ∧ h.2.2.1 ≤ 600000 ∧ h.2.2.2.1 ≤ 7300000) q_u q_u q_u q_u q_u q_u q_u q_u q_u q_u M := fun h M hu m => by
    have cl := y_cl0 m
    have bk := y_bk0 m
    have rel := y_rel0 m
    have m13 : M 10 0 13 = 0 := m.2.2.2.2.2.2.2.1
    have m9 : M 10 0 9 = 0 := m.2.2.2.1
    refine w269_155 hu.1 (L229 (B := y_B0) (en := 0) (W := fun _ => 0) (R := (default : c_R)) (L := 0) hu ⟨cl.2.1, Or.inl m13, fun z => absurd m13 z⟩ m13 (bk.1 0 (by decide) (by decide)) (fun h1 hu1 => ⟨fun z => absurd z (by decide), fun _ => ?_⟩))
    refine C159 (b := 1) (Bo := y_B0) (Wo := fun _ => 0) (Ro := (default : c_R)) (Lo := 0) (e' := 0) hu1.1 cl (Or.inl m9) (fun _ _ => ⟨fun _ => ?_, fun z => absurd rfl z⟩) (fun no => absurd ⟨by decide, m9⟩ no) (fun no => absurd ⟨by decide, m9⟩ no)
    exact k_loop (u0 := 13041) (by show (0 : Int) ≤ (L : Int); omega) (fun h' N hu' => ⟨rfl, by have := hu'.2.2.1; omega, by have := hu'.2.2.2.1; omega⟩) 90 0 13041 _ M _ _ _ _ _ _ _ _ _ (Int.le_refl 0) (by decide) (by decide) (by omega) (k_h_bump hu1) rel
  have st : qG 20 ((L : Int), fun j => (xs j.toNat).toInt) qc_L_law (lXi (fun v h _ => v = 1 ∧ h.2.2.1 ≤ 600000 ∧ h.2.2.2.1 ≤ 7300000)) 0 (qArgs 35 [.inr (.inr (.inr true))]) [] qσ0 := z_start (fun h M hu m => go h M hu m) rfl
  obtain ⟨N, r, σ', hrun, v, h, M, e1, e2, e3, e4, e5⟩ := st
  subst e3
  subst e2
  exact ⟨N, r, _, hrun, e1, e4, e5⟩
