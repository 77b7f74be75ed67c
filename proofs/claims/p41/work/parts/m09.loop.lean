/-! ===== the law's loop ===== -/
section
variable {d : Nat} {sc : Int × (Int → Int)} {f : Int → qH → qM → Prop}
/-- one turn -/
theorem k_turn {h : qH} {M : qM} {B : pT} {u : Nat} {t act g j : Int} (hu : k_h u h) (ht : 0 ≤ t ∧ t < 90) (ha : l_all t B M) (HE : ∀ h' N, k_h (u + 2000) h' → f 1 h' N) (K : ∀ h' N, k_h (u + 2000) h' → l_rel (t + 1) N → ∀ u26 u27 u28 u29 u30 u31 u32 u33 u34, b269_180 (d + 8) h' sc f (t + 1) u26 u27 u28 u29 u30 u31 u32 u33 u34 N) {u31 u32 u33 u34 : qV} : b269_253 (d + 8) h sc f t act g j 1 0 u31 u32 u33 u34 M := by
  have nx : ∀ (h' : qH) (N : qM), k_h (u + 2000) h' → l_rel (t + 1) N → ∀ u26 u27 u28 u29 u30 u31 u32 u33 u34, b269_1627 (d + 8) h' sc f t u26 u27 u28 u29 u30 u31 u32 u33 u34 N := fun h' N hu' hr u26 u27 u28 u29 u30 u31 u32 u33 u34 => w269_1627 hu'.1 ⟨⟨by omega, by omega⟩, K h' N hu' hr _ _ _ _ _ _ _ _ _⟩
  -- behind an act
  have go : ∀ (h' : qH) (N : qM) (x30 : Int), k_h (u + 1000) h' → (∃ B, l_all t B N ∧ (x30 = 0 ∨ (x30 = 1 ∧ ∃ en W R L, l_ask B en W R L N))) → ∀ u26 u27 u28 u31 u32 u33 u34, b269_1234 (d + 8) h' sc f t u26 u27 u28 1 x30 u31 u32 u33 u34 N := fun h' N x30 hu' ⟨B', ha', hq⟩ u26 u27 u28 u31 u32 u33 u34 => k_1234 hu' ha' hq (fun h2 N2 hu2 ha2 u26 u27 u28 u29 u30 u31 u32 u33 u34 => nx h2 N2 (k_h_up hu2 (by omega)) (l_rel_up ha2 ⟨ht.1, by omega⟩) _ _ _ _ _ _ _ _ _)
  have go0 : ∀ (h' : qH) (N : qM), k_h (u + 5) h' → (∃ B, l_all t B N) → ∀ u26 u27 u28 u31 u32 u33 u34, b269_1234 (d + 8) h' sc f t u26 u27 u28 1 0 u31 u32 u33 u34 N := fun h' N hu' ⟨B', ha'⟩ u26 u27 u28 u31 u32 u33 u34 => go h' N 0 (k_h_up hu' (by omega)) ⟨B', ha', Or.inl rfl⟩ _ _ _ _ _ _ _
  refine w269_253 hu.1 ⟨fun _ => L228 hu ha ⟨ht.1, by omega⟩ (fun h1 N hu1 ⟨B', ha'⟩ => ?_), fun _ => k_see hu ha go0 (fun _ u31 u32 u33 u34 => k_406 hu ha go0 (fun _ u31 u32 u33 u34 => k_482 hu ha go0 (fun _ u28 u31 u32 u33 u34 => ?_)))⟩
  · exact k_1234 hu1 ha' (Or.inl rfl) (fun h2 N2 hu2 ha2 u26 u27 u28 u29 u30 u31 u32 u33 u34 => nx h2 N2 (k_h_up hu2 (by omega)) ⟨_, ha2⟩ _ _ _ _ _ _ _ _ _)
  · have comp : ∀ (x31 : Int) (u26 u27 u28 u29 u30 u32 u33 u34 : qV), (x31 = 0 ∨ x31 = 1) → (x31 ≠ 0 → M 76 0 5 ≠ 0) → b269_712 (d + 8) h sc f t u26 u27 u28 u29 u30 x31 u32 u33 u34 M := fun x31 u26 u27 u28 u29 u30 u32 u33 u34 hx h5 => k_712 hu ha hx h5 (fun h' N hu' => HE h' N (k_h_up hu' (by omega))) (fun h' N en W R L hu' ha' hq _ u26 u27 u28 u31 u32 u33 u34 => go h' N 1 (k_h_up hu' (by omega)) ⟨B, ha', Or.inr ⟨rfl, en, W, R, L, hq⟩⟩ _ _ _ _ _ _ _) (fun h' N hu' ha' _ u26 u27 u28 u31 u32 u33 u34 => go h' N 0 (k_h_up hu' (by omega)) ⟨B, ha', Or.inl rfl⟩ _ _ _ _ _ _ _) _ _ _ _ _ _ _ _
    refine w269_658 hu.1 ⟨fun _ x hx => ?_, fun _ => k_885 hu ha (fun N haN u26 u27 u28 u31 u32 u33 u34 => go h N 0 (k_h_up hu (by omega)) ⟨B, haN, Or.inl rfl⟩ _ _ _ _ _ _ _) _ _ _ _ _ _ _⟩
    have xb : x = 0 ∨ x = 1 := by
      rw [hx]
      split
      · exact Or.inr rfl
      · exact Or.inl rfl
    refine ⟨fun z => comp x _ _ _ _ _ _ _ _ xb (fun y => absurd z y), fun nz => ⟨fun h5 => ?_, fun h5 => comp x _ _ _ _ _ _ _ _ xb (fun _ => h5)⟩⟩
    have p9 : M 10 0 9 = 0 := by
      rcases ha.2.2 with ⟨p1, _⟩ | ⟨p1, _⟩
      · exact p1
      · omega
    refine C159 (b := 1) (Bo := B) (Wo := fun _ => 0) (Ro := (default : c_R)) (Lo := 0) (e' := 0) hu.1 ha.1.1 (Or.inl p9) (fun _ _ y hy => ?_) (fun no => absurd ⟨by decide, p9⟩ no) (fun no => absurd ⟨by decide, p9⟩ no)
    rw [if_pos rfl] at hy
    rw [hy]
    exact go _ M 0 (k_h_up (k_h_bump hu) (by omega)) ⟨B, ha, Or.inl rfl⟩ _ _ _ _ _ _ _
theorem k_loop {u0 : Nat} (hs : 0 ≤ sc.1) (HE : ∀ h' N, k_h (u0 + 180000) h' → f 1 h' N) : ∀ (tt : Nat) (t : Int) (u : Nat) (h : qH) (M : qM) (u26 u27 u28 u29 u30 u31 u32 u33 u34 : qV), 0 ≤ t → t ≤ 90 → 90 - t ≤ tt → (u : Int) ≤ u0 + 2000 * t → k_h u h → l_rel t M → b269_180 (d + 8) h sc f t u26 u27 u28 u29 u30 u31 u32 u33 u34 M := by
  have stop : ∀ (u : Nat) (h : qH) (M : qM) (u26 u27 u28 u29 u30 u31 u32 u33 u34 : qV), (u : Int) ≤ u0 + 180000 → k_h u h → b269_180 (d + 8) h sc f 90 u26 u27 u28 u29 u30 u31 u32 u33 u34 M := fun u h M u26 u27 u28 u29 u30 u31 u32 u33 u34 eu hu => w269_180 hu.1 ⟨fun z => absurd z (by decide), fun _ => HE h M (k_h_up hu (by omega))⟩
  intro tt
  induction tt with
  | zero =>
    intro t u h M u26 u27 u28 u29 u30 u31 u32 u33 u34 t0 t1 t2 eu hu hr
    have e : t = 90 := by omega
    subst e
    exact stop u h M _ _ _ _ _ _ _ _ _ (by omega) hu
  | succ tt ih =>
    intro t u h M u26 u27 u28 u29 u30 u31 u32 u33 u34 t0 t1 t2 eu hu hr
    by_cases e : t = 90
    · subst e
      exact stop u h M _ _ _ _ _ _ _ _ _ (by omega) hu
    · obtain ⟨B, ha⟩ := hr
      have go : ∀ (act g j : Int) (u31 u32 u33 u34 : qV), b269_253 (d + 8) h sc f t act g j 1 0 u31 u32 u33 u34 M := fun act g j u31 u32 u33 u34 => k_turn hu ⟨t0, by omega⟩ ha (fun h' N hu' => HE h' N (k_h_up hu' (by omega))) (fun h' N hu' hr' u26 u27 u28 u29 u30 u31 u32 u33 u34 => ih (t + 1) (u + 2000) h' N _ _ _ _ _ _ _ _ _ (by omega) (by omega) (by omega) (by omega) hu' hr')
      refine w269_180 hu.1 ⟨fun _ => ⟨⟨by omega, by omega⟩, ⟨⟨by omega, by omega⟩, hs⟩, fun x hx => ?_⟩, fun z => by omega⟩
      have xb : 0 < x := by
        rw [hx]; split <;> decide
      exact L151 hu.1 xb ⟨⟨by omega, by omega⟩, ⟨by omega, by omega⟩, ⟨⟨by omega, by omega⟩, hs⟩, ⟨by omega, by omega⟩, ⟨by omega, by omega⟩, ⟨⟨by omega, by omega⟩, hs⟩, fun _ => go _ _ _ _ _ _ _, fun _ => go _ _ _ _ _ _ _⟩
end
