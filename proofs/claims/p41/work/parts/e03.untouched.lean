/-! ===== untouched sheets ===== -/
def u_sh (tot was : Int) (C : Int → Prop) (s : Int) : Prop := ∀ p, 4 * s + 1 ≤ p → p ≤ 4 * s + 4 → (p ≤ tot ↔ p ≤ was) ∧ (p ≤ tot → C p)
noncomputable def u_cnt (tot was : Int) (C : Int → Prop) (n : Int) : Int := p_sum (fun s => @ite Int (u_sh tot was C s) (Classical.propDecidable _) 1 0) n
theorem u_cnt_b {tot was : Int} {C : Int → Prop} {n : Int} (hn : 0 ≤ n) : 0 ≤ u_cnt tot was C n ∧ u_cnt tot was C n ≤ n := by
  have := p_sum_bd (g := fun s => @ite Int (u_sh tot was C s) (Classical.propDecidable _) 1 0) (b := 1) (n := n) (fun k => by
    show 0 ≤ @ite Int (u_sh tot was C k) (Classical.propDecidable _) 1 0 ∧ @ite Int (u_sh tot was C k) (Classical.propDecidable _) 1 0 ≤ 1
    by_cases q : u_sh tot was C k
    · rw [if_pos q]; decide
    · rw [if_neg q]; decide) hn
  unfold u_cnt; omega
theorem t143 {d : Nat} {h : qH} (hS : qSe h) {en e' tot was s : Int} {C : Int → Prop} {M : qM} {F : Int → qM → Prop} (h8 : M 10 0 8 = en + 1) (h9 : M 10 0 9 = e' + 1) (hen : 0 ≤ en ∧ 0 ≤ e') (h5 : M 3 en 5 = tot) (h5' : M 3 e' 5 = was) (hs : 0 ≤ s ∧ s ≤ 200)
    (hC : ∀ p (F : Int → qM → Prop), 1 ≤ p → p ≤ tot → p ≤ was → (C p → F 1 M) → (¬ C p → F 0 M) → e31 (d + 4) h en e' p M F)
    (H1 : u_sh tot was C s → F 1 M) (H0 : ¬ u_sh tot was C s → F 0 M) : e143 (d + 5) h s M F := by
  have y8 : M 10 0 8 - 1 = en := by omega
  have y9 : M 10 0 9 - 1 = e' := by omega
  refine w143 hS ⟨⟨by omega, by omega⟩, ⟨by omega, by omega⟩, ?_⟩
  refine q_upto (P := fun p => 4 * s + 1 ≤ p → (∀ z, 4 * s + 1 ≤ z → z < p → (z ≤ tot ↔ z ≤ was) ∧ (z ≤ tot → C z)) → ∀ u3 u4, b143_6 d h F s p u3 u4 M) (a := 4 * s + 1) (b := 4 * s + 5) (by omega) (fun _ al u3 u4 => w143_6 hS ⟨⟨by omega, by omega⟩, ⟨by omega, by omega⟩, fun q => by omega, fun _ => H1 (fun p a b => al p a (by omega))⟩) (fun p p0 p1 ih _ al u3 u4 => ?_) (Int.le_refl _) (fun z a b => by omega) _ _
  have no : ¬ ((p ≤ tot ↔ p ≤ was) ∧ (p ≤ tot → C p)) → F 0 M := fun z => H0 (fun y => z (y p p0 (by omega)))
  refine w143_6 hS ⟨⟨by omega, by omega⟩, ⟨by omega, by omega⟩, fun _ => ⟨fun q => by omega, fun _ x hx => ⟨fun q => by omega, fun _ y hy => ?_, fun q => by omega⟩, fun q => by omega⟩, fun q => by omega⟩
  rw [y8, h5] at hx
  rw [y9, h5'] at hy
  have nx : ((p ≤ tot ↔ p ≤ was) ∧ (p ≤ tot → C p)) → ∀ u3 u4, b143_6 d h F s (p + 1) u3 u4 M := fun ok u3 u4 => ih (by omega) (fun z a b => by
    by_cases ez : z = p
    · rw [ez]; exact ok
    · exact al z a (by omega)) u3 u4
  by_cases a : p ≤ tot
  · rw [if_pos a] at hx
    by_cases b : p ≤ was
    · rw [if_pos b] at hy
      refine ⟨fun _ => ⟨fun q => by omega, fun _ => ⟨fun q => by omega, fun _ => ⟨fun q => by omega, fun _ => ?_, fun q => by omega⟩, fun q => by omega⟩⟩, fun q => by omega⟩
      rw [y8, y9]
      exact hC p _ (by omega) a b (fun c => ⟨fun q => absurd q (by decide), fun _ => ⟨⟨by omega, by omega⟩, nx ⟨⟨fun _ => b, fun _ => a⟩, fun _ => c⟩ _ _⟩⟩) (fun c => ⟨fun _ => no (fun z => c (z.2 a)), fun q => absurd rfl q⟩)
    · rw [if_neg b] at hy
      exact ⟨fun q => by omega, fun _ => no (fun z => b (z.1.mp a))⟩
  · rw [if_neg a] at hx
    by_cases b : p ≤ was
    · rw [if_pos b] at hy
      exact ⟨fun q => by omega, fun _ => no (fun z => a (z.1.mpr b))⟩
    · rw [if_neg b] at hy
      exact ⟨fun _ => ⟨fun _ => ⟨⟨by omega, by omega⟩, nx ⟨⟨fun z => absurd z a, fun z => absurd z b⟩, fun z => absurd z a⟩ _ _⟩, fun q => by omega⟩, fun q => by omega⟩
theorem t132 {d : Nat} {h : qH} (hS : qSe h) {en e' tot was : Int} {C : Int → Prop} {M : qM} {F : Int → qM → Prop} {G : Nat → qM → Prop} (h8 : M 10 0 8 = en + 1) (h9 : M 10 0 9 = 0 ∨ (M 10 0 9 = e' + 1 ∧ 0 ≤ e')) (hen : 0 ≤ en) (h5 : M 3 en 5 = tot) (h5' : M 10 0 9 ≠ 0 → M 3 e' 5 = was) (hb : 0 ≤ tot ∧ tot < 400) (hb' : M 10 0 9 ≠ 0 → 0 ≤ was ∧ was < 400)
    (hC : M 10 0 9 ≠ 0 → ∀ p (F : Int → qM → Prop), 1 ≤ p → p ≤ tot → p ≤ was → (C p → F 1 M) → (¬ C p → F 0 M) → e31 (d + 4) h en e' p M F)
    (HX : M 10 0 13 = 0 → G 1 M) (H : M 10 0 13 ≠ 0 → F (if M 10 0 9 = 0 then 0 else u_cnt tot was C (((if tot < was then was else tot) + 3) / 4)) M) : e132 (d + 6) h M F G := by
  refine w132 hS (w138 hS ⟨fun q => HX q, fun q => ?_⟩)
  have hF := H q
  rcases h9 with z | ⟨z, z2⟩
  · rw [if_pos z] at hF
    exact ⟨fun _ => hF, fun y => by omega, fun y => by omega⟩
  · have nz : M 10 0 9 ≠ 0 := by omega
    rw [if_neg nz] at hF
    have y8 : M 10 0 8 - 1 = en := by omega
    have y9 : M 10 0 9 - 1 = e' := by omega
    have bw := hb' nz
    refine ⟨fun y => by omega, fun _ => ⟨fun y => by omega, fun _ => ⟨fun y => by omega, fun _ => w264 hS (fun mx hmx => ?_), fun y => by omega⟩, fun y => by omega⟩, fun y => by omega⟩
    rw [y8, y9, h5, h5' nz] at hmx
    have em : mx = if tot < was then was else tot := hmx
    have mb : 0 ≤ mx ∧ mx < 400 := by rw [em]; split <;> omega
    rw [← em] at hF
    refine w144 hS ⟨⟨by omega, by omega⟩, by omega, ?_⟩
    refine q_upto (P := fun s => 0 ≤ s → b132_38 d h F G ((mx + 3) / 4) (u_cnt tot was C s) s M) (a := 0) (b := (mx + 3) / 4) (by omega) (fun _ => w132_38 hS ⟨fun y => by omega, fun _ => hF⟩) (fun s s0 s1 ih _ => ?_) (Int.le_refl _)
    have ub := u_cnt_b (tot := tot) (was := was) (C := C) s0
    have us : u_cnt tot was C (s + 1) = u_cnt tot was C s + @ite Int (u_sh tot was C s) (Classical.propDecidable _) 1 0 := p_sum_s s0
    have ih' := ih (by omega)
    refine w132_38 hS ⟨fun _ => t143 hS (C := C) h8 z ⟨hen, z2⟩ h5 (h5' nz) ⟨s0, by omega⟩ (hC nz) (fun c => ⟨fun _ => ⟨by omega, by omega⟩, fun y hy => ⟨⟨by omega, by omega⟩, ?_⟩⟩) (fun c => ⟨fun _ => ⟨by omega, by omega⟩, fun y hy => ⟨⟨by omega, by omega⟩, ?_⟩⟩), fun y => absurd s1 y⟩
    · rw [if_neg (by decide)] at hy
      rw [if_pos c] at us
      rw [hy, ← us]; exact ih'
    · rw [if_pos rfl] at hy
      rw [if_neg c, Int.add_zero] at us
      rw [hy, ← us]; exact ih'
