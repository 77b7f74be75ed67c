/-! ===== untouched sheets ===== -/
def u_sh (tot was : Int) (C : Int → Prop) (s : Int) : Prop := ∀ p, 4 * s + 1 ≤ p → p ≤ 4 * s + 4 → (p ≤ tot ↔ p ≤ was) ∧ (p ≤ tot → C p)
noncomputable def u_cnt (tot was : Int) (C : Int → Prop) (n : Int) : Int := p_sum (fun s => @ite Int (u_sh tot was C s) (Classical.propDecidable _) 1 0) n
theorem u_cnt_b {tot was : Int} {C : Int → Prop} {n : Int} (hn : 0 ≤ n) : 0 ≤ u_cnt tot was C n ∧ u_cnt tot was C n ≤ n := by
  have := p_sum_bd (g := fun s => @ite Int (u_sh tot was C s) (Classical.propDecidable _) 1 0) (b := 1) (n := n) (fun k => by
    show 0 ≤ @ite Int (u_sh tot was C k) (Classical.propDecidable _) 1 0 ∧ @ite Int (u_sh tot was C k) (Classical.propDecidable _) 1 0 ≤ 1
    by_cases q : u_sh tot was C k
    · rw [if_pos q]; decide
    · rw [if_neg q]; decide) hn
  unfold u_cnt; omega
theorem t143 {d : Nat} {h : qH} (hS : qSe h) {en e' tot was s : Int} {C : Int → Prop} {M : qM} {F : Int → qM → Prop} (h8 : M 10 0 8 = en + 1) (h9 : M 10 0 9 = e' + 1) (hen : 0 ≤ en ∧ 0 ≤ e') (h5 : M 3 en 5 = tot) (h5' : M 3 e' 5 = was) (hs : 0 ≤ s ∧ s ≤ 200)
    (hC : ∀ p (F : Int → qM → Prop), 1 ≤ p → p ≤ tot → p ≤ was → (C p → F 1 M) → (¬ C p → F 0 M) → e31 (d + 4) h en e' p M F)
    (H1 : u_sh tot was C s → F 1 M) (H0 : ¬ u_sh tot was C s → F 0 M) : e143 (d + 5) h s M F := by
  have y8 : M 10 0 8 - 1 = en := by omega
  have y9 : M 10 0 9 - 1 = e' := by omega
  refine w143 hS ⟨⟨by omega, by omega⟩, ⟨by omega, by omega⟩, ?_⟩
  refine q_upto (P := fun p => 4 * s + 1 ≤ p → (∀ z, 4 * s + 1 ≤ z → z < p → (z ≤ tot ↔ z ≤ was) ∧ (z ≤ tot → C z)) → ∀ u3 u4, b143_6 d h F s p u3 u4 M) (a := 4 * s + 1) (b := 4 * s + 5) (by omega) (fun _ al u3 u4 => w143_6 hS ⟨⟨by omega, by omega⟩, ⟨by omega, by omega⟩, fun q => by omega, fun _ => H1 (fun p a b => al p a (by omega))⟩) (fun p p0 p1 ih _ al u3 u4 => ?_) (Int.le_refl _) (fun z a b => by omega) _ _
  have no : ¬ ((p ≤ tot ↔ p ≤ was) ∧ (p ≤ tot → C p)) → F 0 M := fun z => H0 (fun y => z (y p p0 (by omega)))
  refine w143_6 hS ⟨⟨by omega, by omega⟩, ⟨by omega, by omega⟩, fun _ => ⟨fun q => by omega, fun _ x hx => ⟨fun q => by omega, fun _ y hy => ?_, fun q => by omega⟩, fun q => by omega⟩, fun q => by omega⟩
  rw [y8, h5] at hx
  rw [y9, h5'] at hy
  have nx : ((p ≤ tot ↔ p ≤ was) ∧ (p ≤ tot → C p)) → ∀ u3 u4, b143_6 d h F s (p + 1) u3 u4 M := fun ok u3 u4 => ih (by omega) (fun z a b => by
    by_cases ez : z = p
    · rw [ez]; exact ok
    · exact al z a (by omega)) u3 u4
  by_cases a : p ≤ tot
  · rw [if_pos a] at hx
    by_cases b : p ≤ was
    · rw [if_pos b] at hy
      refine ⟨fun _ => ⟨fun q => by omega, fun _ => ⟨fun q => by omega, fun _ => ⟨fun q => by omega, fun _ => ?_, fun q => by omega⟩, fun q => by omega⟩⟩, fun q => by omega⟩
      rw [y8, y9]
      exact hC p _ (by omega) a b (fun c => ⟨fun q => absurd q (by decide), fun _ => ⟨⟨by omega, by omega⟩, nx ⟨⟨fun _ => b, fun _ => a⟩, fun _ => c⟩ _ _⟩⟩) (fun c => ⟨fun _ => no (fun z => c (z.2 a)), fun q => absurd rfl q⟩)
    · rw [if_neg b] at hy
      exact ⟨fun q => by omega, fun _ => no (fun z => b (z.1.mp a))⟩
  · rw [if_neg a] at hx
    by_cases b : p ≤ was
    · rw [if_pos b] at hy
      exact ⟨fun q => by omega, fun _ => no (fun z => a (z.1.mpr b))⟩
    · rw [if_neg b] at hy
      exact ⟨fun _ => ⟨fun _ => ⟨⟨by omega, by omega⟩, nx ⟨⟨fun z => absurd z a, fun z => absurd z b⟩, fun z => absurd z a⟩ _ _⟩, fun q => by omega⟩, fun q => by omega⟩
theorem t132 {d : Nat} {h : qH} (hS : qSe h) {en e' tot was : Int} {C : Int → Prop} {M : qM} {F : Int → qM → Prop} {G : Nat → qM → Prop} (h8 : M 10 0 8 = en + 1) (h9 : M 10 0 9 = 0 ∨ (M 10 0 9 = e' + 1 ∧ 0 ≤ e')) (hen : 0 ≤ en) (h5 : M 3 en 5 = tot) (h5' : M 10 0 9 ≠ 0 → M 3 e' 5 = was) (hb : 0 ≤ tot ∧ tot < 400) (hb' : M 10 0 9 ≠ 0 → 0 ≤ was ∧ was < 400)
    (hC : M 10 0 9 ≠ 0 → ∀ p (F : Int → qM → Prop), 1 ≤ p → p ≤ tot → p ≤ was → (C p → F 1 M) → (¬ C p → F 0 M) → e31 (d + 4) h en e' p M F)
    (HX : M 10 0 13 = 0 → G 1 M) (H : M 10 0 13 ≠ 0 → F (if M 10 0 9 = 0 then 0 else u_cnt tot was C (((if tot < was then was else tot) + 3) / 4)) M) : e132 (d + 6) h M F G := by
  refine w132 hS (w138 hS ⟨fun q => HX q, fun q => ?_⟩)
  have hF := H q
  rcases h9 with z | ⟨z, z2⟩
  · rw [if_pos z] at hF
    exact ⟨fun _ => hF, fun y => by omega, fun y => by omega⟩
  · have nz : M 10 0 9 ≠ 0 := by omega
    rw [if_neg nz] at hF
    have y8 : M 10 0 8 - 1 = en := by omega
    have y9 : M 10 0 9 - 1 = e' := by omega
    have bw := hb' nz
    refine ⟨fun y => by omega, fun _ => ⟨fun y => by omega, fun _ => ⟨fun y => by omega, fun _ => w264 hS (fun mx hmx => ?_), fun y => by omega⟩, fun y => by omega⟩, fun y => by omega⟩
    rw [y8, y9, h5, h5' nz] at hmx
    have em : mx = if tot < was then was else tot := hmx
    have mb : 0 ≤ mx ∧ mx < 400 := by rw [em]; split <;> omega
    rw [← em] at hF
    refine w144 hS ⟨⟨by omega, by omega⟩, by omega, ?_⟩
    refine q_upto (P := fun s => 0 ≤ s → b132_38 d h F G ((mx + 3) / 4) (u_cnt tot was C s) s M) (a := 0) (b := (mx + 3) / 4) (by omega) (fun _ => w132_38 hS ⟨fun y => by omega, fun _ => hF⟩) (fun s s0 s1 ih _ => ?_) (Int.le_refl _)
    have ub := u_cnt_b (tot := tot) (was := was) (C := C) s0
    have us : u_cnt tot was C (s + 1) = u_cnt tot was C s + @ite Int (u_sh tot was C s) (Classical.propDecidable _) 1 0 := p_sum_s s0
    have ih' := ih (by omega)
    refine w132_38 hS ⟨fun _ => t143 hS (C := C) h8 z ⟨hen, z2⟩ h5 (h5' nz) ⟨s0, by omega⟩ (hC nz) (fun c => ⟨fun _ => ⟨by omega, by omega⟩, fun y hy => ⟨⟨by omega, by omega⟩, ?_⟩⟩) (fun c => ⟨fun _ => ⟨by omega, by omega⟩, fun y hy => ⟨⟨by omega, by omega⟩, ?_⟩⟩), fun y => absurd s1 y⟩
    · rw [if_neg (by decide)] at hy
      rw [if_pos c] at us
      rw [hy, ← us]; exact ih'
    · rw [if_pos rfl] at hy
      rw [if_neg c, Int.add_zero] at us
      rw [hy, ← us]; exact ih'
/-- in the model -/
theorem t263 {d : Nat} {h : qH} (hS : qSe h) {tot was : Int} {Q : Int → Prop} {M : qM} {F : Int → qM → Prop} (h58 : M 11 0 22 ≠ 0 → M 11 0 58 = tot) (h74 : M 11 0 73 ≠ 0 → M 11 0 74 = was) (hb : M 11 0 22 ≠ 0 → 0 ≤ tot ∧ tot < 400) (hb' : M 11 0 73 ≠ 0 → 0 ≤ was ∧ was < 400)
    (hQ : M 11 0 22 ≠ 0 → M 11 0 73 ≠ 0 → ∀ N, N = qU M 11 0 0 0 → ∀ p (F : Int → qM → Prop), 1 ≤ p → p ≤ (if tot < was then was else tot) → ((p ≤ tot ∧ p ≤ was ∧ Q p) → F 1 N) → (¬ (p ≤ tot ∧ p ≤ was ∧ Q p) → F 0 N) → e262 (d + 6) h p N F)
    (HX : M 11 0 22 = 0 → ∀ N, N = qU M 11 0 0 1 → F 0 N) (H : M 11 0 22 ≠ 0 → ∀ N, N = qU M 11 0 0 0 → F (if M 11 0 73 = 0 then 0 else u_cnt tot was Q (((if tot < was then was else tot) + 3) / 4)) N) : e263 (d + 7) h M F := by
  refine w263 hS (w233 hS (fun x hx N f1 y hy => ?_))
  have v0 : N 11 0 0 = x := by rw [f1, qU_s]
  rw [v0] at hy
  by_cases made : M 11 0 22 = 0
  · rw [if_pos made] at hx
    rw [hx, if_neg (by decide)] at hy
    refine ⟨Or.inl hy, fun _ => HX made N (by rw [f1, hx]), fun z => absurd hy z⟩
  · rw [if_neg made] at hx
    rw [hx, if_pos rfl] at hy
    have fN : N = qU M 11 0 0 0 := by rw [f1, hx]
    have hF := H made N fN
    have O : ∀ (k : Nat) (m s : Int), ¬ (k = 11 ∧ m = 0 ∧ s = 0) → N k m s = M k m s := fun k m s q => by rw [f1]; unfold qU; rw [if_neg q]
    refine ⟨Or.inr hy, fun z => by omega, fun _ => ⟨fun z => ?_, fun z w hw => ?_⟩⟩
    · rw [O _ _ _ (by omega)] at z
      rw [if_pos z] at hF; exact hF
    · rw [O _ _ _ (by omega)] at z
      rw [if_neg z] at hF
      rw [O _ _ _ (by omega), O _ _ _ (by omega), h58 made, h74 z] at hw
      have b1 := hb made
      have b2 := hb' z
      have ew : w = if tot < was then was else tot := by rw [hw]; split <;> split <;> omega
      have wb : 0 ≤ w ∧ w < 400 := by rw [ew]; split <;> omega
      have wm : ∀ p, p ≤ w ↔ p ≤ tot ∨ p ≤ was := fun p => by rw [ew]; split <;> omega
      rw [← ew] at hF
      have q62 := hQ made z N fN
      rw [← ew] at q62
      have main : ∀ u4 u5, b263_43 d h F w (u_cnt tot was Q 0) (4 * 0 + 1) u4 u5 N := by
        refine q_upto (P := fun s => 0 ≤ s → ∀ u4 u5, b263_43 d h F w (u_cnt tot was Q s) (4 * s + 1) u4 u5 N) (a := 0) (b := (w + 3) / 4) (by omega) (fun _ u4 u5 => w263_43 hS ⟨fun y => by omega, fun _ => hF⟩) (fun s s0 s1 ih _ u4 u5 => ?_) (Int.le_refl _)
        have ub := u_cnt_b (tot := tot) (was := was) (C := Q) s0
        have us : u_cnt tot was Q (s + 1) = u_cnt tot was Q s + @ite Int (u_sh tot was Q s) (Classical.propDecidable _) 1 0 := p_sum_s s0
        refine w263_43 hS ⟨fun _ => ?_, fun y => by omega⟩
        -- the pages of the sheet
        have pages : ∀ p, 4 * s + 1 ≤ p → p ≤ 4 * s + 5 → ∀ is : Int, (is = 0 ∨ is = 1) → (is = 1 ↔ ∀ z, 4 * s + 1 ≤ z → z < p → z ≤ w → z ≤ tot ∧ z ≤ was ∧ Q z) → b263_54 d h F w (u_cnt tot was Q s) (4 * s + 1) is p N := by
          intro p p0 p1
          refine q_upto (P := fun p => 4 * s + 1 ≤ p → ∀ is : Int, (is = 0 ∨ is = 1) → (is = 1 ↔ ∀ z, 4 * s + 1 ≤ z → z < p → z ≤ w → z ≤ tot ∧ z ≤ was ∧ Q z) → b263_54 d h F w (u_cnt tot was Q s) (4 * s + 1) is p N) (a := p) (b := 4 * s + 5) p1 (fun _ is his hall => ?_) (fun p p0' p1 ihp p0 is his hall => ?_) p0
          · refine w263_54 hS ⟨⟨by omega, by omega⟩, fun y => by omega, fun _ v hv => ?_⟩
            have ev : v = @ite Int (u_sh tot was Q s) (Classical.propDecidable _) 1 0 := by
              have iff : is = 1 ↔ u_sh tot was Q s := by
                rw [hall]
                refine ⟨fun al p a b => ?_, fun sh z a b c => ?_⟩
                · by_cases pw : p ≤ w
                  · have := al p a (by omega) pw
                    exact ⟨⟨fun _ => this.2.1, fun _ => this.1⟩, fun _ => this.2.2⟩
                  · have n : ¬ (p ≤ tot ∨ p ≤ was) := fun y => pw ((wm p).mpr y)
                    exact ⟨⟨fun y => absurd (Or.inl y) n, fun y => absurd (Or.inr y) n⟩, fun y => absurd (Or.inl y) n⟩
                · have y := sh z a (by omega)
                  rcases (wm z).mp c with t | t
                  · exact ⟨t, y.1.mp t, y.2 t⟩
                  · exact ⟨y.1.mpr t, t, y.2 (y.1.mpr t)⟩
              rw [hv]
              by_cases q : u_sh tot was Q s
              · rw [if_pos q, if_neg (by have := iff.mpr q; omega)]
              · rw [if_neg q]
                rcases his with e | e
                · rw [if_pos e]
                · exact absurd (iff.mp e) q
            rw [ev, ← us, show 4 * s + 1 + 4 = 4 * (s + 1) + 1 by omega]
            have ub2 := u_cnt_b (tot := tot) (was := was) (C := Q) (show 0 ≤ s + 1 by omega)
            exact ⟨⟨by omega, by omega⟩, ⟨by omega, by omega⟩, ih (by omega) _ _⟩
          · refine w263_54 hS ⟨⟨by omega, by omega⟩, fun _ => ⟨fun pw => ⟨fun is0 => ⟨⟨by omega, by omega⟩, ?_⟩, fun is1 => ?_⟩, fun pw v hv => ?_⟩, fun y => by omega⟩
            · refine ihp (by omega) 0 (Or.inl rfl) ⟨fun y => absurd y (by decide), fun al => ?_⟩
              have : is = 1 := hall.mpr (fun z a b c => al z a (by omega) c)
              omega
            · have i1 : is = 1 := by omega
              have al := hall.mp i1
              refine q62 p _ (by omega) pw (fun c v hv => ⟨⟨by omega, by omega⟩, ?_⟩) (fun c v hv => ⟨⟨by omega, by omega⟩, ?_⟩)
              · rw [if_neg (by decide)] at hv
                rw [hv]
                refine ihp (by omega) 1 (Or.inr rfl) ⟨fun _ z a b e => ?_, fun _ => rfl⟩
                by_cases ez : z = p
                · rw [ez]; exact c
                · exact al z a (by omega) e
              · rw [if_pos rfl] at hv
                rw [hv]
                exact ihp (by omega) 0 (Or.inl rfl) ⟨fun y => absurd y (by decide), fun al2 => absurd (al2 p p0 (by omega) pw) c⟩
            · have ev : v = @ite Int (u_sh tot was Q s) (Classical.propDecidable _) 1 0 := by
                have iff : is = 1 ↔ u_sh tot was Q s := by
                  rw [hall]
                  refine ⟨fun al z a b => ?_, fun sh z a b c => ?_⟩
                  · by_cases pz : z ≤ w
                    · have := al z a (by omega) pz
                      exact ⟨⟨fun _ => this.2.1, fun _ => this.1⟩, fun _ => this.2.2⟩
                    · have n : ¬ (z ≤ tot ∨ z ≤ was) := fun y => pz ((wm z).mpr y)
                      exact ⟨⟨fun y => absurd (Or.inl y) n, fun y => absurd (Or.inr y) n⟩, fun y => absurd (Or.inl y) n⟩
                  · have y := sh z a (by omega)
                    rcases (wm z).mp c with t | t
                    · exact ⟨t, y.1.mp t, y.2 t⟩
                    · exact ⟨y.1.mpr t, t, y.2 (y.1.mpr t)⟩
                rw [hv]
                by_cases q : u_sh tot was Q s
                · rw [if_pos q, if_neg (by have := iff.mpr q; omega)]
                · rw [if_neg q]
                  rcases his with e | e
                  · rw [if_pos e]
                  · exact absurd (iff.mp e) q
              rw [ev, ← us, show 4 * s + 1 + 4 = 4 * (s + 1) + 1 by omega]
              have ub2 := u_cnt_b (tot := tot) (was := was) (C := Q) (show 0 ≤ s + 1 by omega)
              exact ⟨⟨by omega, by omega⟩, ⟨by omega, by omega⟩, ih (by omega) _ _⟩
        exact pages (4 * s + 1) (Int.le_refl _) (by omega) 1 (Or.inr rfl) ⟨fun _ z a b => by omega, fun _ => rfl⟩
      exact main _ _
