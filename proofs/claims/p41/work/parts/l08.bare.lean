/-! ===== isBare ===== -/
section
variable {d : Nat} {h : qH} {B : pT} {en L : Int} {W : Int → Int} {R : c_R} {M : qM} {F : Int → qH → qM → Prop}
theorem A160n (hS : qSe h) (m : M 10 0 13 = 0) (H : F (-7300) (lBh h) M) : e160 (d + 3) h M F := W160 (w105 hS (t138 hS (fun z => absurd m z) (fun _ => l_g1 H)))
theorem A186n (hS : qSe h) (m : M 10 0 13 = 0) (H : F (-7300) (lBh h) M) : e186 (d + 7) h M F := W186 (w132 hS (t138 hS (fun z => absurd m z) (fun _ => l_g1 H)))
/-- costByAll before composing, or of no chapter -/
theorem A175n {c : Int} (hS : qSe h) (m : M 10 0 13 = 0) (H2 : 0 ≤ c ∧ c < 3 → F (-7300) (lBh h) M) (H0 : ¬ (0 ≤ c ∧ c < 3) → F (-7100) (lBh h) M) : e175 (d + 6) h c M F :=
  W175 (w121 hS (z_ac hS (fun _ z => absurd m z) (fun q _ => l_g1 (H2 q)) (fun q => l_g2 (H0 q))))
end
section
variable {d : Nat} {f : Int → qH → qM → Prop} {B : pT} {en L : Int} {W : Int → Int} {R : c_R} {M : qM}
theorem k_269 {u : Nat} {h : qH} {u1 : qV} (hu : k_h u h) (hx : z_cx B en W R L M) (m : M 10 0 13 = 0) (H : ∀ h', k_h (u + 10) h' → f 1 h' M) : b229_269 d h f u1 M := by
  have hu1 := k_h_bump hu
  have hu2 := k_h_bump hu1
  have hu3 := k_h_bump hu2
  have hu4 := k_h_bump hu3
  have hu5 := k_h_bump hu4
  have hu6 := k_h_bump hu5
  have hu7 := k_h_bump hu6
  have hu8 := k_h_bump hu7
  have hu9 := k_h_bump hu8
  have pg : z_pg B R L M 1 := ⟨Int.le_refl _, fun z => absurd m z⟩
  refine w229_269 hu.1 (A179 hu.1 hx (fun _ z => absurd m z) (fun _ _ => ⟨fun _ => ?_, fun y => absurd rfl y⟩) (fun q => absurd pg q))
  refine A181 hu1.1 hx (fun _ z => absurd m z) (fun _ _ => ⟨fun _ => ?_, fun y => absurd rfl y⟩) (fun q => absurd ⟨by decide, by decide⟩ q)
  refine A181 hu2.1 hx (fun q => absurd q (by decide)) (fun q => absurd q (by decide)) (fun _ => ⟨fun _ => ?_, fun y => absurd rfl y⟩)
  refine A182 hu3.1 hx (fun _ _ z => absurd m z) (fun _ _ _ => ⟨fun _ => ?_, fun y => absurd rfl y⟩) (fun _ q => absurd q (by decide)) (fun q => absurd ⟨by decide, by decide⟩ q)
  refine A182 hu4.1 hx (fun _ q => absurd q (by decide)) (fun _ q => absurd q (by decide)) (fun _ _ => ⟨fun _ => ?_, fun y => absurd rfl y⟩) (fun q => absurd ⟨by decide, by decide⟩ q)
  refine A183 hu5.1 hx (fun z => absurd m z) (fun _ => ⟨fun _ => ?_, fun y => absurd rfl y⟩)
  refine A184 hu6.1 hx (fun _ z => absurd m z) (fun _ _ => ⟨fun _ => ?_, fun y => absurd rfl y⟩) (fun q => absurd q (by decide))
  refine A184 hu7.1 hx (fun q => absurd q (by decide)) (fun q => absurd q (by decide)) (fun _ => ⟨fun _ => ?_, fun y => absurd rfl y⟩)
  refine A185 hu8.1 hx (fun z => absurd m z) (fun _ => ⟨fun _ => ?_, fun y => absurd rfl y⟩)
  refine A186n hu9.1 m (fun x hx' => ?_)
  rw [if_pos rfl] at hx'
  rw [hx']
  exact ⟨Or.inr rfl, H _ (k_h_bump hu9)⟩
theorem L229 {u : Nat} {h : qH} (hu : k_h u h) (hx : z_cx B en W R L M) (m : M 10 0 13 = 0) (h77 : M 77 0 0 = B 0 0) (H : ∀ h', k_h (u + 40) h' → f 1 h' M) : e229 (d + 8) h M f := by
  have hu1 := k_h_bump hu
  have hu2 := k_h_bump hu1
  have hu3 := k_h_bump hu2
  have hu4 := k_h_bump hu3
  have hu5 := k_h_bump hu4
  have hu6 := k_h_bump hu5
  have hu7 := k_h_bump hu6
  have hu8 := k_h_bump hu7
  have hu9 := k_h_bump hu8
  have hu10 := k_h_bump hu9
  have hu11 := k_h_bump hu10
  have hu12 := k_h_bump hu11
  have hu13 := k_h_bump hu12
  have hu14 := k_h_bump hu13
  have hu15 := k_h_bump hu14
  have hu16 := k_h_bump hu15
  have hu17 := k_h_bump hu16
  have hu18 := k_h_bump hu17
  have hu19 := k_h_bump hu18
  have hu20 := k_h_bump hu19
  have hu21 := k_h_bump hu20
  have hu22 := k_h_bump hu21
  have pg : z_pg B R L M 1 := ⟨Int.le_refl _, fun z => absurd m z⟩
  have pg0 : ¬ z_pg B R L M 0 := fun q => absurd q.1 (by decide)
  have c0 : (0 : Int) ≤ 0 ∧ (0 : Int) < 3 := by decide
  have rw9 : z_rw B R M 0 99 := ⟨c0, by decide, fun z => absurd m z⟩
  have b0 := ((hx.1.1.1).1 0 (by decide) (by decide)).1
  refine w229 hu.1 (w106 hu.1 ⟨Or.inl m, fun _ => ?_, fun y => absurd m y⟩)
  refine A160n hu.1 m ⟨fun _ => ?_, fun y => absurd rfl y⟩
  refine A169 hu1.1 hx (fun z => absurd m z) (fun _ => ⟨fun _ => ?_, fun y => absurd rfl y⟩)
  refine A168 hu2.1 (fun z => absurd m z) (fun _ => ⟨fun _ => ?_, fun y => absurd rfl y⟩)
  refine A170 hu3.1 hx (fun _ z => absurd m z) (fun _ _ => ⟨fun _ => ?_, fun y => absurd rfl y⟩) (fun q => absurd pg q)
  refine A170 hu4.1 hx (fun q => absurd q pg0) (fun q => absurd q pg0) (fun _ => ⟨fun _ => ?_, fun y => absurd rfl y⟩)
  refine A171 hu5.1 hx (fun _ z => absurd m z) (fun _ _ => ⟨fun _ => ?_, fun y => absurd rfl y⟩) (fun q => absurd c0 q)
  refine A171 hu6.1 hx (fun q => absurd q (by decide)) (fun q => absurd q (by decide)) (fun _ => ⟨fun _ => ?_, fun y => absurd rfl y⟩)
  refine A172 hu7.1 hx (fun _ z => absurd m z) (fun _ _ => ⟨fun _ => ?_, fun y => absurd rfl y⟩) (fun q => absurd rw9 q)
  refine A172 hu8.1 hx (fun q => absurd q.2.1 (by decide)) (fun q => absurd q.2.1 (by decide)) (fun _ => ⟨fun _ => ?_, fun y => absurd rfl y⟩)
  refine A173 hu9.1 hx (fun _ _ z => absurd m z) (fun _ _ _ => ⟨fun _ => ?_, fun y => absurd rfl y⟩) (fun _ q => absurd ⟨by decide, by decide⟩ q) (fun q => absurd pg q)
  refine A173 hu10.1 hx (fun _ q => absurd q (by decide)) (fun _ q => absurd q (by decide)) (fun _ _ => ⟨fun _ => ?_, fun y => absurd rfl y⟩) (fun q => absurd pg q)
  refine A173 hu11.1 hx (fun q => absurd q pg0) (fun q => absurd q pg0) (fun q => absurd q pg0) (fun _ => ⟨fun _ => ?_, fun y => absurd rfl y⟩)
  refine A174 hu12.1 hx (fun _ z => absurd m z) (fun _ _ => ⟨fun _ => ?_, fun y => absurd rfl y⟩) (fun q => absurd ⟨by decide, by decide⟩ q)
  refine A175n hu13.1 m (fun q => absurd q (by decide)) (fun _ => ⟨fun _ => ?_, fun y => absurd rfl y⟩)
  refine A175n hu14.1 m (fun _ => ⟨fun _ => ?_, fun y => absurd rfl y⟩) (fun q => absurd c0 q)
  refine A167 hu15.1 hx (fun _ z => absurd m z) (fun _ _ => ⟨fun _ => ?_, fun y => absurd rfl y⟩) (fun q => absurd ⟨by decide, by decide⟩ q)
  refine A176 hu16.1 hx (fun z => absurd m z) (fun _ => ⟨fun _ => ?_, fun y => absurd rfl y⟩)
  rw [h77]
  refine A164 hu17.1 hx (fun q => absurd q.2.2 (Int.lt_irrefl _)) (fun q => absurd q.2.2 (Int.lt_irrefl _)) (fun _ => ⟨fun _ => ?_, fun y => absurd rfl y⟩)
  refine ⟨fun _ => k_269 hu18 hx m (fun h' hu' => H h' (k_h_up hu' (by omega))), fun n0 => ?_⟩
  have cit : c_it B 0 0 := ⟨c0, Int.le_refl _, by omega⟩
  refine A164 hu18.1 hx (fun _ z => absurd m z) (fun _ _ => ⟨fun _ => ?_, fun y => absurd rfl y⟩) (fun q => absurd cit q)
  refine A165 hu19.1 hx (fun _ z => absurd m z) (fun _ _ => ⟨fun _ => ?_, fun y => absurd rfl y⟩) (fun q => absurd ⟨cit, by decide, fun z => absurd m z⟩ q)
  refine A165 hu20.1 hx (fun q => absurd q.2.1 (by decide)) (fun q => absurd q.2.1 (by decide)) (fun _ => ⟨fun _ => ?_, fun y => absurd rfl y⟩)
  refine A166 hu21.1 hx (fun _ z => absurd m z) (fun _ _ => ⟨fun _ => ?_, fun y => absurd rfl y⟩) (fun q => absurd cit q)
  exact k_269 hu22 hx m (fun h' hu' => H h' (k_h_up hu' (by omega)))
end
