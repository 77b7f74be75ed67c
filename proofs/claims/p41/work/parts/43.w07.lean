/-! ===== from cut to cut, by wip/p41/gen/genw.py: methods 123 to 265 ===== -/
theorem w123 {d : Nat} {h : qH} (hS : qSe h) {x1 : Int} {x2 : Int} {x3 : Int} {M : qM} {f : Int → qM → Prop} {g : Nat → qM → Prop} (H :
    e135 (d + 3) h x1 x2 x3 M (fun M102 => 
    e138 (d + 1) h  M102 (fun M105 => 
    ((M105 10 0 8 = 0 → False) ∧ (0 < M105 10 0 8 → e147 (d + 1) h x1 x2 x3 M105 (fun v111 M112 => 
      ((0 ≤ v111 ∧ v111 < 600) ∧ f (M112 25 (M105 10 0 8 - 1) v111) M112))) ∧ (M105 10 0 8 < 0 → False))) g) g) : e123 (d + 4) h x1 x2 x3 M f g :=
  qJ.body (Nat.le_of_ble_eq_true rfl) (qWq (fun pc => false) 300 (And.intro rfl (qZv.go H (qLq d rfl) (fun M102 h103 => (And.intro rfl (qZv.go h103 (qLq d rfl) (fun M105 h106 => (qAn3 h106 (fun h107 h108 h109 => And.intro (fun hc110 => (h107 hc110).elim) (And.intro (fun hc110 => (And.intro (hS.1 _ _ _ rfl) (And.intro rfl (qEi.go (h108 hc110) (qLq d rfl) (fun v111 M112 h113 => (qAn h113 (fun a114 h115 => And.intro a114 (Or.inl ⟨(M112 25 (M105 10 0 8 - 1) v111), M112, rfl, rfl, h115⟩)))))))) (fun hc110 => (h109 hc110).elim))))) (fun e117 M118 h116 => Or.inr ⟨e117, M118, rfl, rfl, h116⟩)))) (fun e120 M121 h119 => Or.inr ⟨e120, M121, rfl, rfl, h119⟩))))
theorem w124 {d : Nat} {h : qH} (hS : qSe h) {x1 : Int} {x2 : Int} {x3 : Int} {M : qM} {f : Int → qM → Prop} {g : Nat → qM → Prop} (H :
    e135 (d + 3) h x1 x2 x3 M (fun M102 => 
    e138 (d + 1) h  M102 (fun M105 => 
    ((M105 10 0 8 = 0 → False) ∧ (0 < M105 10 0 8 → e147 (d + 1) h x1 x2 x3 M105 (fun v111 M112 => 
      ((0 ≤ v111 ∧ v111 < 600) ∧ f (M112 26 (M105 10 0 8 - 1) v111) M112))) ∧ (M105 10 0 8 < 0 → False))) g) g) : e124 (d + 4) h x1 x2 x3 M f g :=
  qJ.body (Nat.le_of_ble_eq_true rfl) (qWq (fun pc => false) 300 (And.intro rfl (qZv.go H (qLq d rfl) (fun M102 h103 => (And.intro rfl (qZv.go h103 (qLq d rfl) (fun M105 h106 => (qAn3 h106 (fun h107 h108 h109 => And.intro (fun hc110 => (h107 hc110).elim) (And.intro (fun hc110 => (And.intro (hS.1 _ _ _ rfl) (And.intro rfl (qEi.go (h108 hc110) (qLq d rfl) (fun v111 M112 h113 => (qAn h113 (fun a114 h115 => And.intro a114 (Or.inl ⟨(M112 26 (M105 10 0 8 - 1) v111), M112, rfl, rfl, h115⟩)))))))) (fun hc110 => (h109 hc110).elim))))) (fun e117 M118 h116 => Or.inr ⟨e117, M118, rfl, rfl, h116⟩)))) (fun e120 M121 h119 => Or.inr ⟨e120, M121, rfl, rfl, h119⟩))))
theorem w125 {d : Nat} {h : qH} (hS : qSe h) {x1 : Int} {x2 : Int} {M : qM} {f : Int → qM → Prop} {g : Nat → qM → Prop} (H :
    e137 (d + 1) h x1 M (fun M102 => 
    e138 (d + 1) h  M102 (fun M105 => 
    ((M105 10 0 8 = 0 → False) ∧ (0 < M105 10 0 8 → e27 (d + 1) h (M105 10 0 8 - 1) x1 M105 (fun v111 M112 => 
      ((v111 < 3 →
      ((M112 10 0 8 = 0 → False) ∧ (0 < M112 10 0 8 → e28 (d + 2) h (M112 10 0 8 - 1) v111 x1 x2 M112 (fun v121 M122 => 
          f v121 M122)) ∧ (M112 10 0 8 < 0 → False))) ∧
      (¬ (v111 < 3) →
      f (-1) M112)))) ∧ (M105 10 0 8 < 0 → False))) g) g) : e125 (d + 3) h x1 x2 M f g :=
  qJ.body (Nat.le_of_ble_eq_true rfl) (qWq (fun pc => false) 300 (And.intro rfl (qZv.go H (qLq d rfl) (fun M102 h103 => (And.intro rfl (qZv.go h103 (qLq d rfl) (fun M105 h106 => (qAn3 h106 (fun h107 h108 h109 => And.intro (fun hc110 => (h107 hc110).elim) (And.intro (fun hc110 => (And.intro rfl (qEi.go (h108 hc110) (qLq d rfl) (fun v111 M112 h113 => (qAn h113 (fun h114 h115 => And.intro (fun hc116 => (qAn3 (h114 hc116) (fun h117 h118 h119 => And.intro (fun hc120 => (h117 hc120).elim) (And.intro (fun hc120 => (And.intro rfl (qEi.go (h118 hc120) (qLq d rfl) (fun v121 M122 h123 => (Or.inl ⟨v121, M122, rfl, rfl, h123⟩))))) (fun hc120 => (h119 hc120).elim))))) (fun hc116 => (Or.inl ⟨(-1), M112, rfl, rfl, (h115 hc116)⟩)))))))) (fun hc110 => (h109 hc110).elim))))) (fun e125 M126 h124 => Or.inr ⟨e125, M126, rfl, rfl, h124⟩)))) (fun e128 M129 h127 => Or.inr ⟨e128, M129, rfl, rfl, h127⟩))))
theorem w126 {d : Nat} {h : qH} (hS : qSe h) {x1 : Int} {x2 : Int} {x3 : Int} {M : qM} {f : Int → qM → Prop} {g : Nat → qM → Prop} (H :
    e135 (d + 3) h x1 x2 x3 M (fun M102 => 
    e138 (d + 1) h  M102 (fun M105 => 
    e147 (d + 1) h x1 x2 x3 M105 (fun v107 M108 => 
    ((0 ≤ v107 ∧ v107 < 600) ∧ f (M108 38 0 v107) M108))) g) g) : e126 (d + 4) h x1 x2 x3 M f g :=
  qJ.body (Nat.le_of_ble_eq_true rfl) (qWq (fun pc => false) 300 (And.intro rfl (qZv.go H (qLq d rfl) (fun M102 h103 => (And.intro rfl (qZv.go h103 (qLq d rfl) (fun M105 h106 => (And.intro (hS.1 _ _ _ rfl) (And.intro (hS.1 _ _ _ rfl) (And.intro rfl (qEi.go h106 (qLq d rfl) (fun v107 M108 h109 => (qAn h109 (fun a110 h111 => And.intro a110 (Or.inl ⟨(M108 38 0 v107), M108, rfl, rfl, h111⟩))))))))) (fun e113 M114 h112 => Or.inr ⟨e113, M114, rfl, rfl, h112⟩)))) (fun e116 M117 h115 => Or.inr ⟨e116, M117, rfl, rfl, h115⟩))))
theorem w127 {d : Nat} {h : qH} (hS : qSe h) {x1 : Int} {M : qM} {f : Int → qM → Prop} {g : Nat → qM → Prop} (H :
    e136 (d + 2) h x1 M (fun M102 => 
    e138 (d + 1) h  M102 (fun M105 => 
    ((0 ≤ x1 ∧ x1 < 10) ∧ f (M105 27 0 x1) M105)) g) g) : e127 (d + 3) h x1 M f g :=
  qJ.body (Nat.le_of_ble_eq_true rfl) (qWq (fun pc => false) 300 (And.intro rfl (qZv.go H (qLq d rfl) (fun M102 h103 => (And.intro rfl (qZv.go h103 (qLq d rfl) (fun M105 h106 => (And.intro (hS.1 _ _ _ rfl) (And.intro (hS.1 _ _ _ rfl) (qAn h106 (fun a107 h108 => And.intro a107 (Or.inl ⟨(M105 27 0 x1), M105, rfl, rfl, h108⟩)))))) (fun e110 M111 h109 => Or.inr ⟨e110, M111, rfl, rfl, h109⟩)))) (fun e113 M114 h112 => Or.inr ⟨e113, M114, rfl, rfl, h112⟩))))
theorem w128 {d : Nat} {h : qH} (hS : qSe h) {x1 : Int} {x2 : Int} {x3 : Int} {M : qM} {f : Int → qM → Prop} {g : Nat → qM → Prop} (H :
    e136 (d + 2) h x1 M (fun M102 => 
    ((x2 < 0 →
    g 0 M102) ∧
    (¬ (x2 < 0) →
    e138 (d + 1) h  M102 (fun M108 => 
      ((0 ≤ x1 ∧ x1 < 10) ∧ ((x2 < (M108 27 0 x1) →
      (((x3 = 0 → ((0 ≤ x1 ∧ x1 < 10) ∧ (0 ≤ x2 ∧ x2 < 180))) ∧ (¬ (x3 = 0) → ((0 ≤ x1 ∧ x1 < 10) ∧ (0 ≤ x2 ∧ x2 < 180)))) ∧
        (∀ x115 : Int, x115 = (if x3 = 0 then (M108 29 x1 x2) else (M108 31 x1 x2)) → f x115 M108))) ∧
      (¬ (x2 < (M108 27 0 x1)) →
      f (-1) M108)))) g))) g) : e128 (d + 3) h x1 x2 x3 M f g :=
  qJ.body (Nat.le_of_ble_eq_true rfl) (qWq (fun pc => Nat.beq pc 68) 300 (And.intro rfl (qZv.go H (qLq d rfl) (fun M102 h103 => (qAn h103 (fun h104 h105 => And.intro (fun hc106 => (Or.inr ⟨0, M102, rfl, rfl, (h104 hc106)⟩)) (fun hc106 => (And.intro rfl (qZv.go (h105 hc106) (qLq d rfl) (fun M108 h109 => (And.intro (hS.1 _ _ _ rfl) (And.intro (hS.1 _ _ _ rfl) (qAn h109 (fun a110 h111 => And.intro a110 (qAn h111 (fun h112 h113 => And.intro (fun hc114 => (qAn (h112 hc114) (fun h118 h119 => (have k117 : ∀ (x115 : Int), f x115 M108 → qG (d + 2) (-1, fun _ => 0) (qP 128) (qZi h f g) 68 [.inr (.inl (some (10, 0))), .inl x1, .inl x2, .inl x3] [.inl x115] (h, M108) := fun x115 h116 => qWq (fun pc => Nat.beq pc 68) 300 (Or.inl ⟨x115, M108, rfl, rfl, h116⟩); (And.intro (fun hc120 => (And.intro (hS.1 _ _ _ rfl) (And.intro (hS.1 _ _ _ rfl) (And.intro ⟨(h118.1 hc120).1.1, (h118.1 hc120).1.2, hS.2 _ _ _ rfl (h118.1 hc120).1.1 (h118.1 hc120).1.2⟩ (And.intro (h118.1 hc120).2 (k117 (M108 29 x1 x2) (h119 (M108 29 x1 x2) (if_pos hc120).symm))))))) (fun hc120 => (And.intro (hS.1 _ _ _ rfl) (And.intro (hS.1 _ _ _ rfl) (And.intro ⟨(h118.2 hc120).1.1, (h118.2 hc120).1.2, hS.2 _ _ _ rfl (h118.2 hc120).1.1 (h118.2 hc120).1.2⟩ (And.intro (h118.2 hc120).2 (k117 (M108 31 x1 x2) (h119 (M108 31 x1 x2) (if_neg hc120).symm)))))))))))) (fun hc114 => (Or.inl ⟨(-1), M108, rfl, rfl, (h113 hc114)⟩))))))))) (fun e122 M123 h121 => Or.inr ⟨e122, M123, rfl, rfl, h121⟩))))))) (fun e125 M126 h124 => Or.inr ⟨e125, M126, rfl, rfl, h124⟩))))
theorem w129 {d : Nat} {h : qH} (hS : qSe h)  {M : qM} {f : Int → qM → Prop} {g : Nat → qM → Prop} (H :
    e138 (d + 1) h  M (fun M102 => 
    f (M102 4 0 3) M102) g) : e129 (d + 2) h  M f g :=
  qJ.body (Nat.le_of_ble_eq_true rfl) (qWq (fun pc => false) 300 (And.intro rfl (qZv.go H (qLq d rfl) (fun M102 h103 => (And.intro (hS.1 _ _ _ rfl) (Or.inl ⟨(M102 4 0 3), M102, rfl, rfl, h103⟩))) (fun e105 M106 h104 => Or.inr ⟨e105, M106, rfl, rfl, h104⟩))))
theorem w130 {d : Nat} {h : qH} (hS : qSe h) {x1 : Int} {M : qM} {f : Int → qM → Prop} {g : Nat → qM → Prop} (H :
    ((x1 < 0 →
    g 0 M) ∧
    (¬ (x1 < 0) →
    e138 (d + 1) h  M (fun M105 => 
      ((x1 < (M105 4 0 3) →
      ((M105 10 0 8 = 0 → False) ∧ (0 < M105 10 0 8 → (qIn ((M105 3 (M105 10 0 8 - 1) 4) + 1) ∧ e41 (d + 1) h x1 M105 (fun v116 M117 => 
          (qIn (((M105 3 (M105 10 0 8 - 1) 4) + 1) + v116) ∧ (qIn (10 * (((M105 3 (M105 10 0 8 - 1) 4) + 1) + v116)) ∧ e42 (d + 2) h x1 M117 (fun v123 M124 => 
          (qIn ((10 * (((M105 3 (M105 10 0 8 - 1) 4) + 1) + v116)) + v123) ∧ f ((10 * (((M105 3 (M105 10 0 8 - 1) 4) + 1) + v116)) + v123) M124))))))) ∧ (M105 10 0 8 < 0 → False))) ∧
      (¬ (x1 < (M105 4 0 3)) →
      f (-1) M105))) g))) : e130 (d + 3) h x1 M f g :=
  qJ.body (Nat.le_of_ble_eq_true rfl) (qWq (fun pc => false) 300 (qAn H (fun h101 h102 => And.intro (fun hc103 => (Or.inr ⟨0, M, rfl, rfl, (h101 hc103)⟩)) (fun hc103 => (And.intro rfl (qZv.go (h102 hc103) (qLq d rfl) (fun M105 h106 => (And.intro (hS.1 _ _ _ rfl) (qAn h106 (fun h107 h108 => And.intro (fun hc109 => (qAn3 (h107 hc109) (fun h110 h111 h112 => And.intro (fun hc113 => (h110 hc113).elim) (And.intro (fun hc113 => (qAn (h111 hc113) (fun a114 h115 => And.intro a114 (And.intro (hS.1 _ _ _ rfl) (And.intro rfl (qEi.go h115 (qLq d rfl) (fun v116 M117 h118 => (qAn h118 (fun a119 h120 => And.intro a119 (qAn h120 (fun a121 h122 => And.intro a121 (And.intro (hS.1 _ _ _ rfl) (And.intro rfl (qEi.go h122 (qLq d rfl) (fun v123 M124 h125 => (qAn h125 (fun a126 h127 => And.intro a126 (Or.inl ⟨((10 * (((M105 3 (M105 10 0 8 - 1) 4) + 1) + v116)) + v123), M124, rfl, rfl, h127⟩)))))))))))))))))) (fun hc113 => (h112 hc113).elim))))) (fun hc109 => (Or.inl ⟨(-1), M105, rfl, rfl, (h108 hc109)⟩)))))) (fun e129 M130 h128 => Or.inr ⟨e129, M130, rfl, rfl, h128⟩)))))))
theorem w131 {d : Nat} {h : qH} (hS : qSe h)  {M : qM} {f : Int → qM → Prop} {g : Nat → qM → Prop} (H :
    e138 (d + 1) h  M (fun M102 => 
    ((M102 10 0 8 = 0 → False) ∧ (0 < M102 10 0 8 → e144 (d + 1) h (M102 3 (M102 10 0 8 - 1) 5) M102 (fun v108 M109 => 
      f v108 M109)) ∧ (M102 10 0 8 < 0 → False))) g) : e131 (d + 2) h  M f g :=
  qJ.body (Nat.le_of_ble_eq_true rfl) (qWq (fun pc => false) 300 (And.intro rfl (qZv.go H (qLq d rfl) (fun M102 h103 => (qAn3 h103 (fun h104 h105 h106 => And.intro (fun hc107 => (h104 hc107).elim) (And.intro (fun hc107 => (And.intro rfl (qEi.go (h105 hc107) (qLq d rfl) (fun v108 M109 h110 => (Or.inl ⟨v108, M109, rfl, rfl, h110⟩))))) (fun hc107 => (h106 hc107).elim))))) (fun e112 M113 h111 => Or.inr ⟨e112, M113, rfl, rfl, h111⟩))))
theorem w132_38 {d : Nat} {h : qH} (hS : qSe h) {f : Int → qM → Prop} {g : Nat → qM → Prop} {x1 : Int} {x2 : Int} {x3 : Int} {M : qM} (H :
    ((x3 < x1 →
    e143 (d + 5) h x3 M (fun v104 M105 => 
      ((¬ (v104 = 0) → qIn (x2 + 1)) ∧
      (∀ x107 : Int, x107 = (if v104 = 0 then x2 else (x2 + 1)) → (qIn (x3 + 1) ∧ b132_38 d h f g x1 x107 (x3 + 1) M105))))) ∧
    (¬ (x3 < x1) →
    f x2 M))) : b132_38 d h f g x1 x2 x3 M :=
  qWq (fun pc => Nat.beq pc 38 || Nat.beq pc 54) 300 (qAn H (fun h101 h102 => And.intro (fun hc103 => (And.intro rfl (qEi.go (h101 hc103) (qLq d rfl) (fun v104 M105 h106 => (qAn h106 (fun h112 h113 => (have k111 : ∀ (x107 : Int), (qIn (x3 + 1) ∧ b132_38 d h f g x1 x107 (x3 + 1) M105) → qG (d + 5) (-1, fun _ => 0) (qP 132) (qZi h f g) 54 [.inr (.inl (some (10, 0))), .inl x1, .inl x107, .inl x3] [] (h, M105) := fun x107 h108 => qWq (fun pc => Nat.beq pc 38 || Nat.beq pc 54) 300 (qAn h108 (fun a109 h110 => And.intro a109 h110)); (And.intro (fun hc114 => (k111 x2 (h113 x2 (if_pos hc114).symm))) (fun hc114 => (And.intro (h112 hc114) (k111 (x2 + 1) (h113 (x2 + 1) (if_neg hc114).symm)))))))))))) (fun hc103 => (Or.inl ⟨x2, M, rfl, rfl, (h102 hc103)⟩))))
theorem w132 {d : Nat} {h : qH} (hS : qSe h)  {M : qM} {f : Int → qM → Prop} {g : Nat → qM → Prop} (H :
    e138 (d + 1) h  M (fun M102 => 
    ((M102 10 0 9 = 0 → f 0 M102) ∧ (0 < M102 10 0 9 → ((M102 10 0 8 = 0 → False) ∧ (0 < M102 10 0 8 → ((M102 10 0 9 = 0 → False) ∧ (0 < M102 10 0 9 → e264 (d + 1) h (M102 3 (M102 10 0 8 - 1) 5) (M102 3 (M102 10 0 9 - 1) 5) M102 (fun v117 M118 => 
            e144 (d + 1) h v117 M118 (fun v120 M121 => 
            b132_38 d h f g v120 0 0 M121))) ∧ (M102 10 0 9 < 0 → False))) ∧ (M102 10 0 8 < 0 → False))) ∧ (M102 10 0 9 < 0 → ((M102 10 0 8 = 0 → False) ∧ (0 < M102 10 0 8 → ((M102 10 0 9 = 0 → False) ∧ (0 < M102 10 0 9 → e264 (d + 1) h (M102 3 (M102 10 0 8 - 1) 5) (M102 3 (M102 10 0 9 - 1) 5) M102 (fun v132 M133 => 
            e144 (d + 1) h v132 M133 (fun v135 M136 => 
            b132_38 d h f g v135 0 0 M136))) ∧ (M102 10 0 9 < 0 → False))) ∧ (M102 10 0 8 < 0 → False))))) g) : e132 (d + 6) h  M f g :=
  qJ.body (Nat.le_of_ble_eq_true rfl) (qWq (fun pc => Nat.beq pc 38) 300 (And.intro rfl (qZv.go H (qLq d rfl) (fun M102 h103 => (qAn3 h103 (fun h104 h105 h106 => And.intro (fun hc107 => (And.intro (fun _ => (Or.inl ⟨0, M102, rfl, rfl, (h104 hc107)⟩)) (fun hc108 => absurd rfl hc108))) (And.intro (fun hc107 => (And.intro (fun hc123 => (nomatch hc123)) (fun _ => (qAn3 (h105 hc107) (fun h109 h110 h111 => And.intro (fun hc112 => (h109 hc112).elim) (And.intro (fun hc112 => (qAn3 (h110 hc112) (fun h113 h114 h115 => And.intro (fun hc116 => (h113 hc116).elim) (And.intro (fun hc116 => (And.intro rfl (qEi.go (h114 hc116) (qLq d rfl) (fun v117 M118 h119 => (And.intro rfl (qEi.go h119 (qLq d rfl) (fun v120 M121 h122 => h122))))))) (fun hc116 => (h115 hc116).elim))))) (fun hc112 => (h111 hc112).elim))))))) (fun hc107 => (And.intro (fun hc138 => (nomatch hc138)) (fun _ => (qAn3 (h106 hc107) (fun h124 h125 h126 => And.intro (fun hc127 => (h124 hc127).elim) (And.intro (fun hc127 => (qAn3 (h125 hc127) (fun h128 h129 h130 => And.intro (fun hc131 => (h128 hc131).elim) (And.intro (fun hc131 => (And.intro rfl (qEi.go (h129 hc131) (qLq d rfl) (fun v132 M133 h134 => (And.intro rfl (qEi.go h134 (qLq d rfl) (fun v135 M136 h137 => h137))))))) (fun hc131 => (h130 hc131).elim))))) (fun hc127 => (h126 hc127).elim))))))))))) (fun e140 M141 h139 => Or.inr ⟨e140, M141, rfl, rfl, h139⟩))))
theorem w133_9 {d : Nat} {h : qH} (hS : qSe h) {f : qM → Prop} {g : Nat → qM → Prop} {u0 : qV} {u1 : qV} {M : qM} (H :
    g 2 M) : b133_9 d h f g u0 u1 M :=
  qWq (fun pc => Nat.beq pc 9) 300 (Or.inr ⟨2, M, rfl, rfl, H⟩)
theorem w133 {d : Nat} {h : qH} (hS : qSe h) {x1 : Int} {M : qM} {f : qM → Prop} {g : Nat → qM → Prop} (H :
    ((x1 < 0 →
    b133_9 d h f g (.inr (.inl (some (10, 0)))) (.inl x1) M) ∧
    (¬ (x1 < 0) →
    ((x1 < 3 →
      f M) ∧
      (¬ (x1 < 3) →
      b133_9 d h f g (.inr (.inl (some (10, 0)))) (.inl x1) M))))) : e133 (d + 1) h x1 M f g :=
  qJ.body (Nat.le_of_ble_eq_true rfl) (qWq (fun pc => Nat.beq pc 9) 300 (qAn H (fun h101 h102 => And.intro (fun hc103 => (h101 hc103)) (fun hc103 => (qAn (h102 hc103) (fun h104 h105 => And.intro (fun hc106 => (And.intro rfl (Or.inl ⟨M, rfl, rfl, (h104 hc106)⟩))) (fun hc106 => (h105 hc106))))))))
theorem w134_22 {d : Nat} {h : qH} (hS : qSe h) {f : Int → qM → Prop} {g : Nat → qM → Prop} {u0 : qV} {u1 : qV} {u2 : qV} {M : qM} (H :
    g 2 M) : b134_22 d h f g u0 u1 u2 M :=
  qWq (fun pc => Nat.beq pc 22) 300 (Or.inr ⟨2, M, rfl, rfl, H⟩)
theorem w134 {d : Nat} {h : qH} (hS : qSe h) {x1 : Int} {x2 : Int} {M : qM} {f : Int → qM → Prop} {g : Nat → qM → Prop} (H :
    e133 (d + 1) h x1 M (fun M102 => 
    ((x2 < 0 →
    b134_22 d h f g (.inr (.inl (some (10, 0)))) (.inl x1) (.inl x2) M102) ∧
    (¬ (x2 < 0) →
    ((0 ≤ x1 ∧ x1 < 3) ∧ ((x2 < (M102 1 x1 1) →
      ((0 ≤ x1 ∧ x1 < 3) ∧ ((0 ≤ x2 ∧ x2 < 10) ∧ f (1 + 10 * x1 + x2) M102))) ∧
      (¬ (x2 < (M102 1 x1 1)) →
      b134_22 d h f g (.inr (.inl (some (10, 0)))) (.inl x1) (.inl x2) M102)))))) g) : e134 (d + 2) h x1 x2 M f g :=
  qJ.body (Nat.le_of_ble_eq_true rfl) (qWq (fun pc => Nat.beq pc 22) 300 (And.intro rfl (qZv.go H (qLq d rfl) (fun M102 h103 => (qAn h103 (fun h104 h105 => And.intro (fun hc106 => (h104 hc106)) (fun hc106 => (And.intro (hS.1 _ _ _ rfl) (qAn (h105 hc106) (fun a107 h108 => And.intro ⟨a107.1, a107.2, hS.2 _ _ _ rfl a107.1 a107.2⟩ (qAn h108 (fun h109 h110 => And.intro (fun hc111 => (And.intro (hS.1 _ _ _ rfl) (qAn (h109 hc111) (fun a112 h113 => And.intro ⟨a112.1, a112.2, hS.2 _ _ _ rfl a112.1 a112.2⟩ (And.intro (hS.1 _ _ _ rfl) (qAn h113 (fun a114 h115 => And.intro ⟨a114.1, a114.2, hS.2 _ _ _ rfl a114.1 a114.2⟩ (And.intro rfl (Or.inl ⟨(1 + 10 * x1 + x2), M102, rfl, rfl, h115⟩))))))))) (fun hc111 => (h110 hc111))))))))))) (fun e117 M118 h116 => Or.inr ⟨e117, M118, rfl, rfl, h116⟩))))
theorem w135_21 {d : Nat} {h : qH} (hS : qSe h) {f : qM → Prop} {g : Nat → qM → Prop} {u0 : qV} {u1 : qV} {u2 : qV} {u3 : qV} {u4 : qV} {M : qM} (H :
    g 2 M) : b135_21 d h f g u0 u1 u2 u3 u4 M :=
  qWq (fun pc => Nat.beq pc 21) 300 (Or.inr ⟨2, M, rfl, rfl, H⟩)
theorem w135 {d : Nat} {h : qH} (hS : qSe h) {x1 : Int} {x2 : Int} {x3 : Int} {M : qM} {f : qM → Prop} {g : Nat → qM → Prop} (H :
    e134 (d + 2) h x1 x2 M (fun v101 M102 => 
    ((x3 < 0 →
    b135_21 d h f g (.inr (.inl (some (10, 0)))) (.inl x1) (.inl x2) (.inl x3) (.inr (.inl (some (5, v101)))) M102) ∧
    (¬ (x3 < 0) →
    ((x3 < (M102 5 v101 2) →
      f M102) ∧
      (¬ (x3 < (M102 5 v101 2)) →
      b135_21 d h f g (.inr (.inl (some (10, 0)))) (.inl x1) (.inl x2) (.inl x3) (.inr (.inl (some (5, v101)))) M102))))) g) : e135 (d + 3) h x1 x2 x3 M f g :=
  qJ.body (Nat.le_of_ble_eq_true rfl) (qWq (fun pc => Nat.beq pc 21) 300 (And.intro rfl (qZr.go H (qLq d rfl) (fun v101 M102 h103 => (qAn h103 (fun h104 h105 => And.intro (fun hc106 => (h104 hc106)) (fun hc106 => (qAn (h105 hc106) (fun h107 h108 => And.intro (fun hc109 => (And.intro rfl (Or.inl ⟨M102, rfl, rfl, (h107 hc109)⟩))) (fun hc109 => (h108 hc109)))))))) (fun e111 M112 h110 => Or.inr ⟨e111, M112, rfl, rfl, h110⟩))))
theorem w136 {d : Nat} {h : qH} (hS : qSe h) {x1 : Int} {M : qM} {f : qM → Prop} {g : Nat → qM → Prop} (H :
    e145 (d + 1) h x1 M (fun v101 M102 => 
    ((v101 = 0 →
    g 2 M102) ∧
    (¬ (v101 = 0) →
    f M102)))) : e136 (d + 2) h x1 M f g :=
  qJ.body (Nat.le_of_ble_eq_true rfl) (qWq (fun pc => false) 300 (And.intro rfl (qEi.go H (qLq d rfl) (fun v101 M102 h103 => (qAn h103 (fun h104 h105 => And.intro (fun hc106 => (Or.inr ⟨2, M102, rfl, rfl, (h104 hc106)⟩)) (fun hc106 => (And.intro rfl (Or.inl ⟨M102, rfl, rfl, (h105 hc106)⟩)))))))))
theorem w137_23 {d : Nat} {h : qH} (hS : qSe h) {f : qM → Prop} {g : Nat → qM → Prop} {u0 : qV} {u1 : qV} {M : qM} (H :
    g 2 M) : b137_23 d h f g u0 u1 M :=
  qWq (fun pc => Nat.beq pc 23) 300 (Or.inr ⟨2, M, rfl, rfl, H⟩)
theorem w137 {d : Nat} {h : qH} (hS : qSe h) {x1 : Int} {M : qM} {f : qM → Prop} {g : Nat → qM → Prop} (H :
    ((x1 < 1 →
    b137_23 d h f g (.inr (.inl (some (10, 0)))) (.inl x1) M) ∧
    (¬ (x1 < 1) →
    (((M 10 0 13) = 0 →
      f M) ∧
      (¬ ((M 10 0 13) = 0) →
      ((M 10 0 8 = 0 → False) ∧ (0 < M 10 0 8 → ((x1 ≤ (M 3 (M 10 0 8 - 1) 5) →
          f M) ∧
          (¬ (x1 ≤ (M 3 (M 10 0 8 - 1) 5)) →
          b137_23 d h f g (.inr (.inl (some (10, 0)))) (.inl x1) M))) ∧ (M 10 0 8 < 0 → False))))))) : e137 (d + 1) h x1 M f g :=
  qJ.body (Nat.le_of_ble_eq_true rfl) (qWq (fun pc => Nat.beq pc 23) 300 (qAn H (fun h101 h102 => And.intro (fun hc103 => (h101 hc103)) (fun hc103 => (qAn (h102 hc103) (fun h104 h105 => And.intro (fun hc106 => (And.intro rfl (Or.inl ⟨M, rfl, rfl, (h104 hc106)⟩))) (fun hc106 => (qAn3 (h105 hc106) (fun h107 h108 h109 => And.intro (fun hc110 => (h107 hc110).elim) (And.intro (fun hc110 => (qAn (h108 hc110) (fun h111 h112 => And.intro (fun hc113 => (And.intro rfl (Or.inl ⟨M, rfl, rfl, (h111 hc113)⟩))) (fun hc113 => (h112 hc113))))) (fun hc110 => (h109 hc110).elim)))))))))))
theorem w138 {d : Nat} {h : qH} (hS : qSe h)  {M : qM} {f : qM → Prop} {g : Nat → qM → Prop} (H :
    (((M 10 0 13) = 0 →
    g 1 M) ∧
    (¬ ((M 10 0 13) = 0) →
    f M))) : e138 (d + 1) h  M f g :=
  qJ.body (Nat.le_of_ble_eq_true rfl) (qWq (fun pc => false) 300 (qAn H (fun h101 h102 => And.intro (fun hc103 => (Or.inr ⟨1, M, rfl, rfl, (h101 hc103)⟩)) (fun hc103 => (And.intro rfl (Or.inl ⟨M, rfl, rfl, (h102 hc103)⟩))))))
theorem w139 {d : Nat} {h : qH} (hS : qSe h) {x1 : Int} {x2 : Int} {x3 : Int} {M : qM} {f : Int → qM → Prop} {g : Nat → qM → Prop} (H :
    (((M 5 0 2) < 20 →
    e44 (d + 1) h 0 x1 x2 x3 M (fun M105 => 
      f (M105 5 0 2) M105)) ∧
    (¬ ((M 5 0 2) < 20) →
    g 1 M))) : e139 (d + 2) h x1 x2 x3 M f g :=
  qJ.body (Nat.le_of_ble_eq_true rfl) (qWq (fun pc => false) 300 (And.intro (hS.1 _ _ _ rfl) (qAn H (fun h101 h102 => And.intro (fun hc103 => (And.intro (hS.1 _ _ _ rfl) (And.intro rfl (qEv.go (h101 hc103) (qLq d rfl) (fun M105 h106 => (And.intro (hS.1 _ _ _ rfl) (Or.inl ⟨(M105 5 0 2), M105, rfl, rfl, h106⟩))))))) (fun hc103 => (Or.inr ⟨1, M, rfl, rfl, (h102 hc103)⟩))))))
theorem w140 {d : Nat} {h : qH} (hS : qSe h) {x1 : Int} {M : qM} {f : Int → qM → Prop} (H :
    ((0 ≤ (M 1 x1 1) ∧ (M 1 x1 1) < 10) ∧ (qIn ((M 1 x1 1) + 1) ∧ (∀ M105, M105 = qU M 1 x1 1 ((M 1 x1 1) + 1) → (qIn ((M105 10 0 14) + 1) ∧ (∀ M108, M108 = qU M105 10 0 14 ((M105 10 0 14) + 1) → (∀ M109, M109 = qU M108 5 (1 + 10 * x1 + (M 1 x1 1)) 3 (M108 10 0 14) → (∀ M110, M110 = qU M109 10 0 13 0 → f (1 + 10 * x1 + (M 1 x1 1)) M110)))))))) : e140 (d + 1) h x1 M f :=
  qJ.body (Nat.le_of_ble_eq_true rfl) (qWq (fun pc => false) 300 (And.intro (hS.1 _ _ _ rfl) (qAn H (fun a101 h102 => And.intro ⟨a101.1, a101.2, hS.2 _ _ _ rfl a101.1 a101.2⟩ (qAn h102 (fun a103 h104 => And.intro a103 (qAn (h104 _ rfl) (fun a106 h107 => And.intro a106 (And.intro (Or.inl rfl) (And.intro rfl ⟨(1 + 10 * x1 + (M 1 x1 1)), (qU (qU (qU (qU M 1 x1 1 ((M 1 x1 1) + 1)) 10 0 14 (((qU M 1 x1 1 ((M 1 x1 1) + 1)) 10 0 14) + 1)) 5 (1 + 10 * x1 + (M 1 x1 1)) 3 ((qU (qU M 1 x1 1 ((M 1 x1 1) + 1)) 10 0 14 (((qU M 1 x1 1 ((M 1 x1 1) + 1)) 10 0 14) + 1)) 10 0 14)) 10 0 13 0), rfl, rfl, (((h107 _ rfl) _ rfl) _ rfl)⟩))))))))))
theorem w141 {d : Nat} {h : qH} (hS : qSe h) {x1 : Int} {x2 : Int} {M : qM} {f : Int → qM → Prop} (H :
    ((0 ≤ x1 ∧ x1 < 3) ∧ (((M 5 0 2) ≤ 0 →
    f 0 M) ∧
    (¬ ((M 5 0 2) ≤ 0) →
    e6 (d + 1) h x1 x2 M (fun v106 M107 => 
      (qIn (v106 + (M107 5 0 2)) ∧ (((v106 + (M107 5 0 2)) ≤ 60 →
      e7 (d + 2) h x1 2 x2 M107 (fun v114 M115 => 
        e48 (d + 1) h 0 2 M115 (fun v117 M118 => 
        (qIn (v114 + v117) ∧ (((v114 + v117) ≤ 12 →
        e7 (d + 2) h x1 3 x2 M118 (fun v125 M126 => 
          e48 (d + 1) h 0 3 M126 (fun v128 M129 => 
          (qIn (v125 + v128) ∧ (((v125 + v128) ≤ 4 →
          e142 (d + 3) h x1 x2 M129 (fun v136 M137 => 
            (∀ x139 : Int, x139 = (if v136 = 0 then 1 else 0) → ((x139 = 0 ∨ x139 = 1) ∧ f x139 M137)))) ∧
          (¬ ((v125 + v128) ≤ 4) →
          f 0 M129)))))) ∧
        (¬ ((v114 + v117) ≤ 12) →
        f 0 M118)))))) ∧
      (¬ ((v106 + (M107 5 0 2)) ≤ 60) →
      f 0 M107)))))))) : e141 (d + 4) h x1 x2 M f :=
  qJ.body (Nat.le_of_ble_eq_true rfl) (qWq (fun pc => Nat.beq pc 88) 300 (And.intro (hS.1 _ _ _ rfl) (qAn H (fun a101 h102 => And.intro ⟨a101.1, a101.2, hS.2 _ _ _ rfl a101.1 a101.2⟩ (And.intro (hS.1 _ _ _ rfl) (qAn h102 (fun h103 h104 => And.intro (fun hc105 => (qWq (fun pc => Nat.beq pc 88) 300 (And.intro ⟨rfl, (Or.inl rfl)⟩ ⟨0, M, rfl, rfl, (h103 hc105)⟩))) (fun hc105 => (And.intro rfl (qEi.go (h104 hc105) (qLq d rfl) (fun v106 M107 h108 => (And.intro (hS.1 _ _ _ rfl) (qAn h108 (fun a109 h110 => And.intro a109 (qAn h110 (fun h111 h112 => And.intro (fun hc113 => (And.intro rfl (qEi.go (h111 hc113) (qLq d rfl) (fun v114 M115 h116 => (And.intro (hS.1 _ _ _ rfl) (And.intro rfl (qEi.go h116 (qLq d rfl) (fun v117 M118 h119 => (qAn h119 (fun a120 h121 => And.intro a120 (qAn h121 (fun h122 h123 => And.intro (fun hc124 => (And.intro rfl (qEi.go (h122 hc124) (qLq d rfl) (fun v125 M126 h127 => (And.intro (hS.1 _ _ _ rfl) (And.intro rfl (qEi.go h127 (qLq d rfl) (fun v128 M129 h130 => (qAn h130 (fun a131 h132 => And.intro a131 (qAn h132 (fun h133 h134 => And.intro (fun hc135 => (And.intro rfl (qEi.go (h133 hc135) (qLq d rfl) (fun v136 M137 h138 => (have k141 : ∀ (x139 : Int), ((x139 = 0 ∨ x139 = 1) ∧ f x139 M137) → qG (d + 3) (-1, fun _ => 0) (qP 141) (qRi h f) 88 [.inr (.inl (some (10, 0))), .inl x1, .inl x2, .inr (.inl (some (1, x1)))] [.inl x139] (h, M137) := fun x139 h140 => qWq (fun pc => Nat.beq pc 88) 300 (And.intro ⟨rfl, h140.1⟩ ⟨x139, M137, rfl, rfl, h140.2⟩); (And.intro (fun hc142 => (k141 1 (h138 1 (if_pos hc142).symm))) (fun hc142 => (k141 0 (h138 0 (if_neg hc142).symm))))))))) (fun hc135 => (qWq (fun pc => Nat.beq pc 88) 300 (And.intro ⟨rfl, (Or.inl rfl)⟩ ⟨0, M129, rfl, rfl, (h134 hc135)⟩))))))))))))))) (fun hc124 => (qWq (fun pc => Nat.beq pc 88) 300 (And.intro ⟨rfl, (Or.inl rfl)⟩ ⟨0, M118, rfl, rfl, (h123 hc124)⟩))))))))))))))) (fun hc113 => (qWq (fun pc => Nat.beq pc 88) 300 (And.intro ⟨rfl, (Or.inl rfl)⟩ ⟨0, M107, rfl, rfl, (h112 hc113)⟩)))))))))))))))))))
theorem w142_5 {d : Nat} {h : qH} (hS : qSe h) {f : Int → qM → Prop} {x1 : Int} {x2 : Int} {x3 : Int} {x4 : Int} {u5 : qV} {M : qM} (H :
    ((x4 < 3 →
    ((0 ≤ x4 ∧ x4 < 3) ∧ (∀ x106 : Int, x106 = (if x4 = x1 then x2 else (-1)) → e8 (d + 2) h x4 x106 M (fun v108 M109 => 
      (qIn (x4 + 1) ∧ b142_5 d h f x1 x2 (qOr x3 v108) (x4 + 1) (u5) M109))))) ∧
    (¬ (x4 < 3) →
    b142_44 d h f (.inl x1) (.inl x2) x3 0 (u5) M))) : b142_5 d h f x1 x2 x3 x4 u5 M :=
  qWq (fun pc => Nat.beq pc 5 || Nat.beq pc 30 || Nat.beq pc 44) 300 (qAn H (fun h101 h102 => And.intro (fun hc103 => (And.intro (hS.1 _ _ _ rfl) (qAn (h101 hc103) (fun a104 h105 => And.intro ⟨a104.1, a104.2, hS.2 _ _ _ rfl a104.1 a104.2⟩ (have k113 : ∀ (x106 : Int), e8 (d + 2) h x4 x106 M (fun v108 M109 =>  (qIn (x4 + 1) ∧ b142_5 d h f x1 x2 (qOr x3 v108) (x4 + 1) (u5) M109)) → qG (d + 2) (-1, fun _ => 0) (qP 142) (qRi h f) 30 [.inr (.inl (some (10, 0))), .inl x1, .inl x2, .inl x3, .inl x4, u5] [.inl x106, .inr (.inl (some (1, x4))), .inl x3] (h, M) := fun x106 h107 => qWq (fun pc => Nat.beq pc 5 || Nat.beq pc 30 || Nat.beq pc 44) 300 (And.intro rfl (qEi.go h107 (qLq d rfl) (fun v108 M109 h110 => (qAn h110 (fun a111 h112 => And.intro a111 h112))))); (And.intro (fun hc114 => (k113 x2 (h105 x2 (if_pos hc114).symm))) (fun hc114 => (k113 (-1) (h105 (-1) (if_neg hc114).symm))))))))) (fun hc103 => (h102 hc103))))
theorem w142_44 {d : Nat} {h : qH} (hS : qSe h) {f : Int → qM → Prop} {u1 : qV} {u2 : qV} {x3 : Int} {x4 : Int} {u5 : qV} {M : qM} (H :
    ((x4 < (M 5 0 2) →
    ((0 ≤ x4 ∧ x4 < 20) ∧ (((M 33 0 x4) = 1 →
      ((0 ≤ x4 ∧ x4 < 20) ∧ ((0 ≤ (1 : Int) ∧ 0 ≤ (M 34 0 x4) ∧ (M 34 0 x4) < 31 ∧ ((1 : Int) * 2 ^ ((M 34 0 x4)).toNat) ≤ 2147483647) ∧ (((qAnd x3 ((1 : Int) * 2 ^ ((M 34 0 x4)).toNat)) = 0 →
        (qIn (x4 + 1) ∧ b142_44 d h f (u1) (u2) (qOr x3 ((1 : Int) * 2 ^ ((M 34 0 x4)).toNat)) (x4 + 1) (.inl ((1 : Int) * 2 ^ ((M 34 0 x4)).toNat)) M)) ∧
        (¬ ((qAnd x3 ((1 : Int) * 2 ^ ((M 34 0 x4)).toNat)) = 0) →
        f 1 M))))) ∧
      (¬ ((M 33 0 x4) = 1) →
      (qIn (x4 + 1) ∧ b142_44 d h f (u1) (u2) x3 (x4 + 1) (u5) M))))) ∧
    (¬ (x4 < (M 5 0 2)) →
    f 0 M))) : b142_44 d h f u1 u2 x3 x4 u5 M :=
  qWq (fun pc => Nat.beq pc 5 || Nat.beq pc 44) 300 (And.intro (hS.1 _ _ _ rfl) (qAn H (fun h101 h102 => And.intro (fun hc103 => (And.intro (hS.1 _ _ _ rfl) (And.intro (hS.1 _ _ _ rfl) (qAn (h101 hc103) (fun a104 h105 => And.intro a104 (qAn h105 (fun h106 h107 => And.intro (fun hc108 => (And.intro (hS.1 _ _ _ rfl) (And.intro (hS.1 _ _ _ rfl) (qAn (h106 hc108) (fun a109 h110 => And.intro a109 (qAn h110 (fun a111 h112 => And.intro a111 (qAn h112 (fun h113 h114 => And.intro (fun hc115 => (qAn (h113 hc115) (fun a116 h117 => And.intro a116 h117))) (fun hc115 => (And.intro ⟨rfl, (Or.inr rfl)⟩ ⟨1, M, rfl, rfl, (h114 hc115)⟩))))))))))) (fun hc108 => (qAn (h107 hc108) (fun a118 h119 => And.intro a118 h119)))))))))) (fun hc103 => (And.intro ⟨rfl, (Or.inl rfl)⟩ ⟨0, M, rfl, rfl, (h102 hc103)⟩)))))
theorem w142 {d : Nat} {h : qH} (hS : qSe h) {x1 : Int} {x2 : Int} {M : qM} {f : Int → qM → Prop} (H :
    b142_5 d h f x1 x2 0 0 (q_u) M) : e142 (d + 3) h x1 x2 M f :=
  qJ.body (Nat.le_of_ble_eq_true rfl) (qWq (fun pc => Nat.beq pc 5 || Nat.beq pc 44) 300 H)
theorem w143_6 {d : Nat} {h : qH} (hS : qSe h) {f : Int → qM → Prop} {x1 : Int} {x2 : Int} {u3 : qV} {u4 : qV} {M : qM} (H :
    (qIn (4 * x1) ∧ (qIn ((4 * x1) + 4) ∧ ((x2 ≤ ((4 * x1) + 4) →
    ((M 10 0 8 = 0 → False) ∧ (0 < M 10 0 8 → (∀ x112 : Int, x112 = (if x2 ≤ (M 3 (M 10 0 8 - 1) 5) then 1 else 0) → ((M 10 0 9 = 0 → False) ∧ (0 < M 10 0 9 → (∀ x118 : Int, x118 = (if x2 ≤ (M 3 (M 10 0 9 - 1) 5) then 1 else 0) → ((x112 = x118 →
          ((x112 = 0 →
            (qIn (x2 + 1) ∧ b143_6 d h f x1 (x2 + 1) (.inl x112) (.inl x118) M)) ∧
            (¬ (x112 = 0) →
            ((M 10 0 8 = 0 → ((M 10 0 9 = 0 → False) ∧ (0 < M 10 0 9 → False) ∧ (M 10 0 9 < 0 → False))) ∧ (0 < M 10 0 8 → ((M 10 0 9 = 0 → False) ∧ (0 < M 10 0 9 → e31 (d + 4) h (M 10 0 8 - 1) (M 10 0 9 - 1) x2 M (fun v140 M141 => 
                  ((v140 = 0 →
                  f 0 M141) ∧
                  (¬ (v140 = 0) →
                  (qIn (x2 + 1) ∧ b143_6 d h f x1 (x2 + 1) (.inl x112) (.inl x118) M141))))) ∧ (M 10 0 9 < 0 → False))) ∧ (M 10 0 8 < 0 → ((M 10 0 9 = 0 → False) ∧ (0 < M 10 0 9 → False) ∧ (M 10 0 9 < 0 → False))))))) ∧
          (¬ (x112 = x118) →
          f 0 M)))) ∧ (M 10 0 9 < 0 → False)))) ∧ (M 10 0 8 < 0 → False))) ∧
    (¬ (x2 ≤ ((4 * x1) + 4)) →
    f 1 M))))) : b143_6 d h f x1 x2 u3 u4 M :=
  qWq (fun pc => Nat.beq pc 6 || Nat.beq pc 31 || Nat.beq pc 48) 300 (qAn H (fun a101 h102 => And.intro a101 (qAn h102 (fun a103 h104 => And.intro a103 (qAn h104 (fun h105 h106 => And.intro (fun hc107 => (qAn3 (h105 hc107) (fun h108 h109 h110 => And.intro (fun hc111 => (h108 hc111).elim) (And.intro (fun hc111 => (have k154 : ∀ (x112 : Int), ((M 10 0 9 = 0 → False) ∧ (0 < M 10 0 9 → (∀ x118 : Int, x118 = (if x2 ≤ (M 3 (M 10 0 9 - 1) 5) then 1 else 0) → ((x112 = x118 → ((x112 = 0 → (qIn (x2 + 1) ∧ b143_6 d h f x1 (x2 + 1) (.inl x112) (.inl x118) M)) ∧ (¬ (x112 = 0) → ((M 10 0 8 = 0 → ((M 10 0 9 = 0 → False) ∧ (0 < M 10 0 9 → False) ∧ (M 10 0 9 < 0 → False))) ∧ (0 < M 10 0 8 → ((M 10 0 9 = 0 → False) ∧ (0 < M 10 0 9 → e31 (d + 4) h (M 10 0 8 - 1) (M 10 0 9 - 1) x2 M (fun v140 M141 =>  ((v140 = 0 → f 0 M141) ∧ (¬ (v140 = 0) → (qIn (x2 + 1) ∧ b143_6 d h f x1 (x2 + 1) (.inl x112) (.inl x118) M141))))) ∧ (M 10 0 9 < 0 → False))) ∧ (M 10 0 8 < 0 → ((M 10 0 9 = 0 → False) ∧ (0 < M 10 0 9 → False) ∧ (M 10 0 9 < 0 → False))))))) ∧ (¬ (x112 = x118) → f 0 M)))) ∧ (M 10 0 9 < 0 → False)) → qG (d + 4) (-1, fun _ => 0) (qP 143) (qRi h f) 31 [.inr (.inl (some (10, 0))), .inl x1, .inl x2, u3, u4] [.inl x112] (h, M) := fun x112 h113 => qWq (fun pc => Nat.beq pc 6 || Nat.beq pc 31 || Nat.beq pc 48) 300 (qAn3 h113 (fun h114 h115 h116 => And.intro (fun hc117 => (h114 hc117).elim) (And.intro (fun hc117 => (have k152 : ∀ (x118 : Int), ((x112 = x118 → ((x112 = 0 → (qIn (x2 + 1) ∧ b143_6 d h f x1 (x2 + 1) (.inl x112) (.inl x118) M)) ∧ (¬ (x112 = 0) → ((M 10 0 8 = 0 → ((M 10 0 9 = 0 → False) ∧ (0 < M 10 0 9 → False) ∧ (M 10 0 9 < 0 → False))) ∧ (0 < M 10 0 8 → ((M 10 0 9 = 0 → False) ∧ (0 < M 10 0 9 → e31 (d + 4) h (M 10 0 8 - 1) (M 10 0 9 - 1) x2 M (fun v140 M141 =>  ((v140 = 0 → f 0 M141) ∧ (¬ (v140 = 0) → (qIn (x2 + 1) ∧ b143_6 d h f x1 (x2 + 1) (.inl x112) (.inl x118) M141))))) ∧ (M 10 0 9 < 0 → False))) ∧ (M 10 0 8 < 0 → ((M 10 0 9 = 0 → False) ∧ (0 < M 10 0 9 → False) ∧ (M 10 0 9 < 0 → False))))))) ∧ (¬ (x112 = x118) → f 0 M)) → qG (d + 4) (-1, fun _ => 0) (qP 143) (qRi h f) 48 [.inr (.inl (some (10, 0))), .inl x1, .inl x2, .inl x112, u4] [.inl x118] (h, M) := fun x118 h119 => qWq (fun pc => Nat.beq pc 6 || Nat.beq pc 31 || Nat.beq pc 48) 300 (qAn h119 (fun h120 h121 => And.intro (fun hc122 => (qAn (h120 hc122) (fun h123 h124 => And.intro (fun hc125 => (qAn (h123 hc125) (fun a126 h127 => And.intro a126 h127))) (fun hc125 => (qAn3 (h124 hc125) (fun h128 h129 h130 => And.intro (fun hc131 => (qAn3 (h128 hc131) (fun h132 h133 h134 => And.intro (fun hc135 => (h132 hc135).elim) (And.intro (fun hc135 => (h133 hc135).elim) (fun hc135 => (h134 hc135).elim))))) (And.intro (fun hc131 => (qAn3 (h129 hc131) (fun h136 h137 h138 => And.intro (fun hc139 => (h136 hc139).elim) (And.intro (fun hc139 => (And.intro rfl (qEi.go (h137 hc139) (qLq d rfl) (fun v140 M141 h142 => (qAn h142 (fun h143 h144 => And.intro (fun hc145 => (And.intro ⟨rfl, (Or.inl rfl)⟩ ⟨0, M141, rfl, rfl, (h143 hc145)⟩)) (fun hc145 => (qAn (h144 hc145) (fun a146 h147 => And.intro a146 h147))))))))) (fun hc139 => (h138 hc139).elim))))) (fun hc131 => (qAn3 (h130 hc131) (fun h148 h149 h150 => And.intro (fun hc151 => (h148 hc151).elim) (And.intro (fun hc151 => (h149 hc151).elim) (fun hc151 => (h150 hc151).elim)))))))))))) (fun hc122 => (And.intro ⟨rfl, (Or.inl rfl)⟩ ⟨0, M, rfl, rfl, (h121 hc122)⟩)))); (And.intro (fun hc153 => (k152 1 ((h115 hc117) 1 (if_pos hc153).symm))) (fun hc153 => (k152 0 ((h115 hc117) 0 (if_neg hc153).symm)))))) (fun hc117 => (h116 hc117).elim)))); (And.intro (fun hc155 => (k154 1 ((h109 hc111) 1 (if_pos hc155).symm))) (fun hc155 => (k154 0 ((h109 hc111) 0 (if_neg hc155).symm)))))) (fun hc111 => (h110 hc111).elim))))) (fun hc107 => (And.intro ⟨rfl, (Or.inr rfl)⟩ ⟨1, M, rfl, rfl, (h106 hc107)⟩))))))))
theorem w143 {d : Nat} {h : qH} (hS : qSe h) {x1 : Int} {M : qM} {f : Int → qM → Prop} (H :
    (qIn (4 * x1) ∧ (qIn ((4 * x1) + 1) ∧ b143_6 d h f x1 ((4 * x1) + 1) (q_u) (q_u) M))) : e143 (d + 5) h x1 M f :=
  qJ.body (Nat.le_of_ble_eq_true rfl) (qWq (fun pc => Nat.beq pc 6) 300 (qAn H (fun a101 h102 => And.intro a101 (qAn h102 (fun a103 h104 => And.intro a103 h104)))))
theorem w144 {d : Nat} {h : qH} (hS : qSe h) {x0 : Int} {M : qM} {f : Int → qM → Prop} (H :
    (qIn (x0 + 3) ∧ (0 ≤ (x0 + 3) ∧ f ((x0 + 3) / 4) M))) : e144 (d + 1) h x0 M f :=
  qJ.body (Nat.le_of_ble_eq_true rfl) (qWq (fun pc => false) 300 (qAn H (fun a101 h102 => And.intro a101 (qAn h102 (fun a103 h104 => And.intro ⟨a103, by decide⟩ ⟨((x0 + 3) / 4), M, rfl, rfl, h104⟩)))))
theorem w145 {d : Nat} {h : qH} (hS : qSe h) {x0 : Int} {M : qM} {f : Int → qM → Prop} (H :
    (∀ x101 : Int, x101 = (if x0 < 0 then 0 else (if x0 < 10 then 1 else 0)) → ((x101 = 0 ∨ x101 = 1) ∧ f x101 M))) : e145 (d + 1) h x0 M f :=
  qJ.body (Nat.le_of_ble_eq_true rfl) (qWq (fun pc => Nat.beq pc 15) 300 (have k103 : ∀ (x101 : Int), ((x101 = 0 ∨ x101 = 1) ∧ f x101 M) → qG (d + 0) (-1, fun _ => 0) (qP 145) (qRi h f) 15 [.inl x0] [.inl x101] (h, M) := fun x101 h102 => qWq (fun pc => Nat.beq pc 15) 300 (And.intro ⟨rfl, h102.1⟩ ⟨x101, M, rfl, rfl, h102.2⟩); (And.intro (fun hc104 => (k103 0 (H 0 (if_pos hc104).symm))) (fun hc104 => (And.intro (fun hc105 => (k103 1 (H 1 ((if_neg hc104).trans (if_pos hc105)).symm))) (fun hc105 => (k103 0 (H 0 ((if_neg hc104).trans (if_neg hc105)).symm))))))))
theorem w147 {d : Nat} {h : qH} (hS : qSe h) {x0 : Int} {x1 : Int} {x2 : Int} {M : qM} {f : Int → qM → Prop} (H :
    (qIn (x0 * 10) ∧ (qIn ((x0 * 10) + x1) ∧ (qIn (((x0 * 10) + x1) * 20) ∧ (qIn ((((x0 * 10) + x1) * 20) + x2) ∧ f ((((x0 * 10) + x1) * 20) + x2) M))))) : e147 (d + 1) h x0 x1 x2 M f :=
  qJ.body (Nat.le_of_ble_eq_true rfl) (qWq (fun pc => false) 300 (qAn H (fun a101 h102 => And.intro a101 (qAn h102 (fun a103 h104 => And.intro a103 (qAn h104 (fun a105 h106 => And.intro a105 (qAn h106 (fun a107 h108 => And.intro a107 ⟨((((x0 * 10) + x1) * 20) + x2), M, rfl, rfl, h108⟩)))))))))
theorem w148 {d : Nat} {h : qH} (hS : qSe h) {x0 : Int} {M : qM} {f : Int → qM → Prop} (H :
    ((x0 < 10 →
    f 1 M) ∧
    (¬ (x0 < 10) →
    (∀ x104 : Int, x104 = (if x0 < 100 then 2 else 3) → f x104 M)))) : e148 (d + 1) h x0 M f :=
  qJ.body (Nat.le_of_ble_eq_true rfl) (qWq (fun pc => Nat.beq pc 19) 300 (qAn H (fun h101 h102 => And.intro (fun hc103 => ⟨1, M, rfl, rfl, (h101 hc103)⟩) (fun hc103 => (have k106 : ∀ (x104 : Int), f x104 M → qG (d + 0) (-1, fun _ => 0) (qP 148) (qRi h f) 19 [.inl x0] [.inl x104] (h, M) := fun x104 h105 => qWq (fun pc => Nat.beq pc 19) 300 ⟨x104, M, rfl, rfl, h105⟩; (And.intro (fun hc107 => (k106 2 ((h102 hc103) 2 (if_pos hc107).symm))) (fun hc107 => (k106 3 ((h102 hc103) 3 (if_neg hc107).symm)))))))))
theorem w264 {d : Nat} {h : qH} (hS : qSe h) {x0 : Int} {x1 : Int} {M : qM} {f : Int → qM → Prop} (H :
    (∀ x101 : Int, x101 = (if x0 < x1 then x1 else x0) → f x101 M)) : e264 (d + 1) h x0 x1 M f :=
  qJ.body (Nat.le_of_ble_eq_true rfl) (qWq (fun pc => Nat.beq pc 10) 300 (have k103 : ∀ (x101 : Int), f x101 M → qG (d + 0) (-1, fun _ => 0) (qP 264) (qRi h f) 10 [.inl x0, .inl x1] [.inl x101] (h, M) := fun x101 h102 => qWq (fun pc => Nat.beq pc 10) 300 ⟨x101, M, rfl, rfl, h102⟩; (And.intro (fun hc104 => (k103 x1 (H x1 (if_pos hc104).symm))) (fun hc104 => (k103 x0 (H x0 (if_neg hc104).symm))))))
theorem w265 {d : Nat} {h : qH} (hS : qSe h) {x0 : Int} {x1 : Int} {M : qM} {f : Int → qM → Prop} (H :
    (∀ x101 : Int, x101 = (if x0 ≤ x1 then x0 else x1) → f x101 M)) : e265 (d + 1) h x0 x1 M f :=
  qJ.body (Nat.le_of_ble_eq_true rfl) (qWq (fun pc => Nat.beq pc 10) 300 (have k103 : ∀ (x101 : Int), f x101 M → qG (d + 0) (-1, fun _ => 0) (qP 265) (qRi h f) 10 [.inl x0, .inl x1] [.inl x101] (h, M) := fun x101 h102 => qWq (fun pc => Nat.beq pc 10) 300 ⟨x101, M, rfl, rfl, h102⟩; (And.intro (fun hc104 => (k103 x0 (H x0 (if_pos hc104).symm))) (fun hc104 => (k103 x1 (H x1 (if_neg hc104).symm))))))
