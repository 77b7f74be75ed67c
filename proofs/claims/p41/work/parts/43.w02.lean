/-! ===== from cut to cut, by wip/p41/gen/genw.py: methods 30 to 57 ===== -/
theorem w30 {d : Nat} {h : qH} (hS : qSe h) {x0 : Int} {x1 : Int} {x2 : Int} {x3 : Int} {x4 : Int} {M : qM} {f : Int → qM → Prop} (H :
    ((0 ≤ x2 ∧ x2 < 3) ∧ ((0 ≤ x2 ∧ x2 < 3) ∧ ((x3 < (M 9 (1 + 3 * x0 + x2) 0) →
    ((x4 < (M 9 (1 + 3 * x1 + x2) 0) →
      ((0 ≤ x3 ∧ x3 < 70) ∧ ((0 ≤ x4 ∧ x4 < 70) ∧ (((M 48 (1 + 3 * x0 + x2) x3) = (M 48 (1 + 3 * x1 + x2) x4) →
        ((0 ≤ x3 ∧ x3 < 70) ∧ ((0 ≤ x4 ∧ x4 < 70) ∧ (((M 49 (1 + 3 * x0 + x2) x3) = (M 49 (1 + 3 * x1 + x2) x4) →
          ((0 ≤ x3 ∧ x3 < 70) ∧ ((0 ≤ x4 ∧ x4 < 70) ∧ (((M 50 (1 + 3 * x0 + x2) x3) = (M 50 (1 + 3 * x1 + x2) x4) →
            ((0 ≤ x3 ∧ x3 < 70) ∧ e29 (d + 1) h x0 x1 x2 (M 48 (1 + 3 * x0 + x2) x3) M (fun v134 M135 => 
              (∀ x137 : Int, x137 = (if v134 = 0 then 0 else 1) → ((x137 = 0 ∨ x137 = 1) ∧ f x137 M135))))) ∧
            (¬ ((M 50 (1 + 3 * x0 + x2) x3) = (M 50 (1 + 3 * x1 + x2) x4)) →
            f 0 M))))) ∧
          (¬ ((M 49 (1 + 3 * x0 + x2) x3) = (M 49 (1 + 3 * x1 + x2) x4)) →
          f 0 M))))) ∧
        (¬ ((M 48 (1 + 3 * x0 + x2) x3) = (M 48 (1 + 3 * x1 + x2) x4)) →
        f 0 M))))) ∧
      (¬ (x4 < (M 9 (1 + 3 * x1 + x2) 0)) →
      f 0 M))) ∧
    (¬ (x3 < (M 9 (1 + 3 * x0 + x2) 0)) →
    f 0 M))))) : e30 (d + 2) h x0 x1 x2 x3 x4 M f :=
  qJ.body (Nat.le_of_ble_eq_true rfl) (qWq (fun pc => Nat.beq pc 110) 300 (And.intro (hS.1 _ _ _ rfl) (qAn H (fun a101 h102 => And.intro ⟨a101.1, a101.2, hS.2 _ _ _ rfl a101.1 a101.2⟩ (And.intro (hS.1 _ _ _ rfl) (qAn h102 (fun a103 h104 => And.intro ⟨a103.1, a103.2, hS.2 _ _ _ rfl a103.1 a103.2⟩ (qAn h104 (fun h105 h106 => And.intro (fun hc107 => (qAn (h105 hc107) (fun h108 h109 => And.intro (fun hc110 => (And.intro (hS.1 _ _ _ rfl) (qAn (h108 hc110) (fun a111 h112 => And.intro a111 (And.intro (hS.1 _ _ _ rfl) (qAn h112 (fun a113 h114 => And.intro a113 (qAn h114 (fun h115 h116 => And.intro (fun hc117 => (And.intro (hS.1 _ _ _ rfl) (qAn (h115 hc117) (fun a118 h119 => And.intro a118 (And.intro (hS.1 _ _ _ rfl) (qAn h119 (fun a120 h121 => And.intro a120 (qAn h121 (fun h122 h123 => And.intro (fun hc124 => (And.intro (hS.1 _ _ _ rfl) (qAn (h122 hc124) (fun a125 h126 => And.intro a125 (And.intro (hS.1 _ _ _ rfl) (qAn h126 (fun a127 h128 => And.intro a127 (qAn h128 (fun h129 h130 => And.intro (fun hc131 => (And.intro (hS.1 _ _ _ rfl) (qAn (h129 hc131) (fun a132 h133 => And.intro a132 (And.intro rfl (qEi.go h133 (qLq d rfl) (fun v134 M135 h136 => (have k139 : ∀ (x137 : Int), ((x137 = 0 ∨ x137 = 1) ∧ f x137 M135) → qG (d + 1) (-1, fun _ => 0) (qP 30) (qRi h f) 110 [.inr (.inl (some (3, x0))), .inr (.inl (some (3, x1))), .inl x2, .inl x3, .inl x4, .inr (.inl (some (9, (1 + 3 * x0 + x2)))), .inr (.inl (some (9, (1 + 3 * x1 + x2))))] [.inl x137] (h, M135) := fun x137 h138 => qWq (fun pc => Nat.beq pc 110) 300 (And.intro ⟨rfl, h138.1⟩ ⟨x137, M135, rfl, rfl, h138.2⟩); (And.intro (fun hc140 => (k139 0 (h136 0 (if_pos hc140).symm))) (fun hc140 => (k139 1 (h136 1 (if_neg hc140).symm)))))))))))) (fun hc131 => (qWq (fun pc => Nat.beq pc 110) 300 (And.intro ⟨rfl, (Or.inl rfl)⟩ ⟨0, M, rfl, rfl, (h130 hc131)⟩)))))))))))) (fun hc124 => (qWq (fun pc => Nat.beq pc 110) 300 (And.intro ⟨rfl, (Or.inl rfl)⟩ ⟨0, M, rfl, rfl, (h123 hc124)⟩)))))))))))) (fun hc117 => (qWq (fun pc => Nat.beq pc 110) 300 (And.intro ⟨rfl, (Or.inl rfl)⟩ ⟨0, M, rfl, rfl, (h116 hc117)⟩)))))))))))) (fun hc110 => (qWq (fun pc => Nat.beq pc 110) 300 (And.intro ⟨rfl, (Or.inl rfl)⟩ ⟨0, M, rfl, rfl, (h109 hc110)⟩)))))) (fun hc107 => (qWq (fun pc => Nat.beq pc 110) 300 (And.intro ⟨rfl, (Or.inl rfl)⟩ ⟨0, M, rfl, rfl, (h106 hc107)⟩))))))))))))
theorem w31 {d : Nat} {h : qH} (hS : qSe h) {x0 : Int} {x1 : Int} {x2 : Int} {M : qM} {f : Int → qM → Prop} (H :
    e27 (d + 1) h x0 x2 M (fun v101 M102 => 
    e27 (d + 1) h x1 x2 M102 (fun v104 M105 => 
    ((v101 = v104 →
    ((v101 < 3 →
      ((0 ≤ v101 ∧ v101 < 3) ∧ (qIn (x2 - (M105 8 (0 + 3 * x0 + v101) 0)) ∧ ((0 ≤ v101 ∧ v101 < 3) ∧ (qIn (x2 - (M105 8 (0 + 3 * x1 + v101) 0)) ∧ ((0 ≤ v101 ∧ v101 < 3) ∧ ((0 ≤ (x2 - (M105 8 (0 + 3 * x0 + v101) 0)) ∧ (x2 - (M105 8 (0 + 3 * x0 + v101) 0)) < 86) ∧ ((0 ≤ v101 ∧ v101 < 3) ∧ ((0 ≤ (x2 - (M105 8 (0 + 3 * x1 + v101) 0)) ∧ (x2 - (M105 8 (0 + 3 * x1 + v101) 0)) < 86) ∧ (((M105 46 (0 + 3 * x0 + v101) (x2 - (M105 8 (0 + 3 * x0 + v101) 0))) = (M105 46 (0 + 3 * x1 + v101) (x2 - (M105 8 (0 + 3 * x1 + v101) 0))) →
        e32 (d + 3) h x0 x1 v101 (x2 - (M105 8 (0 + 3 * x0 + v101) 0)) (x2 - (M105 8 (0 + 3 * x1 + v101) 0)) M105 (fun v132 M133 => 
          ((v132 = 0 →
          f 0 M133) ∧
          (¬ (v132 = 0) →
          e34 (d + 3) h x0 x1 v101 (x2 - (M105 8 (0 + 3 * x0 + v101) 0)) (x2 - (M105 8 (0 + 3 * x1 + v101) 0)) M133 (fun v138 M139 => 
            ((v138 = 0 →
            f 0 M139) ∧
            (¬ (v138 = 0) →
            e35 (d + 3) h x0 x1 v101 (x2 - (M105 8 (0 + 3 * x0 + v101) 0)) (x2 - (M105 8 (0 + 3 * x1 + v101) 0)) M139 (fun v144 M145 => 
              (∀ x147 : Int, x147 = (if v144 = 0 then 0 else 1) → ((x147 = 0 ∨ x147 = 1) ∧ f x147 M145)))))))))) ∧
        (¬ ((M105 46 (0 + 3 * x0 + v101) (x2 - (M105 8 (0 + 3 * x0 + v101) 0))) = (M105 46 (0 + 3 * x1 + v101) (x2 - (M105 8 (0 + 3 * x1 + v101) 0)))) →
        f 0 M105))))))))))) ∧
      (¬ (v101 < 3) →
      f 1 M105))) ∧
    (¬ (v101 = v104) →
    f 0 M105))))) : e31 (d + 4) h x0 x1 x2 M f :=
  qJ.body (Nat.le_of_ble_eq_true rfl) (qWq (fun pc => Nat.beq pc 121) 300 (And.intro rfl (qEi.go H (qLq d rfl) (fun v101 M102 h103 => (And.intro rfl (qEi.go h103 (qLq d rfl) (fun v104 M105 h106 => (qAn h106 (fun h107 h108 => And.intro (fun hc109 => (qAn (h107 hc109) (fun h110 h111 => And.intro (fun hc112 => (And.intro (hS.1 _ _ _ rfl) (qAn (h110 hc112) (fun a113 h114 => And.intro ⟨a113.1, a113.2, hS.2 _ _ _ rfl a113.1 a113.2⟩ (qAn h114 (fun a115 h116 => And.intro a115 (And.intro (hS.1 _ _ _ rfl) (qAn h116 (fun a117 h118 => And.intro ⟨a117.1, a117.2, hS.2 _ _ _ rfl a117.1 a117.2⟩ (qAn h118 (fun a119 h120 => And.intro a119 (And.intro (hS.1 _ _ _ rfl) (qAn h120 (fun a121 h122 => And.intro ⟨a121.1, a121.2, hS.2 _ _ _ rfl a121.1 a121.2⟩ (And.intro (hS.1 _ _ _ rfl) (qAn h122 (fun a123 h124 => And.intro a123 (And.intro (hS.1 _ _ _ rfl) (qAn h124 (fun a125 h126 => And.intro ⟨a125.1, a125.2, hS.2 _ _ _ rfl a125.1 a125.2⟩ (And.intro (hS.1 _ _ _ rfl) (qAn h126 (fun a127 h128 => And.intro a127 (qAn h128 (fun h129 h130 => And.intro (fun hc131 => (And.intro rfl (qEi.go (h129 hc131) (qLq d rfl) (fun v132 M133 h134 => (qAn h134 (fun h135 h136 => And.intro (fun hc137 => (qWq (fun pc => Nat.beq pc 121) 300 (And.intro ⟨rfl, (Or.inl rfl)⟩ ⟨0, M133, rfl, rfl, (h135 hc137)⟩))) (fun hc137 => (And.intro rfl (qEi.go (h136 hc137) (qLq d rfl) (fun v138 M139 h140 => (qAn h140 (fun h141 h142 => And.intro (fun hc143 => (qWq (fun pc => Nat.beq pc 121) 300 (And.intro ⟨rfl, (Or.inl rfl)⟩ ⟨0, M139, rfl, rfl, (h141 hc143)⟩))) (fun hc143 => (And.intro rfl (qEi.go (h142 hc143) (qLq d rfl) (fun v144 M145 h146 => (have k149 : ∀ (x147 : Int), ((x147 = 0 ∨ x147 = 1) ∧ f x147 M145) → qG (d + 3) (-1, fun _ => 0) (qP 31) (qRi h f) 121 [.inr (.inl (some (3, x0))), .inr (.inl (some (3, x1))), .inl x2, .inl v101, .inl (x2 - (M105 8 (0 + 3 * x0 + v101) 0)), .inl (x2 - (M105 8 (0 + 3 * x1 + v101) 0))] [.inl x147] (h, M145) := fun x147 h148 => qWq (fun pc => Nat.beq pc 121) 300 (And.intro ⟨rfl, h148.1⟩ ⟨x147, M145, rfl, rfl, h148.2⟩); (And.intro (fun hc150 => (k149 0 (h146 0 (if_pos hc150).symm))) (fun hc150 => (k149 1 (h146 1 (if_neg hc150).symm))))))))))))))))))))) (fun hc131 => (qWq (fun pc => Nat.beq pc 121) 300 (And.intro ⟨rfl, (Or.inl rfl)⟩ ⟨0, M105, rfl, rfl, (h130 hc131)⟩)))))))))))))))))))))))))))) (fun hc112 => (And.intro ⟨rfl, (Or.inr rfl)⟩ ⟨1, M105, rfl, rfl, (h111 hc112)⟩))))) (fun hc109 => (And.intro ⟨rfl, (Or.inl rfl)⟩ ⟨0, M105, rfl, rfl, (h108 hc109)⟩)))))))))))
theorem w32_66 {d : Nat} {h : qH} (hS : qSe h) {f : Int → qM → Prop} {x0 : Int} {x1 : Int} {x2 : Int} {u3 : qV} {u4 : qV} {x5 : Int} {x6 : Int} {x7 : Int} {x8 : Int} {M : qM} (H :
    ((x8 < x7 →
    (qIn (x5 + x8) ∧ (qIn (x6 + x8) ∧ e30 (d + 2) h x0 x1 x2 (x5 + x8) (x6 + x8) M (fun v108 M109 => 
      ((v108 = 0 →
      f 0 M109) ∧
      (¬ (v108 = 0) →
      (qIn (x5 + x8) ∧ e33 (d + 2) h x0 x1 x2 (x5 + x8) M109 (fun v116 M117 => 
        ((v116 = 0 →
        f 0 M117) ∧
        (¬ (v116 = 0) →
        (qIn (x8 + 1) ∧ b32_66 d h f x0 x1 x2 (u3) (u4) x5 x6 x7 (x8 + 1) M117))))))))))) ∧
    (¬ (x8 < x7) →
    f 1 M))) : b32_66 d h f x0 x1 x2 u3 u4 x5 x6 x7 x8 M :=
  qWq (fun pc => Nat.beq pc 66) 300 (qAn H (fun h101 h102 => And.intro (fun hc103 => (qAn (h101 hc103) (fun a104 h105 => And.intro a104 (qAn h105 (fun a106 h107 => And.intro a106 (And.intro rfl (qEi.go h107 (qLq d rfl) (fun v108 M109 h110 => (qAn h110 (fun h111 h112 => And.intro (fun hc113 => (And.intro ⟨rfl, (Or.inl rfl)⟩ ⟨0, M109, rfl, rfl, (h111 hc113)⟩)) (fun hc113 => (qAn (h112 hc113) (fun a114 h115 => And.intro a114 (And.intro rfl (qEi.go h115 (qLq d rfl) (fun v116 M117 h118 => (qAn h118 (fun h119 h120 => And.intro (fun hc121 => (And.intro ⟨rfl, (Or.inl rfl)⟩ ⟨0, M117, rfl, rfl, (h119 hc121)⟩)) (fun hc121 => (qAn (h120 hc121) (fun a122 h123 => And.intro a122 h123))))))))))))))))))))) (fun hc103 => (And.intro ⟨rfl, (Or.inr rfl)⟩ ⟨1, M, rfl, rfl, (h102 hc103)⟩))))
theorem w32 {d : Nat} {h : qH} (hS : qSe h) {x0 : Int} {x1 : Int} {x2 : Int} {x3 : Int} {x4 : Int} {M : qM} {f : Int → qM → Prop} (H :
    ((0 ≤ x2 ∧ x2 < 3) ∧ e82 (d + 1) h (0 + 3 * x0 + x2) x3 M (fun v103 M104 => 
    ((0 ≤ x2 ∧ x2 < 3) ∧ e82 (d + 1) h (0 + 3 * x1 + x2) x4 M104 (fun v108 M109 => 
    ((0 ≤ x2 ∧ x2 < 3) ∧ ((0 ≤ x3 ∧ x3 < 86) ∧ (qIn ((M109 43 (0 + 3 * x0 + x2) x3) - v103) ∧ ((0 ≤ x2 ∧ x2 < 3) ∧ ((0 ≤ x4 ∧ x4 < 86) ∧ (qIn ((M109 43 (0 + 3 * x1 + x2) x4) - v108) ∧ ((((M109 43 (0 + 3 * x0 + x2) x3) - v103) = ((M109 43 (0 + 3 * x1 + x2) x4) - v108) →
    b32_66 d h f x0 x1 x2 (.inl x3) (.inl x4) v103 v108 ((M109 43 (0 + 3 * x0 + x2) x3) - v103) 0 M109) ∧
    (¬ (((M109 43 (0 + 3 * x0 + x2) x3) - v103) = ((M109 43 (0 + 3 * x1 + x2) x4) - v108)) →
    f 0 M109))))))))))))) : e32 (d + 3) h x0 x1 x2 x3 x4 M f :=
  qJ.body (Nat.le_of_ble_eq_true rfl) (qWq (fun pc => Nat.beq pc 66) 300 (And.intro (hS.1 _ _ _ rfl) (qAn H (fun a101 h102 => And.intro ⟨a101.1, a101.2, hS.2 _ _ _ rfl a101.1 a101.2⟩ (And.intro rfl (qEi.go h102 (qLq d rfl) (fun v103 M104 h105 => (And.intro (hS.1 _ _ _ rfl) (qAn h105 (fun a106 h107 => And.intro ⟨a106.1, a106.2, hS.2 _ _ _ rfl a106.1 a106.2⟩ (And.intro rfl (qEi.go h107 (qLq d rfl) (fun v108 M109 h110 => (And.intro (hS.1 _ _ _ rfl) (qAn h110 (fun a111 h112 => And.intro ⟨a111.1, a111.2, hS.2 _ _ _ rfl a111.1 a111.2⟩ (And.intro (hS.1 _ _ _ rfl) (qAn h112 (fun a113 h114 => And.intro a113 (qAn h114 (fun a115 h116 => And.intro a115 (And.intro (hS.1 _ _ _ rfl) (qAn h116 (fun a117 h118 => And.intro ⟨a117.1, a117.2, hS.2 _ _ _ rfl a117.1 a117.2⟩ (And.intro (hS.1 _ _ _ rfl) (qAn h118 (fun a119 h120 => And.intro a119 (qAn h120 (fun a121 h122 => And.intro a121 (qAn h122 (fun h123 h124 => And.intro (fun hc125 => (h123 hc125)) (fun hc125 => (And.intro ⟨rfl, (Or.inl rfl)⟩ ⟨0, M109, rfl, rfl, (h124 hc125)⟩)))))))))))))))))))))))))))))))))
theorem w33_17 {d : Nat} {h : qH} (hS : qSe h) {f : Int → qM → Prop} {x0 : Int} {x1 : Int} {x2 : Int} {x3 : Int} {x4 : Int} {x5 : Int} {u6 : qV} {M : qM} (H :
    ((0 ≤ x3 ∧ x3 < 70) ∧ ((x5 < (M 50 x4 x3) →
    ((0 ≤ x3 ∧ x3 < 70) ∧ e147 (d + 1) h x2 (M 48 x4 x3) x5 M (fun v108 M109 => 
      ((0 ≤ v108 ∧ v108 < 600) ∧ ((0 ≤ v108 ∧ v108 < 600) ∧ (((M109 25 x0 v108) = (M109 25 x1 v108) →
      ((0 ≤ v108 ∧ v108 < 600) ∧ ((0 ≤ v108 ∧ v108 < 600) ∧ (((M109 26 x0 v108) = (M109 26 x1 v108) →
        (qIn (x5 + 1) ∧ b33_17 d h f x0 x1 x2 x3 x4 (x5 + 1) (.inl v108) M109)) ∧
        (¬ ((M109 26 x0 v108) = (M109 26 x1 v108)) →
        f 0 M109))))) ∧
      (¬ ((M109 25 x0 v108) = (M109 25 x1 v108)) →
      f 0 M109))))))) ∧
    (¬ (x5 < (M 50 x4 x3)) →
    f 1 M)))) : b33_17 d h f x0 x1 x2 x3 x4 x5 u6 M :=
  qWq (fun pc => Nat.beq pc 17) 300 (And.intro (hS.1 _ _ _ rfl) (qAn H (fun a101 h102 => And.intro a101 (qAn h102 (fun h103 h104 => And.intro (fun hc105 => (And.intro (hS.1 _ _ _ rfl) (qAn (h103 hc105) (fun a106 h107 => And.intro a106 (And.intro rfl (qEi.go h107 (qLq d rfl) (fun v108 M109 h110 => (And.intro (hS.1 _ _ _ rfl) (qAn h110 (fun a111 h112 => And.intro a111 (And.intro (hS.1 _ _ _ rfl) (qAn h112 (fun a113 h114 => And.intro a113 (qAn h114 (fun h115 h116 => And.intro (fun hc117 => (And.intro (hS.1 _ _ _ rfl) (qAn (h115 hc117) (fun a118 h119 => And.intro a118 (And.intro (hS.1 _ _ _ rfl) (qAn h119 (fun a120 h121 => And.intro a120 (qAn h121 (fun h122 h123 => And.intro (fun hc124 => (qAn (h122 hc124) (fun a125 h126 => And.intro a125 h126))) (fun hc124 => (And.intro ⟨rfl, (Or.inl rfl)⟩ ⟨0, M109, rfl, rfl, (h123 hc124)⟩))))))))))) (fun hc117 => (And.intro ⟨rfl, (Or.inl rfl)⟩ ⟨0, M109, rfl, rfl, (h116 hc117)⟩))))))))))))))))) (fun hc105 => (And.intro ⟨rfl, (Or.inr rfl)⟩ ⟨1, M, rfl, rfl, (h104 hc105)⟩)))))))
theorem w33 {d : Nat} {h : qH} (hS : qSe h) {x0 : Int} {x1 : Int} {x2 : Int} {x3 : Int} {M : qM} {f : Int → qM → Prop} (H :
    ((0 ≤ x2 ∧ x2 < 3) ∧ ((0 ≤ x3 ∧ x3 < 70) ∧ b33_17 d h f x0 x1 x2 x3 (1 + 3 * x0 + x2) (M 49 (1 + 3 * x0 + x2) x3) (q_u) M))) : e33 (d + 2) h x0 x1 x2 x3 M f :=
  qJ.body (Nat.le_of_ble_eq_true rfl) (qWq (fun pc => Nat.beq pc 17) 300 (And.intro (hS.1 _ _ _ rfl) (qAn H (fun a101 h102 => And.intro ⟨a101.1, a101.2, hS.2 _ _ _ rfl a101.1 a101.2⟩ (And.intro (hS.1 _ _ _ rfl) (qAn h102 (fun a103 h104 => And.intro a103 h104)))))))
theorem w34_71 {d : Nat} {h : qH} (hS : qSe h) {f : Int → qM → Prop} {x0 : Int} {x1 : Int} {x2 : Int} {u3 : qV} {u4 : qV} {x5 : Int} {x6 : Int} {x7 : Int} {x8 : Int} {x9 : Int} {M : qM} (H :
    ((x9 < x7 →
    ((x8 = 0 →
      ((x8 = 0 ∨ x8 = 1) ∧ f x8 M)) ∧
      (¬ (x8 = 0) →
      ((0 ≤ x2 ∧ x2 < 3) ∧ (qIn (x5 + x9) ∧ ((0 ≤ (x5 + x9) ∧ (x5 + x9) < 4) ∧ ((0 ≤ x2 ∧ x2 < 3) ∧ (qIn (x6 + x9) ∧ ((0 ≤ (x6 + x9) ∧ (x6 + x9) < 4) ∧ e36 (d + 2) h x0 x1 x2 (M 59 (1 + 3 * x0 + x2) (x5 + x9)) (M 59 (1 + 3 * x1 + x2) (x6 + x9)) M (fun v119 M120 => 
        (qIn (x9 + 1) ∧ b34_71 d h f x0 x1 x2 (u3) (u4) x5 x6 x7 v119 (x9 + 1) M120))))))))))) ∧
    (¬ (x9 < x7) →
    ((x8 = 0 ∨ x8 = 1) ∧ f x8 M)))) : b34_71 d h f x0 x1 x2 u3 u4 x5 x6 x7 x8 x9 M :=
  qWq (fun pc => Nat.beq pc 71) 300 (qAn H (fun h101 h102 => And.intro (fun hc103 => (qAn (h101 hc103) (fun h104 h105 => And.intro (fun hc106 => (And.intro ⟨rfl, (h104 hc106).1⟩ ⟨x8, M, rfl, rfl, (h104 hc106).2⟩)) (fun hc106 => (And.intro (hS.1 _ _ _ rfl) (qAn (h105 hc106) (fun a107 h108 => And.intro ⟨a107.1, a107.2, hS.2 _ _ _ rfl a107.1 a107.2⟩ (And.intro (hS.1 _ _ _ rfl) (qAn h108 (fun a109 h110 => And.intro a109 (qAn h110 (fun a111 h112 => And.intro a111 (And.intro (hS.1 _ _ _ rfl) (qAn h112 (fun a113 h114 => And.intro ⟨a113.1, a113.2, hS.2 _ _ _ rfl a113.1 a113.2⟩ (And.intro (hS.1 _ _ _ rfl) (qAn h114 (fun a115 h116 => And.intro a115 (qAn h116 (fun a117 h118 => And.intro a117 (And.intro rfl (qEi.go h118 (qLq d rfl) (fun v119 M120 h121 => (qAn h121 (fun a122 h123 => And.intro a122 h123))))))))))))))))))))))))) (fun hc103 => (And.intro ⟨rfl, (h102 hc103).1⟩ ⟨x8, M, rfl, rfl, (h102 hc103).2⟩))))
theorem w34 {d : Nat} {h : qH} (hS : qSe h) {x0 : Int} {x1 : Int} {x2 : Int} {x3 : Int} {x4 : Int} {M : qM} {f : Int → qM → Prop} (H :
    ((0 ≤ x2 ∧ x2 < 3) ∧ e83 (d + 1) h (0 + 3 * x0 + x2) x3 M (fun v103 M104 => 
    ((0 ≤ x2 ∧ x2 < 3) ∧ e83 (d + 1) h (0 + 3 * x1 + x2) x4 M104 (fun v108 M109 => 
    ((0 ≤ x2 ∧ x2 < 3) ∧ ((0 ≤ x3 ∧ x3 < 86) ∧ (qIn ((M109 44 (0 + 3 * x0 + x2) x3) - v103) ∧ ((0 ≤ x2 ∧ x2 < 3) ∧ ((0 ≤ x4 ∧ x4 < 86) ∧ (qIn ((M109 44 (0 + 3 * x1 + x2) x4) - v108) ∧ (∀ x123 : Int, x123 = (if ((M109 44 (0 + 3 * x0 + x2) x3) - v103) = ((M109 44 (0 + 3 * x1 + x2) x4) - v108) then 1 else 0) → b34_71 d h f x0 x1 x2 (.inl x3) (.inl x4) v103 v108 ((M109 44 (0 + 3 * x0 + x2) x3) - v103) x123 0 M109)))))))))))) : e34 (d + 3) h x0 x1 x2 x3 x4 M f :=
  qJ.body (Nat.le_of_ble_eq_true rfl) (qWq (fun pc => Nat.beq pc 66 || Nat.beq pc 71) 300 (And.intro (hS.1 _ _ _ rfl) (qAn H (fun a101 h102 => And.intro ⟨a101.1, a101.2, hS.2 _ _ _ rfl a101.1 a101.2⟩ (And.intro rfl (qEi.go h102 (qLq d rfl) (fun v103 M104 h105 => (And.intro (hS.1 _ _ _ rfl) (qAn h105 (fun a106 h107 => And.intro ⟨a106.1, a106.2, hS.2 _ _ _ rfl a106.1 a106.2⟩ (And.intro rfl (qEi.go h107 (qLq d rfl) (fun v108 M109 h110 => (And.intro (hS.1 _ _ _ rfl) (qAn h110 (fun a111 h112 => And.intro ⟨a111.1, a111.2, hS.2 _ _ _ rfl a111.1 a111.2⟩ (And.intro (hS.1 _ _ _ rfl) (qAn h112 (fun a113 h114 => And.intro a113 (qAn h114 (fun a115 h116 => And.intro a115 (And.intro (hS.1 _ _ _ rfl) (qAn h116 (fun a117 h118 => And.intro ⟨a117.1, a117.2, hS.2 _ _ _ rfl a117.1 a117.2⟩ (And.intro (hS.1 _ _ _ rfl) (qAn h118 (fun a119 h120 => And.intro a119 (qAn h120 (fun a121 h122 => And.intro a121 (have k125 : ∀ (x123 : Int), b34_71 d h f x0 x1 x2 (.inl x3) (.inl x4) v103 v108 ((M109 44 (0 + 3 * x0 + x2) x3) - v103) x123 0 M109 → qG (d + 2) (-1, fun _ => 0) (qP 34) (qRi h f) 66 [.inr (.inl (some (3, x0))), .inr (.inl (some (3, x1))), .inl x2, .inl x3, .inl x4, .inl v103, .inl v108, .inl ((M109 44 (0 + 3 * x0 + x2) x3) - v103), q_u, q_u] [.inl x123] (h, M109) := fun x123 h124 => qWq (fun pc => Nat.beq pc 66 || Nat.beq pc 71) 300 h124; (And.intro (fun hc126 => (k125 1 (h122 1 (if_pos hc126).symm))) (fun hc126 => (k125 0 (h122 0 (if_neg hc126).symm))))))))))))))))))))))))))))))))))
theorem w35_71 {d : Nat} {h : qH} (hS : qSe h) {f : Int → qM → Prop} {x0 : Int} {x1 : Int} {x2 : Int} {u3 : qV} {u4 : qV} {x5 : Int} {x6 : Int} {x7 : Int} {x8 : Int} {x9 : Int} {M : qM} (H :
    ((x9 < x7 →
    ((x8 = 0 →
      ((x8 = 0 ∨ x8 = 1) ∧ f x8 M)) ∧
      (¬ (x8 = 0) →
      ((0 ≤ x2 ∧ x2 < 3) ∧ (qIn (x5 + x9) ∧ ((0 ≤ (x5 + x9) ∧ (x5 + x9) < 12) ∧ ((0 ≤ x2 ∧ x2 < 3) ∧ (qIn (x6 + x9) ∧ ((0 ≤ (x6 + x9) ∧ (x6 + x9) < 12) ∧ e36 (d + 2) h x0 x1 x2 (M 60 (1 + 3 * x0 + x2) (x5 + x9)) (M 60 (1 + 3 * x1 + x2) (x6 + x9)) M (fun v119 M120 => 
        (qIn (x9 + 1) ∧ b35_71 d h f x0 x1 x2 (u3) (u4) x5 x6 x7 v119 (x9 + 1) M120))))))))))) ∧
    (¬ (x9 < x7) →
    ((x8 = 0 ∨ x8 = 1) ∧ f x8 M)))) : b35_71 d h f x0 x1 x2 u3 u4 x5 x6 x7 x8 x9 M :=
  qWq (fun pc => Nat.beq pc 71) 300 (qAn H (fun h101 h102 => And.intro (fun hc103 => (qAn (h101 hc103) (fun h104 h105 => And.intro (fun hc106 => (And.intro ⟨rfl, (h104 hc106).1⟩ ⟨x8, M, rfl, rfl, (h104 hc106).2⟩)) (fun hc106 => (And.intro (hS.1 _ _ _ rfl) (qAn (h105 hc106) (fun a107 h108 => And.intro ⟨a107.1, a107.2, hS.2 _ _ _ rfl a107.1 a107.2⟩ (And.intro (hS.1 _ _ _ rfl) (qAn h108 (fun a109 h110 => And.intro a109 (qAn h110 (fun a111 h112 => And.intro a111 (And.intro (hS.1 _ _ _ rfl) (qAn h112 (fun a113 h114 => And.intro ⟨a113.1, a113.2, hS.2 _ _ _ rfl a113.1 a113.2⟩ (And.intro (hS.1 _ _ _ rfl) (qAn h114 (fun a115 h116 => And.intro a115 (qAn h116 (fun a117 h118 => And.intro a117 (And.intro rfl (qEi.go h118 (qLq d rfl) (fun v119 M120 h121 => (qAn h121 (fun a122 h123 => And.intro a122 h123))))))))))))))))))))))))) (fun hc103 => (And.intro ⟨rfl, (h102 hc103).1⟩ ⟨x8, M, rfl, rfl, (h102 hc103).2⟩))))
theorem w35 {d : Nat} {h : qH} (hS : qSe h) {x0 : Int} {x1 : Int} {x2 : Int} {x3 : Int} {x4 : Int} {M : qM} {f : Int → qM → Prop} (H :
    ((0 ≤ x2 ∧ x2 < 3) ∧ e84 (d + 1) h (0 + 3 * x0 + x2) x3 M (fun v103 M104 => 
    ((0 ≤ x2 ∧ x2 < 3) ∧ e84 (d + 1) h (0 + 3 * x1 + x2) x4 M104 (fun v108 M109 => 
    ((0 ≤ x2 ∧ x2 < 3) ∧ ((0 ≤ x3 ∧ x3 < 86) ∧ (qIn ((M109 45 (0 + 3 * x0 + x2) x3) - v103) ∧ ((0 ≤ x2 ∧ x2 < 3) ∧ ((0 ≤ x4 ∧ x4 < 86) ∧ (qIn ((M109 45 (0 + 3 * x1 + x2) x4) - v108) ∧ (∀ x123 : Int, x123 = (if ((M109 45 (0 + 3 * x0 + x2) x3) - v103) = ((M109 45 (0 + 3 * x1 + x2) x4) - v108) then 1 else 0) → b35_71 d h f x0 x1 x2 (.inl x3) (.inl x4) v103 v108 ((M109 45 (0 + 3 * x0 + x2) x3) - v103) x123 0 M109)))))))))))) : e35 (d + 3) h x0 x1 x2 x3 x4 M f :=
  qJ.body (Nat.le_of_ble_eq_true rfl) (qWq (fun pc => Nat.beq pc 66 || Nat.beq pc 71) 300 (And.intro (hS.1 _ _ _ rfl) (qAn H (fun a101 h102 => And.intro ⟨a101.1, a101.2, hS.2 _ _ _ rfl a101.1 a101.2⟩ (And.intro rfl (qEi.go h102 (qLq d rfl) (fun v103 M104 h105 => (And.intro (hS.1 _ _ _ rfl) (qAn h105 (fun a106 h107 => And.intro ⟨a106.1, a106.2, hS.2 _ _ _ rfl a106.1 a106.2⟩ (And.intro rfl (qEi.go h107 (qLq d rfl) (fun v108 M109 h110 => (And.intro (hS.1 _ _ _ rfl) (qAn h110 (fun a111 h112 => And.intro ⟨a111.1, a111.2, hS.2 _ _ _ rfl a111.1 a111.2⟩ (And.intro (hS.1 _ _ _ rfl) (qAn h112 (fun a113 h114 => And.intro a113 (qAn h114 (fun a115 h116 => And.intro a115 (And.intro (hS.1 _ _ _ rfl) (qAn h116 (fun a117 h118 => And.intro ⟨a117.1, a117.2, hS.2 _ _ _ rfl a117.1 a117.2⟩ (And.intro (hS.1 _ _ _ rfl) (qAn h118 (fun a119 h120 => And.intro a119 (qAn h120 (fun a121 h122 => And.intro a121 (have k125 : ∀ (x123 : Int), b35_71 d h f x0 x1 x2 (.inl x3) (.inl x4) v103 v108 ((M109 45 (0 + 3 * x0 + x2) x3) - v103) x123 0 M109 → qG (d + 2) (-1, fun _ => 0) (qP 35) (qRi h f) 66 [.inr (.inl (some (3, x0))), .inr (.inl (some (3, x1))), .inl x2, .inl x3, .inl x4, .inl v103, .inl v108, .inl ((M109 45 (0 + 3 * x0 + x2) x3) - v103), q_u, q_u] [.inl x123] (h, M109) := fun x123 h124 => qWq (fun pc => Nat.beq pc 66 || Nat.beq pc 71) 300 h124; (And.intro (fun hc126 => (k125 1 (h122 1 (if_pos hc126).symm))) (fun hc126 => (k125 0 (h122 0 (if_neg hc126).symm))))))))))))))))))))))))))))))))))
theorem w36 {d : Nat} {h : qH} (hS : qSe h) {x0 : Int} {x1 : Int} {x2 : Int} {x3 : Int} {x4 : Int} {M : qM} {f : Int → qM → Prop} (H :
    ((x3 = x4 →
    (0 ≤ x3 ∧ (0 ≤ (x3 / 4) ∧ e29 (d + 1) h x0 x1 x2 ((x3 / 4) / 20) M (fun v108 M109 => 
      (∀ x111 : Int, x111 = (if v108 = 0 then 0 else 1) → ((x111 = 0 ∨ x111 = 1) ∧ f x111 M109)))))) ∧
    (¬ (x3 = x4) →
    f 0 M))) : e36 (d + 2) h x0 x1 x2 x3 x4 M f :=
  qJ.body (Nat.le_of_ble_eq_true rfl) (qWq (fun pc => Nat.beq pc 26) 300 (qAn H (fun h101 h102 => And.intro (fun hc103 => (qAn (h101 hc103) (fun a104 h105 => And.intro ⟨a104, by decide⟩ (qAn h105 (fun a106 h107 => And.intro ⟨a106, by decide⟩ (And.intro rfl (qEi.go h107 (qLq d rfl) (fun v108 M109 h110 => (have k113 : ∀ (x111 : Int), ((x111 = 0 ∨ x111 = 1) ∧ f x111 M109) → qG (d + 1) (-1, fun _ => 0) (qP 36) (qRi h f) 26 [.inr (.inl (some (3, x0))), .inr (.inl (some (3, x1))), .inl x2, .inl x3, .inl x4] [.inl x111] (h, M109) := fun x111 h112 => qWq (fun pc => Nat.beq pc 26) 300 (And.intro ⟨rfl, h112.1⟩ ⟨x111, M109, rfl, rfl, h112.2⟩); (And.intro (fun hc114 => (k113 0 (h110 0 (if_pos hc114).symm))) (fun hc114 => (k113 1 (h110 1 (if_neg hc114).symm))))))))))))) (fun hc103 => (qWq (fun pc => Nat.beq pc 26) 300 (And.intro ⟨rfl, (Or.inl rfl)⟩ ⟨0, M, rfl, rfl, (h102 hc103)⟩))))))
theorem w38_10 {d : Nat} {h : qH} (hS : qSe h) {f : qM → Prop} {x2 : Int} {x3 : Int} {u4 : qV} {u5 : qV} {u6 : qV} {M : qM} (H :
    ((x3 < 3 →
    b38_18 d h f x2 x3 0 (u5) (u6) M) ∧
    (¬ (x3 < 3) →
    f M))) : b38_10 d h f x2 x3 u4 u5 u6 M :=
  qWq (fun pc => Nat.beq pc 10 || Nat.beq pc 18 || Nat.beq pc 43) 300 (qAn H (fun h101 h102 => And.intro (fun hc103 => (h101 hc103)) (fun hc103 => (And.intro rfl ⟨M, rfl, rfl, (h102 hc103)⟩))))
theorem w38_18 {d : Nat} {h : qH} (hS : qSe h) {f : qM → Prop} {x2 : Int} {x3 : Int} {x4 : Int} {u5 : qV} {u6 : qV} {M : qM} (H :
    ((0 ≤ x3 ∧ x3 < 3) ∧ ((x4 < (M 1 x3 1) →
    ((0 ≤ x3 ∧ x3 < 3) ∧ ((0 ≤ x4 ∧ x4 < 10) ∧ b38_43 d h f x2 x3 x4 (1 + 10 * x3 + x4) 0 M))) ∧
    (¬ (x4 < (M 1 x3 1)) →
    (qIn (x3 + 1) ∧ b38_10 d h f x2 (x3 + 1) (.inl x4) (u5) (u6) M))))) : b38_18 d h f x2 x3 x4 u5 u6 M :=
  qWq (fun pc => Nat.beq pc 10 || Nat.beq pc 18 || Nat.beq pc 43) 300 (qAn H (fun a101 h102 => And.intro ⟨a101.1, a101.2, hS.2 _ _ _ rfl a101.1 a101.2⟩ (qAn h102 (fun h103 h104 => And.intro (fun hc105 => (qAn (h103 hc105) (fun a106 h107 => And.intro ⟨a106.1, a106.2, hS.2 _ _ _ rfl a106.1 a106.2⟩ (And.intro (hS.1 _ _ _ rfl) (qAn h107 (fun a108 h109 => And.intro ⟨a108.1, a108.2, hS.2 _ _ _ rfl a108.1 a108.2⟩ h109)))))) (fun hc105 => (qAn (h104 hc105) (fun a110 h111 => And.intro a110 h111)))))))
theorem w38_43 {d : Nat} {h : qH} (hS : qSe h) {f : qM → Prop} {x2 : Int} {x3 : Int} {x4 : Int} {x5 : Int} {x6 : Int} {M : qM} (H :
    ((x6 < (M 5 x5 2) →
    ((0 ≤ x6 ∧ x6 < 20) ∧ (((M 33 x5 x6) = 4 →
      ((0 ≤ x6 ∧ x6 < 20) ∧ e147 (d + 1) h x3 x4 x6 M (fun v111 M112 => 
        ((0 ≤ v111 ∧ v111 < 600) ∧ e39 (d + 1) h (M 34 x5 x6) (M112 24 x2 v111) M112 (fun M117 => 
        (qIn (x6 + 1) ∧ b38_43 d h f x2 x3 x4 x5 (x6 + 1) M117)))))) ∧
      (¬ ((M 33 x5 x6) = 4) →
      (qIn (x6 + 1) ∧ b38_43 d h f x2 x3 x4 x5 (x6 + 1) M))))) ∧
    (¬ (x6 < (M 5 x5 2)) →
    (qIn (x4 + 1) ∧ b38_18 d h f x2 x3 (x4 + 1) (.inr (.inl (some (5, x5)))) (.inl x6) M)))) : b38_43 d h f x2 x3 x4 x5 x6 M :=
  qWq (fun pc => Nat.beq pc 10 || Nat.beq pc 18 || Nat.beq pc 43) 300 (qAn H (fun h101 h102 => And.intro (fun hc103 => (And.intro (hS.1 _ _ _ rfl) (qAn (h101 hc103) (fun a104 h105 => And.intro a104 (qAn h105 (fun h106 h107 => And.intro (fun hc108 => (And.intro (hS.1 _ _ _ rfl) (qAn (h106 hc108) (fun a109 h110 => And.intro a109 (And.intro (hS.1 _ _ _ rfl) (And.intro rfl (qEi.go h110 (qLq d rfl) (fun v111 M112 h113 => (qAn h113 (fun a114 h115 => And.intro a114 (And.intro rfl (qEv.go h115 (qLq d rfl) (fun M117 h118 => (qAn h118 (fun a119 h120 => And.intro a119 h120))))))))))))))) (fun hc108 => (qAn (h107 hc108) (fun a121 h122 => And.intro a121 h122))))))))) (fun hc103 => (qAn (h102 hc103) (fun a123 h124 => And.intro a123 h124)))))
theorem w38 {d : Nat} {h : qH} (hS : qSe h) {x2 : Int} {M : qM} {f : qM → Prop} (H :
    qEv (d + 1) 267 [.inr (.inl (some (27, 0))), .inl 0] h M (fun M102 => 
    b38_10 d h f x2 0 (q_u) (q_u) (q_u) M102)) : e38 (d + 2) h x2 M f :=
  qJ.body (Nat.le_of_ble_eq_true rfl) (qWq (fun pc => Nat.beq pc 10 || Nat.beq pc 18 || Nat.beq pc 43) 300 (And.intro (hS.1 _ _ _ rfl) (And.intro rfl (qEv.go H (qLq d rfl) (fun M102 h103 => h103)))))
theorem w39_39 {d : Nat} {h : qH} (hS : qSe h) {f : qM → Prop} {x1 : Int} {x2 : Int} {u3 : qV} {M : qM} (H :
    ((0 ≤ x1 ∧ x1 < 10) ∧ (((M 27 0 x1) < 180 →
    ((0 ≤ x1 ∧ x1 < 10) ∧ ((0 ≤ x1 ∧ x1 < 10) ∧ ((0 ≤ (M 27 0 x1) ∧ (M 27 0 x1) < 180) ∧ ∀ M110, M110 = qU M 29 x1 (M 27 0 x1) x2 → ((0 ≤ x1 ∧ x1 < 10) ∧ ((0 ≤ x1 ∧ x1 < 10) ∧ ((0 ≤ (M110 27 0 x1) ∧ (M110 27 0 x1) < 180) ∧ ∀ M117, M117 = qU M110 31 x1 (M110 27 0 x1) x2 → ((0 ≤ x1 ∧ x1 < 10) ∧ (qIn ((M117 27 0 x1) + 1) ∧ ((0 ≤ x1 ∧ x1 < 10) ∧ ∀ M124, M124 = qU M117 27 0 x1 ((M117 27 0 x1) + 1) → f M124)))))))))) ∧
    (¬ ((M 27 0 x1) < 180) →
    f M)))) : b39_39 d h f x1 x2 u3 M :=
  qWq (fun pc => Nat.beq pc 39) 300 (And.intro (hS.1 _ _ _ rfl) (qAn H (fun a101 h102 => And.intro a101 (qAn h102 (fun h103 h104 => And.intro (fun hc105 => (And.intro (hS.1 _ _ _ rfl) (qAn (h103 hc105) (fun a106 h107 => And.intro ⟨a106.1, a106.2, hS.2 _ _ _ rfl a106.1 a106.2⟩ (And.intro (hS.1 _ _ _ rfl) (qAn h107 (fun a108 h109 => And.intro a108 (qAn h109 (fun a111 h112 => And.intro a111 (And.intro (hS.1 _ _ _ rfl) (qAn (h112 _ rfl) (fun a113 h114 => And.intro ⟨a113.1, a113.2, hS.2 _ _ _ rfl a113.1 a113.2⟩ (And.intro (hS.1 _ _ _ rfl) (qAn h114 (fun a115 h116 => And.intro a115 (qAn h116 (fun a118 h119 => And.intro a118 (And.intro (hS.1 _ _ _ rfl) (qAn (h119 _ rfl) (fun a120 h121 => And.intro a120 (qAn h121 (fun a122 h123 => And.intro a122 (qAn h123 (fun a125 h126 => And.intro a125 (And.intro rfl ⟨(qU (qU (qU M 29 x1 (M 27 0 x1) x2) 31 x1 ((qU M 29 x1 (M 27 0 x1) x2) 27 0 x1) x2) 27 0 x1 (((qU (qU M 29 x1 (M 27 0 x1) x2) 31 x1 ((qU M 29 x1 (M 27 0 x1) x2) 27 0 x1) x2) 27 0 x1) + 1)), rfl, rfl, (h126 _ rfl)⟩))))))))))))))))))))))))) (fun hc105 => (And.intro rfl ⟨M, rfl, rfl, (h104 hc105)⟩)))))))
theorem w39 {d : Nat} {h : qH} (hS : qSe h) {x1 : Int} {x2 : Int} {M : qM} {f : qM → Prop} (H :
    ((0 ≤ x1 ∧ x1 < 10) ∧ (qIn ((M 27 0 x1) - 1) ∧ ((((M 27 0 x1) - 1) < 0 →
    b39_39 d h f x1 x2 (.inl ((M 27 0 x1) - 1)) M) ∧
    (¬ (((M 27 0 x1) - 1) < 0) →
    ((0 ≤ x1 ∧ x1 < 10) ∧ ((0 ≤ ((M 27 0 x1) - 1) ∧ ((M 27 0 x1) - 1) < 180) ∧ (qIn ((M 31 x1 ((M 27 0 x1) - 1)) + 1) ∧ ((x2 ≤ ((M 31 x1 ((M 27 0 x1) - 1)) + 1) →
      ((0 ≤ x1 ∧ x1 < 10) ∧ ((0 ≤ ((M 27 0 x1) - 1) ∧ ((M 27 0 x1) - 1) < 180) ∧ ∀ M119, M119 = qU M 31 x1 ((M 27 0 x1) - 1) x2 → f M119))) ∧
      (¬ (x2 ≤ ((M 31 x1 ((M 27 0 x1) - 1)) + 1)) →
      b39_39 d h f x1 x2 (.inl ((M 27 0 x1) - 1)) M)))))))))) : e39 (d + 1) h x1 x2 M f :=
  qJ.body (Nat.le_of_ble_eq_true rfl) (qWq (fun pc => Nat.beq pc 39) 300 (And.intro (hS.1 _ _ _ rfl) (qAn H (fun a101 h102 => And.intro a101 (qAn h102 (fun a103 h104 => And.intro a103 (qAn h104 (fun h105 h106 => And.intro (fun hc107 => (h105 hc107)) (fun hc107 => (And.intro (hS.1 _ _ _ rfl) (qAn (h106 hc107) (fun a108 h109 => And.intro ⟨a108.1, a108.2, hS.2 _ _ _ rfl a108.1 a108.2⟩ (qAn h109 (fun a110 h111 => And.intro a110 (qAn h111 (fun a112 h113 => And.intro a112 (qAn h113 (fun h114 h115 => And.intro (fun hc116 => (And.intro (hS.1 _ _ _ rfl) (qAn (h114 hc116) (fun a117 h118 => And.intro ⟨a117.1, a117.2, hS.2 _ _ _ rfl a117.1 a117.2⟩ (qAn h118 (fun a120 h121 => And.intro a120 (And.intro rfl ⟨(qU M 31 x1 ((M 27 0 x1) - 1) x2), rfl, rfl, (h121 _ rfl)⟩))))))) (fun hc116 => (h115 hc116))))))))))))))))))))
theorem w40_12 {d : Nat} {h : qH} (hS : qSe h) {f : qM → Prop} {x2 : Int} {x3 : Int} {M : qM} (H :
    ((x3 < 10 →
    ((0 ≤ x3 ∧ x3 < 10) ∧ (qIn ((M 27 0 x3) + 3) ∧ (qIn (((M 27 0 x3) + 3) - 1) ∧ (0 ≤ (((M 27 0 x3) + 3) - 1) ∧ ((0 ≤ x3 ∧ x3 < 10) ∧ (∀ x114 : Int, x114 = (if (M 63 0 x3) < 0 then 0 else 1) → (qIn (((((M 27 0 x3) + 3) - 1) / 3) + x114) ∧ (qIn ((M 4 0 3) + (((((M 27 0 x3) + 3) - 1) / 3) + x114)) ∧ (∀ M120, M120 = qU M 4 0 3 ((M 4 0 3) + (((((M 27 0 x3) + 3) - 1) / 3) + x114)) → (qIn (x3 + 1) ∧ b40_12 d h f x2 (x3 + 1) M120))))))))))) ∧
    (¬ (x3 < 10) →
    ((¬ (x2 ≤ 0) → (qIn (2 * x2) ∧ (qIn ((M 4 0 3) + (2 * x2)) ∧ (qIn (((M 4 0 3) + (2 * x2)) - 1) ∧ (qIn (2 * x2) ∧ (0 ≤ (((M 4 0 3) + (2 * x2)) - 1) ∧ 0 < (2 * x2))))))) ∧
      (∀ x125 : Int, x125 = (if x2 ≤ 0 then 0 else ((((M 4 0 3) + (2 * x2)) - 1) / (2 * x2))) → (∀ M127, M127 = qU M 4 0 4 x125 → f M127)))))) : b40_12 d h f x2 x3 M :=
  qWq (fun pc => Nat.beq pc 12 || Nat.beq pc 46 || Nat.beq pc 80) 300 (qAn H (fun h101 h102 => And.intro (fun hc103 => (And.intro (hS.1 _ _ _ rfl) (qAn (h101 hc103) (fun a104 h105 => And.intro a104 (qAn h105 (fun a106 h107 => And.intro a106 (qAn h107 (fun a108 h109 => And.intro a108 (qAn h109 (fun a110 h111 => And.intro ⟨a110, by decide⟩ (qAn h111 (fun a112 h113 => And.intro a112 (have k123 : ∀ (x114 : Int), (qIn (((((M 27 0 x3) + 3) - 1) / 3) + x114) ∧ (qIn ((M 4 0 3) + (((((M 27 0 x3) + 3) - 1) / 3) + x114)) ∧ (∀ M120, M120 = qU M 4 0 3 ((M 4 0 3) + (((((M 27 0 x3) + 3) - 1) / 3) + x114)) → (qIn (x3 + 1) ∧ b40_12 d h f x2 (x3 + 1) M120)))) → qG (d + 0) (-1, fun _ => 0) (qP 40) (qRv h f) 46 [.inr (.inl (some (4, 0))), .inr (.inl (some (63, 0))), .inl x2, .inl x3] [.inl x114, .inl ((((M 27 0 x3) + 3) - 1) / 3), .inl (M 4 0 3), .inr (.inl (some (4, 0)))] (h, M) := fun x114 h115 => qWq (fun pc => Nat.beq pc 12 || Nat.beq pc 46 || Nat.beq pc 80) 300 (qAn h115 (fun a116 h117 => And.intro a116 (qAn h117 (fun a118 h119 => And.intro a118 (qAn (h119 _ rfl) (fun a121 h122 => And.intro a121 h122)))))); (And.intro (fun hc124 => (k123 0 (h113 0 (if_pos hc124).symm))) (fun hc124 => (k123 1 (h113 1 (if_neg hc124).symm))))))))))))))))) (fun hc103 => (qAn (h102 hc103) (fun h129 h130 => (have k128 : ∀ (x125 : Int), (∀ M127, M127 = qU M 4 0 4 x125 → f M127) → qG (d + 0) (-1, fun _ => 0) (qP 40) (qRv h f) 80 [.inr (.inl (some (4, 0))), .inr (.inl (some (63, 0))), .inl x2, .inl x3] [.inl x125, .inr (.inl (some (4, 0)))] (h, M) := fun x125 h126 => qWq (fun pc => Nat.beq pc 12 || Nat.beq pc 46 || Nat.beq pc 80) 300 (And.intro rfl ⟨(qU M 4 0 4 x125), rfl, rfl, (h126 _ rfl)⟩); (And.intro (fun hc131 => (k128 0 (h130 0 (if_pos hc131).symm))) (fun hc131 => (And.intro (h129 hc131).1 (And.intro (h129 hc131).2.1 (And.intro (h129 hc131).2.2.1 (And.intro (h129 hc131).2.2.2.1 (And.intro (h129 hc131).2.2.2.2 (k128 ((((M 4 0 3) + (2 * x2)) - 1) / (2 * x2)) (h130 ((((M 4 0 3) + (2 * x2)) - 1) / (2 * x2)) (if_neg hc131).symm)))))))))))))))
theorem w40 {d : Nat} {h : qH} (hS : qSe h) {x2 : Int} {M : qM} {f : qM → Prop} (H :
    (∀ M101, M101 = qU M 4 0 5 x2 → (∀ M102, M102 = qU M101 4 0 3 0 → b40_12 d h f x2 0 M102))) : e40 (d + 1) h x2 M f :=
  qJ.body (Nat.le_of_ble_eq_true rfl) (qWq (fun pc => Nat.beq pc 12) 300 ((H _ rfl) _ rfl))
theorem w41 {d : Nat} {h : qH} (hS : qSe h) {x1 : Int} {M : qM} {f : Int → qM → Prop} (H :
    ((¬ ((M 4 0 5) ≤ 0) → (qIn (2 * (M 4 0 5)) ∧ (0 ≤ x1 ∧ 0 < (2 * (M 4 0 5))))) ∧
    (∀ x101 : Int, x101 = (if (M 4 0 5) ≤ 0 then 0 else (x1 / (2 * (M 4 0 5)))) → f x101 M))) : e41 (d + 1) h x1 M f :=
  qJ.body (Nat.le_of_ble_eq_true rfl) (qWq (fun pc => Nat.beq pc 19) 300 (qAn H (fun h104 h105 => (have k103 : ∀ (x101 : Int), f x101 M → qG (d + 0) (-1, fun _ => 0) (qP 41) (qRi h f) 19 [.inr (.inl (some (4, 0))), .inl x1] [.inl x101] (h, M) := fun x101 h102 => qWq (fun pc => Nat.beq pc 19) 300 ⟨x101, M, rfl, rfl, h102⟩; (And.intro (fun hc106 => (k103 0 (h105 0 (if_pos hc106).symm))) (fun hc106 => (And.intro (h104 hc106).1 (And.intro (h104 hc106).2 (k103 (x1 / (2 * (M 4 0 5))) (h105 (x1 / (2 * (M 4 0 5))) (if_neg hc106).symm))))))))))
theorem w42 {d : Nat} {h : qH} (hS : qSe h) {x1 : Int} {M : qM} {f : Int → qM → Prop} (H :
    e41 (d + 1) h x1 M (fun v101 M102 => 
    (qIn ((M102 4 0 4) - 1) ∧ (∀ x106 : Int, x106 = (if v101 = ((M102 4 0 4) - 1) then 1 else 0) → (((x106 = 0 → qIn (2 * (M102 4 0 5))) ∧ (¬ (x106 = 0) → (qIn (v101 * 2) ∧ (qIn ((v101 * 2) * (M102 4 0 5)) ∧ qIn ((M102 4 0 3) - ((v101 * 2) * (M102 4 0 5))))))) ∧
    (∀ x108 : Int, x108 = (if x106 = 0 then (2 * (M102 4 0 5)) else ((M102 4 0 3) - ((v101 * 2) * (M102 4 0 5)))) → (qIn (v101 * 2) ∧ (qIn ((v101 * 2) * (M102 4 0 5)) ∧ (qIn (x1 - ((v101 * 2) * (M102 4 0 5))) ∧ (qIn (x108 + 1) ∧ (0 ≤ (x108 + 1) ∧ (∀ x120 : Int, x120 = (if (x1 - ((v101 * 2) * (M102 4 0 5))) < ((x108 + 1) / 2) then 0 else 1) → f x120 M102)))))))))))) : e42 (d + 2) h x1 M f :=
  qJ.body (Nat.le_of_ble_eq_true rfl) (qWq (fun pc => Nat.beq pc 21 || Nat.beq pc 48 || Nat.beq pc 74) 300 (And.intro rfl (qEi.go H (qLq d rfl) (fun v101 M102 h103 => (qAn h103 (fun a104 h105 => And.intro a104 (have k128 : ∀ (x106 : Int), (((x106 = 0 → qIn (2 * (M102 4 0 5))) ∧ (¬ (x106 = 0) → (qIn (v101 * 2) ∧ (qIn ((v101 * 2) * (M102 4 0 5)) ∧ qIn ((M102 4 0 3) - ((v101 * 2) * (M102 4 0 5))))))) ∧ (∀ x108 : Int, x108 = (if x106 = 0 then (2 * (M102 4 0 5)) else ((M102 4 0 3) - ((v101 * 2) * (M102 4 0 5)))) → (qIn (v101 * 2) ∧ (qIn ((v101 * 2) * (M102 4 0 5)) ∧ (qIn (x1 - ((v101 * 2) * (M102 4 0 5))) ∧ (qIn (x108 + 1) ∧ (0 ≤ (x108 + 1) ∧ (∀ x120 : Int, x120 = (if (x1 - ((v101 * 2) * (M102 4 0 5))) < ((x108 + 1) / 2) then 0 else 1) → f x120 M102)))))))) → qG (d + 1) (-1, fun _ => 0) (qP 42) (qRi h f) 21 [.inr (.inl (some (4, 0))), .inl x1, .inl v101, q_u, q_u] [.inl x106] (h, M102) := fun x106 h107 => qWq (fun pc => Nat.beq pc 21 || Nat.beq pc 48 || Nat.beq pc 74) 300 (qAn h107 (fun h125 h126 => (have k124 : ∀ (x108 : Int), (qIn (v101 * 2) ∧ (qIn ((v101 * 2) * (M102 4 0 5)) ∧ (qIn (x1 - ((v101 * 2) * (M102 4 0 5))) ∧ (qIn (x108 + 1) ∧ (0 ≤ (x108 + 1) ∧ (∀ x120 : Int, x120 = (if (x1 - ((v101 * 2) * (M102 4 0 5))) < ((x108 + 1) / 2) then 0 else 1) → f x120 M102)))))) → qG (d + 1) (-1, fun _ => 0) (qP 42) (qRi h f) 48 [.inr (.inl (some (4, 0))), .inl x1, .inl v101, .inl x106, q_u] [.inl x108] (h, M102) := fun x108 h109 => qWq (fun pc => Nat.beq pc 21 || Nat.beq pc 48 || Nat.beq pc 74) 300 (qAn h109 (fun a110 h111 => And.intro a110 (qAn h111 (fun a112 h113 => And.intro a112 (qAn h113 (fun a114 h115 => And.intro a114 (qAn h115 (fun a116 h117 => And.intro a116 (qAn h117 (fun a118 h119 => And.intro ⟨a118, by decide⟩ (have k122 : ∀ (x120 : Int), f x120 M102 → qG (d + 1) (-1, fun _ => 0) (qP 42) (qRi h f) 74 [.inr (.inl (some (4, 0))), .inl x1, .inl v101, .inl x106, .inl x108] [.inl x120] (h, M102) := fun x120 h121 => qWq (fun pc => Nat.beq pc 21 || Nat.beq pc 48 || Nat.beq pc 74) 300 ⟨x120, M102, rfl, rfl, h121⟩; (And.intro (fun hc123 => (k122 0 (h119 0 (if_pos hc123).symm))) (fun hc123 => (k122 1 (h119 1 (if_neg hc123).symm))))))))))))))); (And.intro (fun hc127 => (And.intro (h125.1 hc127) (k124 (2 * (M102 4 0 5)) (h126 (2 * (M102 4 0 5)) (if_pos hc127).symm)))) (fun hc127 => (And.intro (h125.2 hc127).1 (And.intro (h125.2 hc127).2.1 (And.intro (h125.2 hc127).2.2 (k124 ((M102 4 0 3) - ((v101 * 2) * (M102 4 0 5))) (h126 ((M102 4 0 3) - ((v101 * 2) * (M102 4 0 5))) (if_neg hc127).symm)))))))))); (And.intro (fun hc129 => (k128 1 (h105 1 (if_pos hc129).symm))) (fun hc129 => (k128 0 (h105 0 (if_neg hc129).symm)))))))))))
theorem w44 {d : Nat} {h : qH} (hS : qSe h) {x0 : Int} {x1 : Int} {x2 : Int} {x3 : Int} {M : qM} {f : qM → Prop} (H :
    (((M 5 x0 2) < 20 →
    ((0 ≤ (M 5 x0 2) ∧ (M 5 x0 2) < 20) ∧ ∀ M104, M104 = qU M 32 x0 (M 5 x0 2) x1 → ((0 ≤ (M104 5 x0 2) ∧ (M104 5 x0 2) < 20) ∧ ∀ M107, M107 = qU M104 33 x0 (M104 5 x0 2) x2 → ((0 ≤ (M107 5 x0 2) ∧ (M107 5 x0 2) < 20) ∧ ∀ M110, M110 = qU M107 34 x0 (M107 5 x0 2) x3 → (qIn ((M110 5 x0 2) + 1) ∧ (∀ M115, M115 = qU M110 5 x0 2 ((M110 5 x0 2) + 1) → f M115)))))) ∧
    (¬ ((M 5 x0 2) < 20) →
    f M))) : e44 (d + 1) h x0 x1 x2 x3 M f :=
  qJ.body (Nat.le_of_ble_eq_true rfl) (qWq (fun pc => false) 300 (qAn H (fun h101 h102 => And.intro (fun hc103 => (And.intro (hS.1 _ _ _ rfl) (qAn (h101 hc103) (fun a105 h106 => And.intro a105 (And.intro (hS.1 _ _ _ rfl) (qAn (h106 _ rfl) (fun a108 h109 => And.intro a108 (And.intro (hS.1 _ _ _ rfl) (qAn (h109 _ rfl) (fun a111 h112 => And.intro a111 (qAn (h112 _ rfl) (fun a113 h114 => And.intro a113 (And.intro rfl ⟨(qU (qU (qU (qU M 32 x0 (M 5 x0 2) x1) 33 x0 ((qU M 32 x0 (M 5 x0 2) x1) 5 x0 2) x2) 34 x0 ((qU (qU M 32 x0 (M 5 x0 2) x1) 33 x0 ((qU M 32 x0 (M 5 x0 2) x1) 5 x0 2) x2) 5 x0 2) x3) 5 x0 2 (((qU (qU (qU M 32 x0 (M 5 x0 2) x1) 33 x0 ((qU M 32 x0 (M 5 x0 2) x1) 5 x0 2) x2) 34 x0 ((qU (qU M 32 x0 (M 5 x0 2) x1) 33 x0 ((qU M 32 x0 (M 5 x0 2) x1) 5 x0 2) x2) 5 x0 2) x3) 5 x0 2) + 1)), rfl, rfl, (h114 _ rfl)⟩))))))))))))) (fun hc103 => (And.intro rfl ⟨M, rfl, rfl, (h102 hc103)⟩)))))
theorem w45_25 {d : Nat} {h : qH} (hS : qSe h) {f : qM → Prop} {x0 : Int} {x1 : Int} {x2 : Int} {M : qM} (H :
    ((x2 < (M 5 x1 2) →
    ((0 ≤ x2 ∧ x2 < 20) ∧ ((0 ≤ x2 ∧ x2 < 20) ∧ ((0 ≤ x2 ∧ x2 < 20) ∧ e44 (d + 1) h x0 (M 32 x1 x2) (M 33 x1 x2) (M 34 x1 x2) M (fun M111 => 
      (qIn (x2 + 1) ∧ b45_25 d h f x0 x1 (x2 + 1) M111)))))) ∧
    (¬ (x2 < (M 5 x1 2)) →
    f M))) : b45_25 d h f x0 x1 x2 M :=
  qWq (fun pc => Nat.beq pc 25) 300 (qAn H (fun h101 h102 => And.intro (fun hc103 => (And.intro (hS.1 _ _ _ rfl) (qAn (h101 hc103) (fun a104 h105 => And.intro a104 (And.intro (hS.1 _ _ _ rfl) (qAn h105 (fun a106 h107 => And.intro a106 (And.intro (hS.1 _ _ _ rfl) (qAn h107 (fun a108 h109 => And.intro a108 (And.intro rfl (qEv.go h109 (qLq d rfl) (fun M111 h112 => (qAn h112 (fun a113 h114 => And.intro a113 h114))))))))))))))) (fun hc103 => (And.intro rfl ⟨M, rfl, rfl, (h102 hc103)⟩))))
theorem w45 {d : Nat} {h : qH} (hS : qSe h) {x0 : Int} {x1 : Int} {M : qM} {f : qM → Prop} (H :
    (∀ M101, M101 = qU M 5 x0 0 0 → (∀ M102, M102 = qU M101 5 x0 2 0 → (∀ M103, M103 = qU M102 5 x0 8 0 → qEv (d + 1) 267 [.inr (.inl (some (35, x0))), .inl 0] h M103 (fun M105 => 
    b45_25 d h f x0 x1 0 M105))))) : e45 (d + 2) h x0 x1 M f :=
  qJ.body (Nat.le_of_ble_eq_true rfl) (qWq (fun pc => Nat.beq pc 25) 300 (And.intro (Or.inl rfl) (And.intro (hS.1 _ _ _ rfl) (And.intro rfl (qEv.go (((H _ rfl) _ rfl) _ rfl) (qLq d rfl) (fun M105 h106 => h106))))))
theorem w46 {d : Nat} {h : qH} (hS : qSe h) {x0 : Int} {x1 : Int} {M : qM} {f : qM → Prop} (H :
    (∀ M101, M101 = qU M 5 x0 0 1 → (∀ M102, M102 = qU M101 5 x0 1 x1 → (∀ M103, M103 = qU M102 5 x0 10 1 → f M103)))) : e46 (d + 1) h x0 x1 M f :=
  qJ.body (Nat.le_of_ble_eq_true rfl) (qWq (fun pc => false) 300 (And.intro (Or.inr rfl) (And.intro rfl ⟨(qU (qU (qU M 5 x0 0 1) 5 x0 1 x1) 5 x0 10 1), rfl, rfl, (((H _ rfl) _ rfl) _ rfl)⟩)))
theorem w47 {d : Nat} {h : qH} (hS : qSe h) {x0 : Int} {x1 : Int} {M : qM} {f : Int → qM → Prop} (H :
    ((0 ≤ x1 ∧ x1 < 20) ∧ ((0 ≤ x1 ∧ x1 < 20) ∧ (qIn ((M 32 x0 x1) + (M 35 x0 x1)) ∧ f ((M 32 x0 x1) + (M 35 x0 x1)) M)))) : e47 (d + 1) h x0 x1 M f :=
  qJ.body (Nat.le_of_ble_eq_true rfl) (qWq (fun pc => false) 300 (And.intro (hS.1 _ _ _ rfl) (qAn H (fun a101 h102 => And.intro a101 (And.intro (hS.1 _ _ _ rfl) (qAn h102 (fun a103 h104 => And.intro a103 (qAn h104 (fun a105 h106 => And.intro a105 ⟨((M 32 x0 x1) + (M 35 x0 x1)), M, rfl, rfl, h106⟩)))))))))
theorem w48_4 {d : Nat} {h : qH} (hS : qSe h) {f : Int → qM → Prop} {x0 : Int} {x1 : Int} {x2 : Int} {x3 : Int} {M : qM} (H :
    ((x3 < (M 5 x0 2) →
    ((0 ≤ x3 ∧ x3 < 20) ∧ (((M 33 x0 x3) = x1 → ((x1 = 2 → ((0 ≤ x3 ∧ x3 < 20) ∧ qIn (x2 + (M 34 x0 x3)))) ∧ (¬ (x1 = 2) → qIn (x2 + 1)))) ∧
      (∀ x106 : Int, x106 = (if (M 33 x0 x3) = x1 then (if x1 = 2 then (x2 + (M 34 x0 x3)) else (x2 + 1)) else x2) → (qIn (x3 + 1) ∧ b48_4 d h f x0 x1 x106 (x3 + 1) M))))) ∧
    (¬ (x3 < (M 5 x0 2)) →
    f x2 M))) : b48_4 d h f x0 x1 x2 x3 M :=
  qWq (fun pc => Nat.beq pc 4 || Nat.beq pc 40) 300 (qAn H (fun h101 h102 => And.intro (fun hc103 => (And.intro (hS.1 _ _ _ rfl) (qAn (h101 hc103) (fun a104 h105 => And.intro a104 (qAn h105 (fun h111 h112 => (have k110 : ∀ (x106 : Int), (qIn (x3 + 1) ∧ b48_4 d h f x0 x1 x106 (x3 + 1) M) → qG (d + 0) (-1, fun _ => 0) (qP 48) (qRi h f) 40 [.inr (.inl (some (5, x0))), .inl x1, .inl x106, .inl x3] [] (h, M) := fun x106 h107 => qWq (fun pc => Nat.beq pc 4 || Nat.beq pc 40) 300 (qAn h107 (fun a108 h109 => And.intro a108 h109)); (And.intro (fun hc113 => (And.intro (fun hc114 => (And.intro (hS.1 _ _ _ rfl) (And.intro ((h111 hc113).1 hc114).1 (And.intro ((h111 hc113).1 hc114).2 (k110 (x2 + (M 34 x0 x3)) (h112 (x2 + (M 34 x0 x3)) ((if_pos hc113).trans (if_pos hc114)).symm)))))) (fun hc114 => (And.intro ((h111 hc113).2 hc114) (k110 (x2 + 1) (h112 (x2 + 1) ((if_pos hc113).trans (if_neg hc114)).symm)))))) (fun hc113 => (k110 x2 (h112 x2 (if_neg hc113).symm))))))))))) (fun hc103 => ⟨x2, M, rfl, rfl, (h102 hc103)⟩)))
theorem w48 {d : Nat} {h : qH} (hS : qSe h) {x0 : Int} {x1 : Int} {M : qM} {f : Int → qM → Prop} (H :
    b48_4 d h f x0 x1 0 0 M) : e48 (d + 1) h x0 x1 M f :=
  qJ.body (Nat.le_of_ble_eq_true rfl) (qWq (fun pc => Nat.beq pc 4) 300 H)
theorem w49_4 {d : Nat} {h : qH} (hS : qSe h) {f : Int → qM → Prop} {x0 : Int} {x1 : Int} {x2 : Int} {M : qM} (H :
    ((x2 < (M 5 x0 2) →
    ((0 ≤ x2 ∧ x2 < 20) ∧ (((M 33 x0 x2) = 1 → ((0 ≤ x2 ∧ x2 < 20) ∧ (0 ≤ (1 : Int) ∧ 0 ≤ (M 34 x0 x2) ∧ (M 34 x0 x2) < 31 ∧ ((1 : Int) * 2 ^ ((M 34 x0 x2)).toNat) ≤ 2147483647))) ∧
      (∀ x106 : Int, x106 = (if (M 33 x0 x2) = 1 then ((1 : Int) * 2 ^ ((M 34 x0 x2)).toNat) else 0) → (qIn (x2 + 1) ∧ b49_4 d h f x0 (qOr x1 x106) (x2 + 1) M))))) ∧
    (¬ (x2 < (M 5 x0 2)) →
    f x1 M))) : b49_4 d h f x0 x1 x2 M :=
  qWq (fun pc => Nat.beq pc 4 || Nat.beq pc 35) 300 (qAn H (fun h101 h102 => And.intro (fun hc103 => (And.intro (hS.1 _ _ _ rfl) (qAn (h101 hc103) (fun a104 h105 => And.intro a104 (qAn h105 (fun h111 h112 => (have k110 : ∀ (x106 : Int), (qIn (x2 + 1) ∧ b49_4 d h f x0 (qOr x1 x106) (x2 + 1) M) → qG (d + 0) (-1, fun _ => 0) (qP 49) (qRi h f) 35 [.inr (.inl (some (5, x0))), .inl x1, .inl x2] [.inl x106, .inl x1] (h, M) := fun x106 h107 => qWq (fun pc => Nat.beq pc 4 || Nat.beq pc 35) 300 (qAn h107 (fun a108 h109 => And.intro a108 h109)); (And.intro (fun hc113 => (And.intro (hS.1 _ _ _ rfl) (And.intro (h111 hc113).1 (And.intro (h111 hc113).2 (k110 ((1 : Int) * 2 ^ ((M 34 x0 x2)).toNat) (h112 ((1 : Int) * 2 ^ ((M 34 x0 x2)).toNat) (if_pos hc113).symm)))))) (fun hc113 => (k110 0 (h112 0 (if_neg hc113).symm))))))))))) (fun hc103 => ⟨x1, M, rfl, rfl, (h102 hc103)⟩)))
theorem w49 {d : Nat} {h : qH} (hS : qSe h) {x0 : Int} {M : qM} {f : Int → qM → Prop} (H :
    b49_4 d h f x0 0 0 M) : e49 (d + 1) h x0 M f :=
  qJ.body (Nat.le_of_ble_eq_true rfl) (qWq (fun pc => Nat.beq pc 4) 300 H)
theorem w50_12 {d : Nat} {h : qH} (hS : qSe h) {f : Int → qM → Prop} {x0 : Int} {u1 : qV} {x2 : Int} {M : qM} (H :
    ((x2 < (M 5 x0 2) →
    ((0 ≤ x2 ∧ x2 < 20) ∧ e47 (d + 1) h x0 x2 M (fun v106 M107 => 
      (((M 36 x0 x2) = v106 →
      (qIn (x2 + 1) ∧ b50_12 d h f x0 (u1) (x2 + 1) M107)) ∧
      (¬ ((M 36 x0 x2) = v106) →
      f 0 M107))))) ∧
    (¬ (x2 < (M 5 x0 2)) →
    f 1 M))) : b50_12 d h f x0 u1 x2 M :=
  qWq (fun pc => Nat.beq pc 12) 300 (qAn H (fun h101 h102 => And.intro (fun hc103 => (And.intro (hS.1 _ _ _ rfl) (qAn (h101 hc103) (fun a104 h105 => And.intro a104 (And.intro rfl (qEi.go h105 (qLq d rfl) (fun v106 M107 h108 => (qAn h108 (fun h109 h110 => And.intro (fun hc111 => (qAn (h109 hc111) (fun a112 h113 => And.intro a112 h113))) (fun hc111 => (And.intro ⟨rfl, (Or.inl rfl)⟩ ⟨0, M107, rfl, rfl, (h110 hc111)⟩))))))))))) (fun hc103 => (And.intro ⟨rfl, (Or.inr rfl)⟩ ⟨1, M, rfl, rfl, (h102 hc103)⟩))))
theorem w50 {d : Nat} {h : qH} (hS : qSe h) {x0 : Int} {x1 : Int} {M : qM} {f : Int → qM → Prop} (H :
    (((M 5 x0 8) = x1 →
    b50_12 d h f x0 (.inl x1) 0 M) ∧
    (¬ ((M 5 x0 8) = x1) →
    f 0 M))) : e50 (d + 2) h x0 x1 M f :=
  qJ.body (Nat.le_of_ble_eq_true rfl) (qWq (fun pc => Nat.beq pc 12) 300 (qAn H (fun h101 h102 => And.intro (fun hc103 => (h101 hc103)) (fun hc103 => (And.intro ⟨rfl, (Or.inl rfl)⟩ ⟨0, M, rfl, rfl, (h102 hc103)⟩)))))
theorem w52_18 {d : Nat} {h : qH} (hS : qSe h) {f : qM → Prop} {x2 : Int} {x3 : Int} {u4 : qV} {M : qM} (H :
    ((x3 < 3 →
    (∀ M104, M104 = qU M 6 0 2 0 → b52_31 d h f x2 x3 0 M104)) ∧
    (¬ (x3 < 3) →
    f M))) : b52_18 d h f x2 x3 u4 M :=
  qWq (fun pc => Nat.beq pc 18 || Nat.beq pc 31) 300 (qAn H (fun h101 h102 => And.intro (fun hc103 => ((h101 hc103) _ rfl)) (fun hc103 => (And.intro rfl ⟨M, rfl, rfl, (h102 hc103)⟩))))
theorem w52_31 {d : Nat} {h : qH} (hS : qSe h) {f : qM → Prop} {x2 : Int} {x3 : Int} {x4 : Int} {M : qM} (H :
    ((0 ≤ x3 ∧ x3 < 3) ∧ ((x4 < (M 8 (0 + 3 * x2 + x3) 2) →
    ((0 ≤ x3 ∧ x3 < 3) ∧ (qIn ((M 8 (0 + 3 * x2 + x3) 0) + x4) ∧ (∀ M110, M110 = qU M 6 0 3 ((M 8 (0 + 3 * x2 + x3) 0) + x4) → (∀ M111, M111 = qU M110 6 0 5 0 → ((0 ≤ x3 ∧ x3 < 3) ∧ e53 (d + 3) h x3 M111 (fun M115 => 
      ((0 ≤ x3 ∧ x3 < 3) ∧ ((0 ≤ x3 ∧ x3 < 3) ∧ ((0 ≤ x3 ∧ x3 < 3) ∧ e54 (d + 3) h x3 x3 (1 + 3 * x2 + x3) (0 + 3 * x2 + x3) x4 M115 (fun M124 => 
      (qIn (x4 + 1) ∧ b52_31 d h f x2 x3 (x4 + 1) M124)))))))))))) ∧
    (¬ (x4 < (M 8 (0 + 3 * x2 + x3) 2)) →
    (qIn (x3 + 1) ∧ b52_18 d h f x2 (x3 + 1) (.inl x4) M))))) : b52_31 d h f x2 x3 x4 M :=
  qWq (fun pc => Nat.beq pc 18 || Nat.beq pc 31) 300 (And.intro (hS.1 _ _ _ rfl) (qAn H (fun a101 h102 => And.intro ⟨a101.1, a101.2, hS.2 _ _ _ rfl a101.1 a101.2⟩ (qAn h102 (fun h103 h104 => And.intro (fun hc105 => (And.intro (hS.1 _ _ _ rfl) (qAn (h103 hc105) (fun a106 h107 => And.intro ⟨a106.1, a106.2, hS.2 _ _ _ rfl a106.1 a106.2⟩ (qAn h107 (fun a108 h109 => And.intro a108 (qAn ((h109 _ rfl) _ rfl) (fun a112 h113 => And.intro ⟨a112.1, a112.2, hS.2 _ _ _ rfl a112.1 a112.2⟩ (And.intro rfl (qEv.go h113 (qLq d rfl) (fun M115 h116 => (qAn h116 (fun a117 h118 => And.intro ⟨a117.1, a117.2, hS.2 _ _ _ rfl a117.1 a117.2⟩ (And.intro (hS.1 _ _ _ rfl) (qAn h118 (fun a119 h120 => And.intro ⟨a119.1, a119.2, hS.2 _ _ _ rfl a119.1 a119.2⟩ (And.intro (hS.1 _ _ _ rfl) (qAn h120 (fun a121 h122 => And.intro ⟨a121.1, a121.2, hS.2 _ _ _ rfl a121.1 a121.2⟩ (And.intro rfl (qEv.go h122 (qLq d rfl) (fun M124 h125 => (qAn h125 (fun a126 h127 => And.intro a126 h127)))))))))))))))))))))))) (fun hc105 => (qAn (h104 hc105) (fun a128 h129 => And.intro a128 h129))))))))
theorem w52 {d : Nat} {h : qH} (hS : qSe h) {x2 : Int} {M : qM} {f : qM → Prop} (H :
    qEv (d + 1) 267 [.inr (.inl (some (38, 0))), .inl (-1)] h M (fun M102 => 
    (∀ M104, M104 = qU M102 6 0 4 (M102 3 x2 1) → b52_18 d h f x2 0 (q_u) M104))) : e52 (d + 4) h x2 M f :=
  qJ.body (Nat.le_of_ble_eq_true rfl) (qWq (fun pc => Nat.beq pc 18 || Nat.beq pc 31) 300 (And.intro (hS.1 _ _ _ rfl) (And.intro rfl (qEv.go H (qLq d rfl) (fun M102 h103 => (h103 _ rfl))))))
theorem w53_12 {d : Nat} {h : qH} (hS : qSe h) {f : qM → Prop} {x1 : Int} {x2 : Int} {x3 : Int} {u4 : qV} {M : qM} (H :
    ((x3 < x2 →
    ((0 ≤ x3 ∧ x3 < 60) ∧ (0 ≤ (M 39 0 x3) ∧ (0 ≤ ((M 39 0 x3) / 20) ∧ ((0 ≤ (((M 39 0 x3) / 20) % 10) ∧ (((M 39 0 x3) / 20) % 10) < 10) ∧ (0 ≤ (M 39 0 x3) ∧ ((0 ≤ ((M 39 0 x3) % 20) ∧ ((M 39 0 x3) % 20) < 20) ∧ e55 (d + 2) h (M 39 0 x3) (M 34 (1 + 10 * x1 + (((M 39 0 x3) / 20) % 10)) ((M 39 0 x3) % 20)) 0 M (fun M117 => 
      (qIn (x3 + 1) ∧ b53_12 d h f x1 x2 (x3 + 1) (.inl (M 39 0 x3)) M117))))))))) ∧
    (¬ (x3 < x2) →
    f M))) : b53_12 d h f x1 x2 x3 u4 M :=
  qWq (fun pc => Nat.beq pc 12) 300 (qAn H (fun h101 h102 => And.intro (fun hc103 => (And.intro (hS.1 _ _ _ rfl) (qAn (h101 hc103) (fun a104 h105 => And.intro a104 (And.intro (hS.1 _ _ _ rfl) (qAn h105 (fun a106 h107 => And.intro ⟨a106, by decide⟩ (qAn h107 (fun a108 h109 => And.intro ⟨a108, by decide⟩ (qAn h109 (fun a110 h111 => And.intro ⟨a110.1, a110.2, hS.2 _ _ _ rfl a110.1 a110.2⟩ (And.intro (hS.1 _ _ _ rfl) (qAn h111 (fun a112 h113 => And.intro ⟨a112, by decide⟩ (qAn h113 (fun a114 h115 => And.intro a114 (And.intro rfl (qEv.go h115 (qLq d rfl) (fun M117 h118 => (qAn h118 (fun a119 h120 => And.intro a119 h120))))))))))))))))))))) (fun hc103 => (And.intro rfl ⟨M, rfl, rfl, (h102 hc103)⟩))))
theorem w53 {d : Nat} {h : qH} (hS : qSe h) {x1 : Int} {M : qM} {f : qM → Prop} (H :
    (∀ M101, M101 = qU M 6 0 2 0 → b53_12 d h f x1 (M 6 0 2) 0 (q_u) M101)) : e53 (d + 3) h x1 M f :=
  qJ.body (Nat.le_of_ble_eq_true rfl) (qWq (fun pc => Nat.beq pc 12) 300 (H _ rfl))
theorem w54_57 {d : Nat} {h : qH} (hS : qSe h) {f : qM → Prop} {x1 : Int} {x2 : Int} {x3 : Int} {x4 : Int} {x5 : Int} {x6 : Int} {u7 : qV} {x8 : Int} {x9 : Int} {x10 : Int} {u11 : qV} {u12 : qV} {M : qM} (H :
    ((0 ≤ x5 ∧ x5 < 86) ∧ ((x10 < (M 43 x4 x5) →
    ((x10 ≤ x6 →
      b54_104 d h f x1 x2 x3 x4 x5 x6 (u7) x8 x9 x10 (u11) (u12) M) ∧
      (¬ (x10 ≤ x6) →
      e92 (d + 1) h x3 x10 M (fun v109 M110 => 
        ((v109 = 0 →
        b54_104 d h f x1 x2 x3 x4 x5 x6 (u7) x8 x9 x10 (u11) (u12) M110) ∧
        (¬ (v109 = 0) →
        (∀ x115 : Int, x115 = (if x9 ≤ 0 then 1 else 2) → (qIn (x8 + x115) ∧ (qIn (x9 + (-1)) ∧ b54_104 d h f x1 x2 x3 x4 x5 x6 (u7) (x8 + x115) (x9 + (-1)) x10 (u11) (u12) M110))))))))) ∧
    (¬ (x10 < (M 43 x4 x5)) →
    f M)))) : b54_57 d h f x1 x2 x3 x4 x5 x6 u7 x8 x9 x10 u11 u12 M :=
  qWq (fun pc => Nat.beq pc 57 || Nat.beq pc 98 || Nat.beq pc 104 || Nat.beq pc 127) 300 (And.intro (hS.1 _ _ _ rfl) (qAn H (fun a101 h102 => And.intro a101 (qAn h102 (fun h103 h104 => And.intro (fun hc105 => (qAn (h103 hc105) (fun h106 h107 => And.intro (fun hc108 => (h106 hc108)) (fun hc108 => (And.intro rfl (qEi.go (h107 hc108) (qLq d rfl) (fun v109 M110 h111 => (qAn h111 (fun h112 h113 => And.intro (fun hc114 => (h112 hc114)) (fun hc114 => (have k121 : ∀ (x115 : Int), (qIn (x8 + x115) ∧ (qIn (x9 + (-1)) ∧ b54_104 d h f x1 x2 x3 x4 x5 x6 (u7) (x8 + x115) (x9 + (-1)) x10 (u11) (u12) M110)) → qG (d + 2) (-1, fun _ => 0) (qP 54) (qRv h f) 98 [.inr (.inl (some (6, 0))), .inr (.inl (some (1, x1))), .inl x2, .inr (.inl (some (9, x3))), .inr (.inl (some (8, x4))), .inl x5, .inl x6, u7, .inl x8, .inl x9, .inl x10, u11, u12] [.inl x115, .inl x8] (h, M110) := fun x115 h116 => qWq (fun pc => Nat.beq pc 57 || Nat.beq pc 98 || Nat.beq pc 104 || Nat.beq pc 127) 300 (qAn h116 (fun a117 h118 => And.intro a117 (qAn h118 (fun a119 h120 => And.intro a119 h120)))); (And.intro (fun hc122 => (k121 1 ((h113 hc114) 1 (if_pos hc122).symm))) (fun hc122 => (k121 2 ((h113 hc114) 2 (if_neg hc122).symm))))))))))))))) (fun hc105 => (And.intro rfl ⟨M, rfl, rfl, (h104 hc105)⟩)))))))
theorem w54_104 {d : Nat} {h : qH} (hS : qSe h) {f : qM → Prop} {x1 : Int} {x2 : Int} {x3 : Int} {x4 : Int} {x5 : Int} {x6 : Int} {u7 : qV} {x8 : Int} {x9 : Int} {x10 : Int} {u11 : qV} {u12 : qV} {M : qM} (H :
    ((0 ≤ x10 ∧ x10 < 70) ∧ ((0 ≤ (M 48 x3 x10) ∧ (M 48 x3 x10) < 10) ∧ ((0 ≤ x10 ∧ x10 < 70) ∧ b54_127 d h f x1 x2 x3 x4 x5 x6 (u7) x8 x9 x10 (1 + 10 * x1 + (M 48 x3 x10)) (M 49 x3 x10) M)))) : b54_104 d h f x1 x2 x3 x4 x5 x6 u7 x8 x9 x10 u11 u12 M :=
  qWq (fun pc => Nat.beq pc 57 || Nat.beq pc 104 || Nat.beq pc 127) 300 (And.intro (hS.1 _ _ _ rfl) (And.intro (hS.1 _ _ _ rfl) (qAn H (fun a101 h102 => And.intro a101 (qAn h102 (fun a103 h104 => And.intro ⟨a103.1, a103.2, hS.2 _ _ _ rfl a103.1 a103.2⟩ (And.intro (hS.1 _ _ _ rfl) (qAn h104 (fun a105 h106 => And.intro a105 h106)))))))))
theorem w54_127 {d : Nat} {h : qH} (hS : qSe h) {f : qM → Prop} {x1 : Int} {x2 : Int} {x3 : Int} {x4 : Int} {x5 : Int} {x6 : Int} {u7 : qV} {x8 : Int} {x9 : Int} {x10 : Int} {x11 : Int} {x12 : Int} {M : qM} (H :
    ((0 ≤ x10 ∧ x10 < 70) ∧ ((x12 < (M 50 x3 x10) →
    ((0 ≤ x12 ∧ x12 < 20) ∧ (((M 33 x11 x12) = 5 →
      ((0 ≤ x10 ∧ x10 < 70) ∧ e147 (d + 1) h x2 (M 48 x3 x10) x12 M (fun v113 M114 => 
        ((0 ≤ x12 ∧ x12 < 20) ∧ e55 (d + 2) h v113 (M114 34 x11 x12) x8 M114 (fun M119 => 
        (qIn (x12 + 1) ∧ b54_127 d h f x1 x2 x3 x4 x5 x6 (u7) x8 x9 x10 x11 (x12 + 1) M119)))))) ∧
      (¬ ((M 33 x11 x12) = 5) →
      (qIn (x12 + 1) ∧ b54_127 d h f x1 x2 x3 x4 x5 x6 (u7) x8 x9 x10 x11 (x12 + 1) M))))) ∧
    (¬ (x12 < (M 50 x3 x10)) →
    (qIn (x8 + 1) ∧ (qIn (x10 + 1) ∧ b54_57 d h f x1 x2 x3 x4 x5 x6 (u7) (x8 + 1) x9 (x10 + 1) (.inr (.inl (some (5, x11)))) (.inl x12) M)))))) : b54_127 d h f x1 x2 x3 x4 x5 x6 u7 x8 x9 x10 x11 x12 M :=
  qWq (fun pc => Nat.beq pc 57 || Nat.beq pc 104 || Nat.beq pc 127) 300 (And.intro (hS.1 _ _ _ rfl) (qAn H (fun a101 h102 => And.intro a101 (qAn h102 (fun h103 h104 => And.intro (fun hc105 => (And.intro (hS.1 _ _ _ rfl) (qAn (h103 hc105) (fun a106 h107 => And.intro a106 (qAn h107 (fun h108 h109 => And.intro (fun hc110 => (And.intro (hS.1 _ _ _ rfl) (qAn (h108 hc110) (fun a111 h112 => And.intro a111 (And.intro rfl (qEi.go h112 (qLq d rfl) (fun v113 M114 h115 => (And.intro (hS.1 _ _ _ rfl) (qAn h115 (fun a116 h117 => And.intro a116 (And.intro rfl (qEv.go h117 (qLq d rfl) (fun M119 h120 => (qAn h120 (fun a121 h122 => And.intro a121 h122))))))))))))))) (fun hc110 => (qAn (h109 hc110) (fun a123 h124 => And.intro a123 h124))))))))) (fun hc105 => (qAn (h104 hc105) (fun a125 h126 => And.intro a125 (qAn h126 (fun a127 h128 => And.intro a127 h128))))))))))
theorem w54 {d : Nat} {h : qH} (hS : qSe h) {x1 : Int} {x2 : Int} {x3 : Int} {x4 : Int} {x5 : Int} {M : qM} {f : qM → Prop} (H :
    e82 (d + 1) h x4 x5 M (fun v101 M102 => 
    e83 (d + 1) h x4 x5 M102 (fun v104 M105 => 
    ((0 ≤ x5 ∧ x5 < 86) ∧ (((M105 44 x4 x5) ≤ v104 →
    ((0 ≤ x5 ∧ x5 < 86) ∧ b54_57 d h f x1 x2 x3 x4 x5 v101 (.inl v104) 0 (M105 46 x4 x5) v101 (q_u) (q_u) M105)) ∧
    (¬ ((M105 44 x4 x5) ≤ v104) →
    e93 (d + 1) h x3 v104 M105 (fun v114 M115 => 
      ((0 ≤ x5 ∧ x5 < 86) ∧ b54_57 d h f x1 x2 x3 x4 x5 v101 (.inl v104) v114 (M115 46 x4 x5) v101 (q_u) (q_u) M115)))))))) : e54 (d + 3) h x1 x2 x3 x4 x5 M f :=
  qJ.body (Nat.le_of_ble_eq_true rfl) (qWq (fun pc => Nat.beq pc 57 || Nat.beq pc 104 || Nat.beq pc 127) 300 (And.intro rfl (qEi.go H (qLq d rfl) (fun v101 M102 h103 => (And.intro rfl (qEi.go h103 (qLq d rfl) (fun v104 M105 h106 => (And.intro (hS.1 _ _ _ rfl) (qAn h106 (fun a107 h108 => And.intro a107 (qAn h108 (fun h109 h110 => And.intro (fun hc111 => (And.intro (hS.1 _ _ _ rfl) (qAn (h109 hc111) (fun a112 h113 => And.intro a112 h113)))) (fun hc111 => (And.intro rfl (qEi.go (h110 hc111) (qLq d rfl) (fun v114 M115 h116 => (And.intro (hS.1 _ _ _ rfl) (qAn h116 (fun a117 h118 => And.intro a117 h118)))))))))))))))))))
theorem w55 {d : Nat} {h : qH} (hS : qSe h) {x1 : Int} {x2 : Int} {x3 : Int} {M : qM} {f : qM → Prop} (H :
    e264 (d + 1) h x3 (M 6 0 5) M (fun v101 M102 => 
    (qIn ((M102 6 0 4) - x2) ∧ e265 (d + 1) h v101 ((M102 6 0 4) - x2) M102 (fun v106 M107 => 
    ((v106 < (M107 6 0 5) →
    (((M107 6 0 2) < 60 →
      ((0 ≤ (M107 6 0 2) ∧ (M107 6 0 2) < 60) ∧ ∀ M115, M115 = qU M107 39 0 (M107 6 0 2) x1 → (qIn ((M115 6 0 2) + 1) ∧ (∀ M120, M120 = qU M115 6 0 2 ((M115 6 0 2) + 1) → f M120)))) ∧
      (¬ ((M107 6 0 2) < 60) →
      f M107))) ∧
    (¬ (v106 < (M107 6 0 5)) →
    (qIn (100 * (M107 6 0 3)) ∧ (qIn ((100 * (M107 6 0 3)) + v106) ∧ ((0 ≤ x1 ∧ x1 < 600) ∧ ∀ M125, M125 = qU M107 38 0 x1 ((100 * (M107 6 0 3)) + v106) → (qIn (v106 + x2) ∧ (∀ M130, M130 = qU M125 6 0 5 (v106 + x2) → f M130))))))))))) : e55 (d + 2) h x1 x2 x3 M f :=
  qJ.body (Nat.le_of_ble_eq_true rfl) (qWq (fun pc => false) 300 (And.intro rfl (qEi.go H (qLq d rfl) (fun v101 M102 h103 => (qAn h103 (fun a104 h105 => And.intro a104 (And.intro rfl (qEi.go h105 (qLq d rfl) (fun v106 M107 h108 => (qAn h108 (fun h109 h110 => And.intro (fun hc111 => (qAn (h109 hc111) (fun h112 h113 => And.intro (fun hc114 => (And.intro (hS.1 _ _ _ rfl) (qAn (h112 hc114) (fun a116 h117 => And.intro a116 (qAn (h117 _ rfl) (fun a118 h119 => And.intro a118 (And.intro rfl ⟨(qU (qU M107 39 0 (M107 6 0 2) x1) 6 0 2 (((qU M107 39 0 (M107 6 0 2) x1) 6 0 2) + 1)), rfl, rfl, (h119 _ rfl)⟩))))))) (fun hc114 => (And.intro rfl ⟨M107, rfl, rfl, (h113 hc114)⟩))))) (fun hc111 => (And.intro (hS.1 _ _ _ rfl) (qAn (h110 hc111) (fun a121 h122 => And.intro a121 (qAn h122 (fun a123 h124 => And.intro a123 (qAn h124 (fun a126 h127 => And.intro a126 (qAn (h127 _ rfl) (fun a128 h129 => And.intro a128 (And.intro rfl ⟨(qU (qU M107 38 0 x1 ((100 * (M107 6 0 3)) + v106)) 6 0 5 (v106 + x2)), rfl, rfl, (h129 _ rfl)⟩))))))))))))))))))))))
theorem w57 {d : Nat} {h : qH} (hS : qSe h) {x1 : Int} {x2 : Int} {M : qM} {f : qM → Prop} (H :
    ((x1 : Int) < 1000000 ∧ ∀ M101, M101 = qU M 7 0 3 (x1 + 1) → (∀ M104, M104 = qU M101 7 0 4 x2 → f M104))) : e57 (d + 1) h x1 x2 M f :=
  qJ.body (Nat.le_of_ble_eq_true rfl) (qWq (fun pc => false) 300 (qAn H (fun a102 h103 => And.intro a102 (And.intro rfl ⟨(qU (qU M 7 0 3 (x1 + 1)) 7 0 4 x2), rfl, rfl, ((h103 _ rfl) _ rfl)⟩))))
