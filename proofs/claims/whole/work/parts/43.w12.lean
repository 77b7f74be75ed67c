/-! ===== from cut to cut, by wip/gen/genw.py: methods 206 to 232 ===== -/
theorem w206 {d : Nat} {h : qH} (hS : qSe h) {x1 : Int} {M : qM} {f : Int → qM → Prop} (H :
    (0 ≤ x1 ∧ (qIn (70 * (x1 / 200)) ∧ ((0 ≤ x1 ∧ x1 < 600) ∧ (qIn ((70 * (x1 / 200)) + (M 93 0 x1)) ∧ ((0 ≤ ((70 * (x1 / 200)) + (M 93 0 x1)) ∧ ((70 * (x1 / 200)) + (M 93 0 x1)) < 210) ∧ f (M 92 0 ((70 * (x1 / 200)) + (M 93 0 x1))) M)))))) : e206 (d + 1) h x1 M f :=
  qJ.body (Nat.le_of_ble_eq_true rfl) (qWq (fun pc => false) 300 (qAn H (fun a101 h102 => And.intro ⟨a101, by decide⟩ (And.intro (hS.1 _ _ _ rfl) (qAn h102 (fun a103 h104 => And.intro a103 (And.intro (hS.1 _ _ _ rfl) (qAn h104 (fun a105 h106 => And.intro a105 (qAn h106 (fun a107 h108 => And.intro a107 (qAn h108 (fun a109 h110 => And.intro a109 ⟨(M 92 0 ((70 * (x1 / 200)) + (M 93 0 x1))), M, rfl, rfl, h110⟩)))))))))))))
theorem w207_4 {d : Nat} {h : qH} (hS : qSe h) {f : Int → qM → Prop} {x1 : Int} {x2 : Int} {x3 : Int} {M : qM} (H :
    ((x3 < 600 →
    e205 (d + 1) h x3 M (fun v104 M105 => 
      ((¬ (v104 = 0) → ((0 ≤ x3 ∧ x3 < 600) ∧ ((M105 70 0 x3) = 1 → (0 ≤ x3 ∧ x3 < 600)))) ∧
      (∀ x107 : Int, x107 = (if v104 = 0 then x2 else (if (M105 70 0 x3) = 1 then (if (M105 71 0 x3) = x1 then x3 else x2) else x2)) → (qIn (x3 + 1) ∧ b207_4 d h f x1 x107 (x3 + 1) M105))))) ∧
    (¬ (x3 < 600) →
    f x2 M))) : b207_4 d h f x1 x2 x3 M :=
  qWq (fun pc => Nat.beq pc 4 || Nat.beq pc 44) 300 (qAn H (fun h101 h102 => And.intro (fun hc103 => (And.intro rfl (qEi.go (h101 hc103) (qLq d rfl) (fun v104 M105 h106 => (qAn h106 (fun h112 h113 => (have k111 : ∀ (x107 : Int), (qIn (x3 + 1) ∧ b207_4 d h f x1 x107 (x3 + 1) M105) → qG (d + 1) (-1, fun _ => 0) (qP 207) (qRi h f) 44 [.inr (.inl (some (11, 0))), .inl x1, .inl x2, .inl x3] [.inl x107] (h, M105) := fun x107 h108 => qWq (fun pc => Nat.beq pc 4 || Nat.beq pc 44) 300 (qAn h108 (fun a109 h110 => And.intro a109 h110)); (And.intro (fun hc114 => (k111 x2 (h113 x2 (if_pos hc114).symm))) (fun hc114 => (And.intro (hS.1 _ _ _ rfl) (And.intro (h112 hc114).1 (And.intro (fun hc115 => (And.intro (hS.1 _ _ _ rfl) (And.intro ((h112 hc114).2 hc115) (And.intro (fun hc116 => (k111 x3 (h113 x3 ((if_neg hc114).trans ((if_pos hc115).trans (if_pos hc116))).symm))) (fun hc116 => (k111 x2 (h113 x2 ((if_neg hc114).trans ((if_pos hc115).trans (if_neg hc116))).symm))))))) (fun hc115 => (k111 x2 (h113 x2 ((if_neg hc114).trans (if_neg hc115)).symm))))))))))))))) (fun hc103 => ⟨x2, M, rfl, rfl, (h102 hc103)⟩)))
theorem w207 {d : Nat} {h : qH} (hS : qSe h) {x1 : Int} {M : qM} {f : Int → qM → Prop} (H :
    b207_4 d h f x1 (-1) 0 M) : e207 (d + 2) h x1 M f :=
  qJ.body (Nat.le_of_ble_eq_true rfl) (qWq (fun pc => Nat.beq pc 4) 300 H)
theorem w208 {d : Nat} {h : qH} (hS : qSe h) {x1 : Int} {M : qM} {f : Int → qM → Prop} (H :
    ((0 ≤ x1 ∧ x1 < 600) ∧ e207 (d + 2) h (M 71 0 x1) M (fun v103 M104 => 
    ((v103 = (-1) →
    f 0 M104) ∧
    (¬ (v103 = (-1)) →
    e206 (d + 1) h x1 M104 (fun v109 M110 => 
      e206 (d + 1) h v103 M110 (fun v112 M113 => 
      ((¬ (v109 = v112) → (qIn (v109 + 1) ∧ ((v112 = (v109 + 1) → (0 ≤ v109 ∧ (¬ ((v109 % 2) = 1) → qIn (10 + v112)))) ∧ (¬ (v112 = (v109 + 1)) → qIn (10 + v112))))) ∧
      (∀ x115 : Int, x115 = (if v109 = v112 then 1 else (if v112 = (v109 + 1) then (if (v109 % 2) = 1 then 2 else (10 + v112)) else (10 + v112))) → f x115 M113))))))))) : e208 (d + 3) h x1 M f :=
  qJ.body (Nat.le_of_ble_eq_true rfl) (qWq (fun pc => Nat.beq pc 65) 300 (And.intro (hS.1 _ _ _ rfl) (qAn H (fun a101 h102 => And.intro a101 (And.intro rfl (qEi.go h102 (qLq d rfl) (fun v103 M104 h105 => (qAn h105 (fun h106 h107 => And.intro (fun hc108 => ⟨0, M104, rfl, rfl, (h106 hc108)⟩) (fun hc108 => (And.intro rfl (qEi.go (h107 hc108) (qLq d rfl) (fun v109 M110 h111 => (And.intro rfl (qEi.go h111 (qLq d rfl) (fun v112 M113 h114 => (qAn h114 (fun h118 h119 => (have k117 : ∀ (x115 : Int), f x115 M113 → qG (d + 2) (-1, fun _ => 0) (qP 208) (qRi h f) 65 [.inr (.inl (some (11, 0))), .inl x1, .inl v103, .inl v109, .inl v112] [.inl x115] (h, M113) := fun x115 h116 => qWq (fun pc => Nat.beq pc 65) 300 ⟨x115, M113, rfl, rfl, h116⟩; (And.intro (fun hc120 => (k117 1 (h119 1 (if_pos hc120).symm))) (fun hc120 => (And.intro (h118 hc120).1 (And.intro (fun hc121 => (And.intro ⟨((h118 hc120).2.1 hc121).1, by decide⟩ (And.intro (fun hc122 => (k117 2 (h119 2 ((if_neg hc120).trans ((if_pos hc121).trans (if_pos hc122))).symm))) (fun hc122 => (And.intro (((h118 hc120).2.1 hc121).2 hc122) (k117 (10 + v112) (h119 (10 + v112) ((if_neg hc120).trans ((if_pos hc121).trans (if_neg hc122))).symm))))))) (fun hc121 => (And.intro ((h118 hc120).2.2 hc121) (k117 (10 + v112) (h119 (10 + v112) ((if_neg hc120).trans (if_neg hc121)).symm)))))))))))))))))))))))))))
theorem w209 {d : Nat} {h : qH} (hS : qSe h) {x0 : Int} {M : qM} {f : Int → qM → Prop} (H :
    ((x0 = 0 →
    f 2 M) ∧
    (¬ (x0 = 0) →
    ((x0 = 1 →
      f 5 M) ∧
      (¬ (x0 = 1) →
      ((x0 = 2 →
        f 8 M) ∧
        (¬ (x0 = 2) →
        (qIn (x0 - 10) ∧ e154 (d + 1) h (x0 - 10) M (fun v112 M113 => 
          (qIn (5 + v112) ∧ f (5 + v112) M113)))))))))) : e209 (d + 2) h x0 M f :=
  qJ.body (Nat.le_of_ble_eq_true rfl) (qWq (fun pc => false) 300 (qAn H (fun h101 h102 => And.intro (fun hc103 => ⟨2, M, rfl, rfl, (h101 hc103)⟩) (fun hc103 => (qAn (h102 hc103) (fun h104 h105 => And.intro (fun hc106 => ⟨5, M, rfl, rfl, (h104 hc106)⟩) (fun hc106 => (qAn (h105 hc106) (fun h107 h108 => And.intro (fun hc109 => ⟨8, M, rfl, rfl, (h107 hc109)⟩) (fun hc109 => (qAn (h108 hc109) (fun a110 h111 => And.intro a110 (And.intro rfl (qEi.go h111 (qLq d rfl) (fun v112 M113 h114 => (qAn h114 (fun a115 h116 => And.intro a115 ⟨(5 + v112), M113, rfl, rfl, h116⟩)))))))))))))))))
theorem w210_13 {d : Nat} {h : qH} (hS : qSe h) {f : Int → qM → Prop} {x1 : Int} {x2 : Int} {x3 : Int} {x4 : Int} {u5 : qV} {M : qM} (H :
    ((x4 < x1 →
    e205 (d + 1) h x4 M (fun v104 M105 => 
      ((¬ (v104 = 0) → (0 ≤ x4 ∧ x4 < 600)) ∧
      (∀ x107 : Int, x107 = (if v104 = 0 then 0 else (if (M105 70 0 x4) = 2 then 1 else 0)) → ((x107 = 0 →
      (qIn (x3 + 0) ∧ (qIn (x4 + 1) ∧ b210_13 d h f x1 x2 (x3 + 0) (x4 + 1) (.inl x107) M105))) ∧
      (¬ (x107 = 0) →
      ((x2 = 0 →
        (qIn (x3 + 1) ∧ (qIn (x4 + 1) ∧ b210_13 d h f x1 x2 (x3 + 1) (x4 + 1) (.inl x107) M105))) ∧
        (¬ (x2 = 0) →
        e206 (d + 1) h x4 M105 (fun v123 M124 => 
          e206 (d + 1) h x1 M124 (fun v126 M127 => 
          (∀ x129 : Int, x129 = (if v123 = v126 then 1 else 0) → (qIn (x3 + x129) ∧ (qIn (x4 + 1) ∧ b210_13 d h f x1 x2 (x3 + x129) (x4 + 1) (.inl x107) M127))))))))))))) ∧
    (¬ (x4 < x1) →
    f x3 M))) : b210_13 d h f x1 x2 x3 x4 u5 M :=
  qWq (fun pc => Nat.beq pc 13 || Nat.beq pc 44 || Nat.beq pc 75) 300 (qAn H (fun h101 h102 => And.intro (fun hc103 => (And.intro rfl (qEi.go (h101 hc103) (qLq d rfl) (fun v104 M105 h106 => (qAn h106 (fun h138 h139 => (have k137 : ∀ (x107 : Int), ((x107 = 0 → (qIn (x3 + 0) ∧ (qIn (x4 + 1) ∧ b210_13 d h f x1 x2 (x3 + 0) (x4 + 1) (.inl x107) M105))) ∧ (¬ (x107 = 0) → ((x2 = 0 → (qIn (x3 + 1) ∧ (qIn (x4 + 1) ∧ b210_13 d h f x1 x2 (x3 + 1) (x4 + 1) (.inl x107) M105))) ∧ (¬ (x2 = 0) → e206 (d + 1) h x4 M105 (fun v123 M124 =>  e206 (d + 1) h x1 M124 (fun v126 M127 =>  (∀ x129 : Int, x129 = (if v123 = v126 then 1 else 0) → (qIn (x3 + x129) ∧ (qIn (x4 + 1) ∧ b210_13 d h f x1 x2 (x3 + x129) (x4 + 1) (.inl x107) M127))))))))) → qG (d + 1) (-1, fun _ => 0) (qP 210) (qRi h f) 44 [.inr (.inl (some (11, 0))), .inl x1, .inl x2, .inl x3, .inl x4, u5] [.inl x107] (h, M105) := fun x107 h108 => qWq (fun pc => Nat.beq pc 13 || Nat.beq pc 44 || Nat.beq pc 75) 300 (qAn h108 (fun h109 h110 => And.intro (fun hc111 => (qWq (fun pc => Nat.beq pc 13 || Nat.beq pc 44 || Nat.beq pc 75) 300 (qAn (h109 hc111) (fun a112 h113 => And.intro a112 (qAn h113 (fun a114 h115 => And.intro a114 h115)))))) (fun hc111 => (qAn (h110 hc111) (fun h116 h117 => And.intro (fun hc118 => (qWq (fun pc => Nat.beq pc 13 || Nat.beq pc 44 || Nat.beq pc 75) 300 (qAn (h116 hc118) (fun a119 h120 => And.intro a119 (qAn h120 (fun a121 h122 => And.intro a121 h122)))))) (fun hc118 => (And.intro rfl (qEi.go (h117 hc118) (qLq d rfl) (fun v123 M124 h125 => (And.intro rfl (qEi.go h125 (qLq d rfl) (fun v126 M127 h128 => (have k135 : ∀ (x129 : Int), (qIn (x3 + x129) ∧ (qIn (x4 + 1) ∧ b210_13 d h f x1 x2 (x3 + x129) (x4 + 1) (.inl x107) M127)) → qG (d + 1) (-1, fun _ => 0) (qP 210) (qRi h f) 75 [.inr (.inl (some (11, 0))), .inl x1, .inl x2, .inl x3, .inl x4, .inl x107] [.inl x129, .inl x3] (h, M127) := fun x129 h130 => qWq (fun pc => Nat.beq pc 13 || Nat.beq pc 44 || Nat.beq pc 75) 300 (qAn h130 (fun a131 h132 => And.intro a131 (qAn h132 (fun a133 h134 => And.intro a133 h134)))); (And.intro (fun hc136 => (k135 1 (h128 1 (if_pos hc136).symm))) (fun hc136 => (k135 0 (h128 0 (if_neg hc136).symm))))))))))))))))); (And.intro (fun hc140 => (k137 0 (h139 0 (if_pos hc140).symm))) (fun hc140 => (And.intro (hS.1 _ _ _ rfl) (And.intro (h138 hc140) (And.intro (fun hc141 => (k137 1 (h139 1 ((if_neg hc140).trans (if_pos hc141)).symm))) (fun hc141 => (k137 0 (h139 0 ((if_neg hc140).trans (if_neg hc141)).symm))))))))))))))) (fun hc103 => ⟨x3, M, rfl, rfl, (h102 hc103)⟩)))
theorem w210 {d : Nat} {h : qH} (hS : qSe h) {x1 : Int} {x2 : Int} {M : qM} {f : Int → qM → Prop} (H :
    (0 ≤ x1 ∧ (qIn ((x1 / 200) * 200) ∧ b210_13 d h f x1 x2 1 ((x1 / 200) * 200) (q_u) M))) : e210 (d + 2) h x1 x2 M f :=
  qJ.body (Nat.le_of_ble_eq_true rfl) (qWq (fun pc => Nat.beq pc 13) 300 (qAn H (fun a101 h102 => And.intro ⟨a101, by decide⟩ (qAn h102 (fun a103 h104 => And.intro a103 h104)))))
theorem w211_2 {d : Nat} {h : qH} (hS : qSe h) {f : qM → Prop} {x1 : Int} {M : qM} (H :
    ((x1 < 600 →
    ((0 ≤ x1 ∧ x1 < 600) ∧ ∀ M104, M104 = qU M 76 0 x1 0 → e205 (d + 1) h x1 M104 (fun v107 M108 => 
      ((v107 = 0 →
      (qIn (x1 + 1) ∧ b211_2 d h f (x1 + 1) M108)) ∧
      (¬ (v107 = 0) →
      ((0 ≤ x1 ∧ x1 < 600) ∧ (((M108 70 0 x1) = 6 →
        ((0 ≤ x1 ∧ x1 < 600) ∧ ∀ M120, M120 = qU M108 76 0 x1 2 → (qIn (x1 + 1) ∧ b211_2 d h f (x1 + 1) M120))) ∧
        (¬ ((M108 70 0 x1) = 6) →
        ((0 ≤ x1 ∧ x1 < 600) ∧ (((M108 70 0 x1) = 2 →
          (((M108 11 0 3) = 0 →
            e210 (d + 2) h x1 0 M108 (fun v133 M134 => 
              e154 (d + 1) h v133 M134 (fun v136 M137 => 
              ((0 ≤ x1 ∧ x1 < 600) ∧ ∀ M139, M139 = qU M137 76 0 x1 v136 → (qIn (x1 + 1) ∧ b211_2 d h f (x1 + 1) M139))))) ∧
            (¬ ((M108 11 0 3) = 0) →
            ((0 ≤ x1 ∧ x1 < 600) ∧ ∀ M144, M144 = qU M108 76 0 x1 1 → (qIn (x1 + 1) ∧ b211_2 d h f (x1 + 1) M144))))) ∧
          (¬ ((M108 70 0 x1) = 2) →
          ((0 ≤ x1 ∧ x1 < 600) ∧ ∀ M149, M149 = qU M108 76 0 x1 0 → (qIn (x1 + 1) ∧ b211_2 d h f (x1 + 1) M149))))))))))))) ∧
    (¬ (x1 < 600) →
    f M))) : b211_2 d h f x1 M :=
  qWq (fun pc => Nat.beq pc 2) 300 (qAn H (fun h101 h102 => And.intro (fun hc103 => (And.intro (hS.1 _ _ _ rfl) (qAn (h101 hc103) (fun a105 h106 => And.intro a105 (And.intro rfl (qEi.go (h106 _ rfl) (qLq d rfl) (fun v107 M108 h109 => (qAn h109 (fun h110 h111 => And.intro (fun hc112 => (qAn (h110 hc112) (fun a113 h114 => And.intro a113 h114))) (fun hc112 => (And.intro (hS.1 _ _ _ rfl) (And.intro (hS.1 _ _ _ rfl) (qAn (h111 hc112) (fun a115 h116 => And.intro a115 (qAn h116 (fun h117 h118 => And.intro (fun hc119 => (qAn (h117 hc119) (fun a121 h122 => And.intro a121 (qAn (h122 _ rfl) (fun a123 h124 => And.intro a123 h124))))) (fun hc119 => (And.intro (hS.1 _ _ _ rfl) (qAn (h118 hc119) (fun a125 h126 => And.intro a125 (qAn h126 (fun h127 h128 => And.intro (fun hc129 => (qAn (h127 hc129) (fun h130 h131 => And.intro (fun hc132 => (And.intro rfl (qEi.go (h130 hc132) (qLq d rfl) (fun v133 M134 h135 => (And.intro rfl (qEi.go h135 (qLq d rfl) (fun v136 M137 h138 => (qAn h138 (fun a140 h141 => And.intro a140 (qAn (h141 _ rfl) (fun a142 h143 => And.intro a142 h143))))))))))) (fun hc132 => (qAn (h131 hc132) (fun a145 h146 => And.intro a145 (qAn (h146 _ rfl) (fun a147 h148 => And.intro a147 h148)))))))) (fun hc129 => (qAn (h128 hc129) (fun a150 h151 => And.intro a150 (qAn (h151 _ rfl) (fun a152 h153 => And.intro a152 h153))))))))))))))))))))))))))) (fun hc103 => (And.intro rfl ⟨M, rfl, rfl, (h102 hc103)⟩))))
theorem w211 {d : Nat} {h : qH} (hS : qSe h)  {M : qM} {f : qM → Prop} (H :
    b211_2 d h f 0 M) : e211 (d + 3) h  M f :=
  qJ.body (Nat.le_of_ble_eq_true rfl) (qWq (fun pc => Nat.beq pc 2) 300 H)
theorem w212_2 {d : Nat} {h : qH} (hS : qSe h) {f : qM → Prop} {x1 : Int} {M : qM} (H :
    ((x1 < 600 →
    ((0 ≤ x1 ∧ x1 < 600) ∧ ∀ M104, M104 = qU M 77 0 x1 0 → e205 (d + 1) h x1 M104 (fun v107 M108 => 
      ((v107 = 0 →
      (qIn (x1 + 1) ∧ b212_2 d h f (x1 + 1) M108)) ∧
      (¬ (v107 = 0) →
      ((0 ≤ x1 ∧ x1 < 600) ∧ (((M108 70 0 x1) = 6 →
        e208 (d + 3) h x1 M108 (fun v120 M121 => 
          e209 (d + 2) h v120 M121 (fun v123 M124 => 
          ((0 ≤ x1 ∧ x1 < 600) ∧ ∀ M126, M126 = qU M124 77 0 x1 v123 → (qIn (x1 + 1) ∧ b212_2 d h f (x1 + 1) M126))))) ∧
        (¬ ((M108 70 0 x1) = 6) →
        ((0 ≤ x1 ∧ x1 < 600) ∧ (((M108 70 0 x1) = 2 →
          e210 (d + 2) h x1 (M108 11 0 3) M108 (fun v136 M137 => 
            e154 (d + 1) h v136 M137 (fun v139 M140 => 
            ((0 ≤ x1 ∧ x1 < 600) ∧ ∀ M142, M142 = qU M140 77 0 x1 v139 → (qIn (x1 + 1) ∧ b212_2 d h f (x1 + 1) M142))))) ∧
          (¬ ((M108 70 0 x1) = 2) →
          ((0 ≤ x1 ∧ x1 < 600) ∧ ∀ M147, M147 = qU M108 77 0 x1 0 → (qIn (x1 + 1) ∧ b212_2 d h f (x1 + 1) M147))))))))))))) ∧
    (¬ (x1 < 600) →
    f M))) : b212_2 d h f x1 M :=
  qWq (fun pc => Nat.beq pc 2) 300 (qAn H (fun h101 h102 => And.intro (fun hc103 => (And.intro (hS.1 _ _ _ rfl) (qAn (h101 hc103) (fun a105 h106 => And.intro a105 (And.intro rfl (qEi.go (h106 _ rfl) (qLq d rfl) (fun v107 M108 h109 => (qAn h109 (fun h110 h111 => And.intro (fun hc112 => (qAn (h110 hc112) (fun a113 h114 => And.intro a113 h114))) (fun hc112 => (And.intro (hS.1 _ _ _ rfl) (And.intro (hS.1 _ _ _ rfl) (qAn (h111 hc112) (fun a115 h116 => And.intro a115 (qAn h116 (fun h117 h118 => And.intro (fun hc119 => (And.intro rfl (qEi.go (h117 hc119) (qLq d rfl) (fun v120 M121 h122 => (And.intro rfl (qEi.go h122 (qLq d rfl) (fun v123 M124 h125 => (qAn h125 (fun a127 h128 => And.intro a127 (qAn (h128 _ rfl) (fun a129 h130 => And.intro a129 h130))))))))))) (fun hc119 => (And.intro (hS.1 _ _ _ rfl) (qAn (h118 hc119) (fun a131 h132 => And.intro a131 (qAn h132 (fun h133 h134 => And.intro (fun hc135 => (And.intro rfl (qEi.go (h133 hc135) (qLq d rfl) (fun v136 M137 h138 => (And.intro rfl (qEi.go h138 (qLq d rfl) (fun v139 M140 h141 => (qAn h141 (fun a143 h144 => And.intro a143 (qAn (h144 _ rfl) (fun a145 h146 => And.intro a145 h146))))))))))) (fun hc135 => (qAn (h134 hc135) (fun a148 h149 => And.intro a148 (qAn (h149 _ rfl) (fun a150 h151 => And.intro a150 h151))))))))))))))))))))))))))) (fun hc103 => (And.intro rfl ⟨M, rfl, rfl, (h102 hc103)⟩))))
theorem w212 {d : Nat} {h : qH} (hS : qSe h)  {M : qM} {f : qM → Prop} (H :
    b212_2 d h f 0 M) : e212 (d + 4) h  M f :=
  qJ.body (Nat.le_of_ble_eq_true rfl) (qWq (fun pc => Nat.beq pc 2) 300 H)
theorem w213_9 {d : Nat} {h : qH} (hS : qSe h) {f : Int → qM → Prop} {x1 : Int} {x2 : Int} {u3 : qV} {u4 : qV} {M : qM} (H :
    ((x2 < 0 →
    f x1 M) ∧
    (¬ (x2 < 0) →
    b213_18 d h f x1 x2 1 0 M))) : b213_9 d h f x1 x2 u3 u4 M :=
  qWq (fun pc => Nat.beq pc 9 || Nat.beq pc 18) 300 (qAn H (fun h101 h102 => And.intro (fun hc103 => ⟨x1, M, rfl, rfl, (h101 hc103)⟩) (fun hc103 => (h102 hc103))))
theorem w213_18 {d : Nat} {h : qH} (hS : qSe h) {f : Int → qM → Prop} {x1 : Int} {x2 : Int} {x3 : Int} {x4 : Int} {M : qM} (H :
    ((x4 < 600 →
    ((¬ (x3 = 0) → (qIn (600 * x2) ∧ (qIn ((600 * x2) + x4) ∧ ((0 ≤ ((600 * x2) + x4) ∧ ((600 * x2) + x4) < 7200) ∧ (0 ≤ x4 ∧ x4 < 600))))) ∧
      (∀ x104 : Int, x104 = (if x3 = 0 then 0 else (if (M 78 0 ((600 * x2) + x4)) = (M 77 0 x4) then 1 else 0)) → (qIn (x4 + 1) ∧ b213_18 d h f x1 x2 x104 (x4 + 1) M)))) ∧
    (¬ (x4 < 600) →
    (∀ x113 : Int, x113 = (if x3 = 0 then x1 else x2) → (qIn (x2 + (-1)) ∧ b213_9 d h f x113 (x2 + (-1)) (.inl x3) (.inl x4) M))))) : b213_18 d h f x1 x2 x3 x4 M :=
  qWq (fun pc => Nat.beq pc 9 || Nat.beq pc 18 || Nat.beq pc 58 || Nat.beq pc 74) 300 (qAn H (fun h101 h102 => And.intro (fun hc103 => (qAn (h101 hc103) (fun h109 h110 => (have k108 : ∀ (x104 : Int), (qIn (x4 + 1) ∧ b213_18 d h f x1 x2 x104 (x4 + 1) M) → qG (d + 0) (-1, fun _ => 0) (qP 213) (qRi h f) 58 [.inr (.inl (some (11, 0))), .inl x1, .inl x2, .inl x3, .inl x4] [.inl x104] (h, M) := fun x104 h105 => qWq (fun pc => Nat.beq pc 9 || Nat.beq pc 18 || Nat.beq pc 58 || Nat.beq pc 74) 300 (qAn h105 (fun a106 h107 => And.intro a106 h107)); (And.intro (fun hc111 => (k108 0 (h110 0 (if_pos hc111).symm))) (fun hc111 => (And.intro (hS.1 _ _ _ rfl) (And.intro (h109 hc111).1 (And.intro (h109 hc111).2.1 (And.intro (h109 hc111).2.2.1 (And.intro (hS.1 _ _ _ rfl) (And.intro (h109 hc111).2.2.2 (And.intro (fun hc112 => (k108 1 (h110 1 ((if_neg hc111).trans (if_pos hc112)).symm))) (fun hc112 => (k108 0 (h110 0 ((if_neg hc111).trans (if_neg hc112)).symm)))))))))))))))) (fun hc103 => (have k117 : ∀ (x113 : Int), (qIn (x2 + (-1)) ∧ b213_9 d h f x113 (x2 + (-1)) (.inl x3) (.inl x4) M) → qG (d + 0) (-1, fun _ => 0) (qP 213) (qRi h f) 74 [.inr (.inl (some (11, 0))), .inl x1, .inl x2, .inl x3, .inl x4] [.inl x113] (h, M) := fun x113 h114 => qWq (fun pc => Nat.beq pc 9 || Nat.beq pc 18 || Nat.beq pc 58 || Nat.beq pc 74) 300 (qAn h114 (fun a115 h116 => And.intro a115 h116)); (And.intro (fun hc118 => (k117 x1 ((h102 hc103) x1 (if_pos hc118).symm))) (fun hc118 => (k117 x2 ((h102 hc103) x2 (if_neg hc118).symm))))))))
theorem w213 {d : Nat} {h : qH} (hS : qSe h)  {M : qM} {f : Int → qM → Prop} (H :
    (qIn ((M 11 0 20) - 1) ∧ b213_9 d h f (-1) ((M 11 0 20) - 1) (q_u) (q_u) M)) : e213 (d + 1) h  M f :=
  qJ.body (Nat.le_of_ble_eq_true rfl) (qWq (fun pc => Nat.beq pc 9 || Nat.beq pc 18) 300 (qAn H (fun a101 h102 => And.intro a101 h102)))
theorem w214_2 {d : Nat} {h : qH} (hS : qSe h) {f : qM → Prop} {x1 : Int} {x2 : Int} {u3 : qV} {u4 : qV} {M : qM} (H :
    ((x2 < (M 11 0 20) →
    b214_12 d h f x1 x2 0 (u4) M) ∧
    (¬ (x2 < (M 11 0 20)) →
    f M))) : b214_2 d h f x1 x2 u3 u4 M :=
  qWq (fun pc => Nat.beq pc 2 || Nat.beq pc 12) 300 (qAn H (fun h101 h102 => And.intro (fun hc103 => (h101 hc103)) (fun hc103 => (And.intro rfl ⟨M, rfl, rfl, (h102 hc103)⟩))))
theorem w214_12 {d : Nat} {h : qH} (hS : qSe h) {f : qM → Prop} {x1 : Int} {x2 : Int} {x3 : Int} {u4 : qV} {M : qM} (H :
    ((x3 < 600 →
    (qIn (600 * x2) ∧ (qIn ((600 * x2) + x3) ∧ ((0 ≤ ((600 * x2) + x3) ∧ ((600 * x2) + x3) < 7200) ∧ ((¬ (x2 = x1) → ((0 ≤ x3 ∧ x3 < 600) ∧ ((M 78 0 ((600 * x2) + x3)) ≤ (M 76 0 x3) → (0 ≤ x3 ∧ x3 < 600)))) ∧
      (∀ x110 : Int, x110 = (if x2 = x1 then (M 78 0 ((600 * x2) + x3)) else (if (M 78 0 ((600 * x2) + x3)) ≤ (M 76 0 x3) then (M 76 0 x3) else (M 78 0 ((600 * x2) + x3)))) → ((0 ≤ x3 ∧ x3 < 600) ∧ ∀ M112, M112 = qU M 76 0 x3 x110 → (qIn (x3 + 1) ∧ b214_12 d h f x1 x2 (x3 + 1) (.inl (M 78 0 ((600 * x2) + x3))) M112)))))))) ∧
    (¬ (x3 < 600) →
    (qIn (x2 + 1) ∧ b214_2 d h f x1 (x2 + 1) (.inl x3) (u4) M)))) : b214_12 d h f x1 x2 x3 u4 M :=
  qWq (fun pc => Nat.beq pc 2 || Nat.beq pc 12 || Nat.beq pc 65) 300 (qAn H (fun h101 h102 => And.intro (fun hc103 => (And.intro (hS.1 _ _ _ rfl) (qAn (h101 hc103) (fun a104 h105 => And.intro a104 (qAn h105 (fun a106 h107 => And.intro a106 (qAn h107 (fun a108 h109 => And.intro a108 (And.intro (hS.1 _ _ _ rfl) (qAn h109 (fun h118 h119 => (have k117 : ∀ (x110 : Int), ((0 ≤ x3 ∧ x3 < 600) ∧ ∀ M112, M112 = qU M 76 0 x3 x110 → (qIn (x3 + 1) ∧ b214_12 d h f x1 x2 (x3 + 1) (.inl (M 78 0 ((600 * x2) + x3))) M112)) → qG (d + 0) (-1, fun _ => 0) (qP 214) (qRv h f) 65 [.inr (.inl (some (11, 0))), .inl x1, .inl x2, .inl x3, .inl (M 78 0 ((600 * x2) + x3))] [.inl x110, .inl x3, .inr (.inl (some (76, 0)))] (h, M) := fun x110 h111 => qWq (fun pc => Nat.beq pc 2 || Nat.beq pc 12 || Nat.beq pc 65) 300 (qAn h111 (fun a113 h114 => And.intro a113 (qAn (h114 _ rfl) (fun a115 h116 => And.intro a115 h116)))); (And.intro (fun hc120 => (k117 (M 78 0 ((600 * x2) + x3)) (h119 (M 78 0 ((600 * x2) + x3)) (if_pos hc120).symm))) (fun hc120 => (And.intro (hS.1 _ _ _ rfl) (And.intro (h118 hc120).1 (And.intro (fun hc121 => (And.intro (hS.1 _ _ _ rfl) (And.intro ((h118 hc120).2 hc121) (k117 (M 76 0 x3) (h119 (M 76 0 x3) ((if_neg hc120).trans (if_pos hc121)).symm))))) (fun hc121 => (k117 (M 78 0 ((600 * x2) + x3)) (h119 (M 78 0 ((600 * x2) + x3)) ((if_neg hc120).trans (if_neg hc121)).symm)))))))))))))))))))) (fun hc103 => (qAn (h102 hc103) (fun a122 h123 => And.intro a122 h123)))))
theorem w214 {d : Nat} {h : qH} (hS : qSe h) {x1 : Int} {M : qM} {f : qM → Prop} (H :
    b214_2 d h f x1 x1 (q_u) (q_u) M) : e214 (d + 1) h x1 M f :=
  qJ.body (Nat.le_of_ble_eq_true rfl) (qWq (fun pc => Nat.beq pc 2 || Nat.beq pc 12) 300 H)
theorem w215_19 {d : Nat} {h : qH} (hS : qSe h) {f : Int → qM → Prop} {x1 : Int} {u2 : qV} {u3 : qV} {M : qM} (H :
    b215_21 d h f x1 0 (u3) M) : b215_19 d h f x1 u2 u3 M :=
  qWq (fun pc => Nat.beq pc 19 || Nat.beq pc 21 || Nat.beq pc 110 || Nat.beq pc 147) 300 H
theorem w215_21 {d : Nat} {h : qH} (hS : qSe h) {f : Int → qM → Prop} {x1 : Int} {x2 : Int} {u3 : qV} {M : qM} (H :
    ((x2 < 600 →
    (qIn (600 * (M 11 0 20)) ∧ (qIn ((600 * (M 11 0 20)) + x2) ∧ ((0 ≤ x2 ∧ x2 < 600) ∧ ((0 ≤ ((600 * (M 11 0 20)) + x2) ∧ ((600 * (M 11 0 20)) + x2) < 7200) ∧ ∀ M110, M110 = qU M 78 0 ((600 * (M 11 0 20)) + x2) (M 76 0 x2) → (qIn (x2 + 1) ∧ b215_21 d h f x1 (x2 + 1) (u3) M110)))))) ∧
    (¬ (x2 < 600) →
    e204 (d + 7) h x1 M (fun v115 M116 => 
      ((v115 = 0 →
      f 0 M116) ∧
      (¬ (v115 = 0) →
      (qIn ((M116 11 0 20) + 1) ∧ (∀ M123, M123 = qU M116 11 0 20 ((M116 11 0 20) + 1) → e212 (d + 4) h  M123 (fun M125 => 
        e213 (d + 1) h  M125 (fun v127 M128 => 
        (qIn ((M128 11 0 20) - 1) ∧ ((v127 = ((M128 11 0 20) - 1) →
        f 1 M128) ∧
        (¬ (v127 = ((M128 11 0 20) - 1)) →
        ((v127 = (-1) →
          (((M128 11 0 20) = 12 →
            b215_110 d h f x1 v127 (u3) M128) ∧
            (¬ ((M128 11 0 20) = 12) →
            b215_147 d h f x1 (.inl v127) 0 M128))) ∧
          (¬ (v127 = (-1)) →
          b215_110 d h f x1 v127 (u3) M128))))))))))))))) : b215_21 d h f x1 x2 u3 M :=
  qWq (fun pc => Nat.beq pc 19 || Nat.beq pc 21 || Nat.beq pc 110 || Nat.beq pc 147) 300 (qAn H (fun h101 h102 => And.intro (fun hc103 => (And.intro (hS.1 _ _ _ rfl) (qAn (h101 hc103) (fun a104 h105 => And.intro a104 (qAn h105 (fun a106 h107 => And.intro a106 (And.intro (hS.1 _ _ _ rfl) (qAn h107 (fun a108 h109 => And.intro a108 (qAn h109 (fun a111 h112 => And.intro a111 (qAn (h112 _ rfl) (fun a113 h114 => And.intro a113 h114))))))))))))) (fun hc103 => (And.intro rfl (qEi.go (h102 hc103) (qLq d rfl) (fun v115 M116 h117 => (qAn h117 (fun h118 h119 => And.intro (fun hc120 => (And.intro ⟨rfl, (Or.inl rfl)⟩ ⟨0, M116, rfl, rfl, (h118 hc120)⟩)) (fun hc120 => (qAn (h119 hc120) (fun a121 h122 => And.intro a121 (And.intro rfl (qEv.go (h122 _ rfl) (qLq d rfl) (fun M125 h126 => (And.intro rfl (qEi.go h126 (qLq d rfl) (fun v127 M128 h129 => (qAn h129 (fun a130 h131 => And.intro a130 (qAn h131 (fun h132 h133 => And.intro (fun hc134 => (And.intro ⟨rfl, (Or.inr rfl)⟩ ⟨1, M128, rfl, rfl, (h132 hc134)⟩)) (fun hc134 => (qAn (h133 hc134) (fun h135 h136 => And.intro (fun hc137 => (qAn (h135 hc137) (fun h138 h139 => And.intro (fun hc140 => (h138 hc140)) (fun hc140 => (h139 hc140))))) (fun hc137 => (h136 hc137))))))))))))))))))))))))))
theorem w215_110 {d : Nat} {h : qH} (hS : qSe h) {f : Int → qM → Prop} {x1 : Int} {x2 : Int} {u3 : qV} {M : qM} (H :
    (∀ x101 : Int, x101 = (if x2 = (-1) then 0 else x2) → e214 (d + 1) h x101 M (fun M104 => 
    (∀ M106, M106 = qU M104 11 0 21 1 → (qIn ((M106 11 0 20) + 1) ∧ (∀ M109, M109 = qU M106 11 0 20 ((M106 11 0 20) + 1) → e204 (d + 7) h x1 M109 (fun v110 M111 => 
    ((v110 = 0 ∨ v110 = 1) ∧ f v110 M111)))))))) : b215_110 d h f x1 x2 u3 M :=
  qWq (fun pc => Nat.beq pc 19 || Nat.beq pc 21 || Nat.beq pc 110 || Nat.beq pc 121 || Nat.beq pc 147) 300 (have k113 : ∀ (x101 : Int), e214 (d + 1) h x101 M (fun M104 =>  (∀ M106, M106 = qU M104 11 0 21 1 → (qIn ((M106 11 0 20) + 1) ∧ (∀ M109, M109 = qU M106 11 0 20 ((M106 11 0 20) + 1) → e204 (d + 7) h x1 M109 (fun v110 M111 =>  ((v110 = 0 ∨ v110 = 1) ∧ f v110 M111)))))) → qG (d + 7) (-1, fun _ => 0) (qP 215) (qRi h f) 121 [.inr (.inl (some (11, 0))), .inl x1, .inl x2, u3] [.inl x101, .inr (.inl (some (11, 0)))] (h, M) := fun x101 h102 => qWq (fun pc => Nat.beq pc 19 || Nat.beq pc 21 || Nat.beq pc 110 || Nat.beq pc 121 || Nat.beq pc 147) 300 (And.intro rfl (qEv.go h102 (qLq d rfl) (fun M104 h105 => (And.intro (Or.inr rfl) (qAn (h105 _ rfl) (fun a107 h108 => And.intro a107 (And.intro rfl (qEi.go (h108 _ rfl) (qLq d rfl) (fun v110 M111 h112 => (And.intro ⟨rfl, h112.1⟩ ⟨v110, M111, rfl, rfl, h112.2⟩)))))))))); (And.intro (fun hc114 => (k113 0 (H 0 (if_pos hc114).symm))) (fun hc114 => (k113 x2 (H x2 (if_neg hc114).symm)))))
theorem w215_147 {d : Nat} {h : qH} (hS : qSe h) {f : Int → qM → Prop} {x1 : Int} {u2 : qV} {x3 : Int} {M : qM} (H :
    ((x3 < 600 →
    ((0 ≤ x3 ∧ x3 < 600) ∧ ((0 ≤ x3 ∧ x3 < 600) ∧ ∀ M106, M106 = qU M 76 0 x3 (M 77 0 x3) → (qIn (x3 + 1) ∧ b215_147 d h f x1 (u2) (x3 + 1) M106)))) ∧
    (¬ (x3 < 600) →
    b215_19 d h f x1 (u2) (.inl x3) M))) : b215_147 d h f x1 u2 x3 M :=
  qWq (fun pc => Nat.beq pc 19 || Nat.beq pc 21 || Nat.beq pc 110 || Nat.beq pc 147) 300 (qAn H (fun h101 h102 => And.intro (fun hc103 => (And.intro (hS.1 _ _ _ rfl) (And.intro (hS.1 _ _ _ rfl) (qAn (h101 hc103) (fun a104 h105 => And.intro a104 (qAn h105 (fun a107 h108 => And.intro a107 (qAn (h108 _ rfl) (fun a109 h110 => And.intro a109 h110))))))))) (fun hc103 => (h102 hc103))))
theorem w215 {d : Nat} {h : qH} (hS : qSe h) {x1 : Int} {M : qM} {f : Int → qM → Prop} (H :
    (∀ M101, M101 = qU M 11 0 20 0 → (∀ M102, M102 = qU M101 11 0 23 0 → (∀ M103, M103 = qU M102 11 0 21 0 → e211 (d + 3) h  M103 (fun M105 => 
    b215_19 d h f x1 (q_u) (q_u) M105))))) : e215 (d + 8) h x1 M f :=
  qJ.body (Nat.le_of_ble_eq_true rfl) (qWq (fun pc => Nat.beq pc 19 || Nat.beq pc 21 || Nat.beq pc 110 || Nat.beq pc 147) 300 (And.intro (Or.inl rfl) (And.intro rfl (qEv.go (((H _ rfl) _ rfl) _ rfl) (qLq d rfl) (fun M105 h106 => h106)))))
theorem w216_64 {d : Nat} {h : qH} (hS : qSe h) {f : Int → qM → Prop} {u1 : qV} {x2 : Int} {x3 : Int} {M : qM} (H :
    (qIn (2 * (M 11 0 2)) ∧ (qIn (x2 + (2 * (M 11 0 2))) ∧ (qIn ((x2 + (2 * (M 11 0 2))) - 1) ∧ (qIn (2 * (M 11 0 2)) ∧ ((0 ≤ ((x2 + (2 * (M 11 0 2))) - 1) ∧ 0 < (2 * (M 11 0 2))) ∧ ((x3 < (((x2 + (2 * (M 11 0 2))) - 1) / (2 * (M 11 0 2))) →
    e196 (d + 2) h 5 M (fun M115 => 
      (qIn (x3 + 1) ∧ b216_64 d h f (u1) x2 (x3 + 1) M115))) ∧
    (¬ (x3 < (((x2 + (2 * (M 11 0 2))) - 1) / (2 * (M 11 0 2)))) →
    f (M 11 0 20) M)))))))) : b216_64 d h f u1 x2 x3 M :=
  qWq (fun pc => Nat.beq pc 64) 300 (qAn H (fun a101 h102 => And.intro a101 (qAn h102 (fun a103 h104 => And.intro a103 (qAn h104 (fun a105 h106 => And.intro a105 (qAn h106 (fun a107 h108 => And.intro a107 (qAn h108 (fun a109 h110 => And.intro a109 (qAn h110 (fun h111 h112 => And.intro (fun hc113 => (And.intro rfl (qEv.go (h111 hc113) (qLq d rfl) (fun M115 h116 => (qAn h116 (fun a117 h118 => And.intro a117 h118)))))) (fun hc113 => ⟨(M 11 0 20), M, rfl, rfl, (h112 hc113)⟩)))))))))))))
theorem w216 {d : Nat} {h : qH} (hS : qSe h) {x1 : Int} {M : qM} {f : Int → qM → Prop} (H :
    (∀ x101 : Int, x101 = (if x1 = 0 then 0 else (if (M 11 0 73) = 0 then 1 else 0)) → (∀ M103, M103 = qU M 11 0 0 x101 → (((M103 11 0 0) ≤ 0 →
    e215 (d + 8) h x1 M103 (fun v107 M108 => 
      ((v107 = 0 ∨ v107 = 1) ∧ ∀ M110, M110 = qU M108 11 0 22 v107 → (((M110 11 0 22) = 0 →
      f (-1) M110) ∧
      (¬ ((M110 11 0 22) = 0) →
      (qIn ((M110 11 0 58) + 1) ∧ (∀ M118, M118 = qU M110 11 0 71 ((M110 11 0 58) + 1) → e253 (d + 4) h  M118 (fun v119 M120 => 
        b216_64 d h f (.inl x1) v119 0 M120)))))))) ∧
    (¬ ((M103 11 0 0) ≤ 0) →
    f 0 M103))))) : e216 (d + 9) h x1 M f :=
  qJ.body (Nat.le_of_ble_eq_true rfl) (qWq (fun pc => Nat.beq pc 17 || Nat.beq pc 64) 300 (have k122 : ∀ (x101 : Int), (∀ M103, M103 = qU M 11 0 0 x101 → (((M103 11 0 0) ≤ 0 → e215 (d + 8) h x1 M103 (fun v107 M108 =>  ((v107 = 0 ∨ v107 = 1) ∧ ∀ M110, M110 = qU M108 11 0 22 v107 → (((M110 11 0 22) = 0 → f (-1) M110) ∧ (¬ ((M110 11 0 22) = 0) → (qIn ((M110 11 0 58) + 1) ∧ (∀ M118, M118 = qU M110 11 0 71 ((M110 11 0 58) + 1) → e253 (d + 4) h  M118 (fun v119 M120 =>  b216_64 d h f (.inl x1) v119 0 M120)))))))) ∧ (¬ ((M103 11 0 0) ≤ 0) → f 0 M103))) → qG (d + 8) (-1, fun _ => 0) (qP 216) (qRi h f) 17 [.inr (.inl (some (11, 0))), .inl x1, q_u, q_u] [.inl x101, .inr (.inl (some (11, 0)))] (h, M) := fun x101 h102 => qWq (fun pc => Nat.beq pc 17 || Nat.beq pc 64) 300 (qAn (h102 _ rfl) (fun h104 h105 => And.intro (fun hc106 => (And.intro rfl (qEi.go (h104 hc106) (qLq d rfl) (fun v107 M108 h109 => (qAn h109 (fun a111 h112 => And.intro a111 (qAn (h112 _ rfl) (fun h113 h114 => And.intro (fun hc115 => ⟨(-1), (qU M108 11 0 22 v107), rfl, rfl, (h113 hc115)⟩) (fun hc115 => (qAn (h114 hc115) (fun a116 h117 => And.intro a116 (And.intro rfl (qEi.go (h117 _ rfl) (qLq d rfl) (fun v119 M120 h121 => h121)))))))))))))) (fun hc106 => ⟨0, (qU M 11 0 0 x101), rfl, rfl, (h105 hc106)⟩))); (And.intro (fun hc123 => (k122 0 (H 0 (if_pos hc123).symm))) (fun hc123 => (And.intro (fun hc124 => (k122 1 (H 1 ((if_neg hc123).trans (if_pos hc124)).symm))) (fun hc124 => (k122 0 (H 0 ((if_neg hc123).trans (if_neg hc124)).symm))))))))
theorem w217_56 {d : Nat} {h : qH} (hS : qSe h) {f : Int → qM → Prop} {x1 : Int} {M : qM} (H :
    ((x1 < 3 →
    ((0 ≤ x1 ∧ x1 < 3) ∧ ((0 ≤ x1 ∧ x1 < 3) ∧ ∀ M106, M106 = qU M 118 0 x1 (M 114 0 x1) → ((0 ≤ x1 ∧ x1 < 3) ∧ ((0 ≤ x1 ∧ x1 < 3) ∧ ∀ M111, M111 = qU M106 119 0 x1 (M106 87 0 x1) → (qIn (x1 + 1) ∧ b217_56 d h f (x1 + 1) M111)))))) ∧
    (¬ (x1 < 3) →
    b217_93 d h f 0 M))) : b217_56 d h f x1 M :=
  qWq (fun pc => Nat.beq pc 56 || Nat.beq pc 93 || Nat.beq pc 119) 300 (qAn H (fun h101 h102 => And.intro (fun hc103 => (And.intro (hS.1 _ _ _ rfl) (And.intro (hS.1 _ _ _ rfl) (qAn (h101 hc103) (fun a104 h105 => And.intro a104 (qAn h105 (fun a107 h108 => And.intro a107 (And.intro (hS.1 _ _ _ rfl) (And.intro (hS.1 _ _ _ rfl) (qAn (h108 _ rfl) (fun a109 h110 => And.intro a109 (qAn h110 (fun a112 h113 => And.intro a112 (qAn (h113 _ rfl) (fun a114 h115 => And.intro a114 h115))))))))))))))) (fun hc103 => (h102 hc103))))
theorem w217_93 {d : Nat} {h : qH} (hS : qSe h) {f : Int → qM → Prop} {x1 : Int} {M : qM} (H :
    ((x1 < 30 →
    ((0 ≤ x1 ∧ x1 < 30) ∧ ((0 ≤ x1 ∧ x1 < 30) ∧ ∀ M106, M106 = qU M 120 0 x1 (M 68 0 x1) → (qIn (x1 + 1) ∧ b217_93 d h f (x1 + 1) M106)))) ∧
    (¬ (x1 < 30) →
    b217_119 d h f 0 M))) : b217_93 d h f x1 M :=
  qWq (fun pc => Nat.beq pc 56 || Nat.beq pc 93 || Nat.beq pc 119) 300 (qAn H (fun h101 h102 => And.intro (fun hc103 => (And.intro (hS.1 _ _ _ rfl) (And.intro (hS.1 _ _ _ rfl) (qAn (h101 hc103) (fun a104 h105 => And.intro a104 (qAn h105 (fun a107 h108 => And.intro a107 (qAn (h108 _ rfl) (fun a109 h110 => And.intro a109 h110))))))))) (fun hc103 => (h102 hc103))))
theorem w217_119 {d : Nat} {h : qH} (hS : qSe h) {f : Int → qM → Prop} {x1 : Int} {M : qM} (H :
    ((x1 < 210 →
    ((0 ≤ x1 ∧ x1 < 210) ∧ ((0 ≤ x1 ∧ x1 < 210) ∧ ∀ M106, M106 = qU M 121 0 x1 (M 88 0 x1) → ((0 ≤ x1 ∧ x1 < 210) ∧ ((0 ≤ x1 ∧ x1 < 210) ∧ ∀ M111, M111 = qU M106 122 0 x1 (M106 90 0 x1) → ((0 ≤ x1 ∧ x1 < 210) ∧ ((0 ≤ x1 ∧ x1 < 210) ∧ ∀ M116, M116 = qU M111 123 0 x1 (M111 91 0 x1) → (qIn (x1 + 1) ∧ b217_119 d h f (x1 + 1) M116)))))))) ∧
    (¬ (x1 < 210) →
    e219 (d + 5) h  M (fun M122 => 
      e220 (d + 1) h  M122 (fun M125 => 
      f (M125 11 0 58) M125))))) : b217_119 d h f x1 M :=
  qWq (fun pc => Nat.beq pc 56 || Nat.beq pc 93 || Nat.beq pc 119) 300 (qAn H (fun h101 h102 => And.intro (fun hc103 => (And.intro (hS.1 _ _ _ rfl) (And.intro (hS.1 _ _ _ rfl) (qAn (h101 hc103) (fun a104 h105 => And.intro a104 (qAn h105 (fun a107 h108 => And.intro a107 (And.intro (hS.1 _ _ _ rfl) (And.intro (hS.1 _ _ _ rfl) (qAn (h108 _ rfl) (fun a109 h110 => And.intro a109 (qAn h110 (fun a112 h113 => And.intro a112 (And.intro (hS.1 _ _ _ rfl) (And.intro (hS.1 _ _ _ rfl) (qAn (h113 _ rfl) (fun a114 h115 => And.intro a114 (qAn h115 (fun a117 h118 => And.intro a117 (qAn (h118 _ rfl) (fun a119 h120 => And.intro a119 h120))))))))))))))))))))) (fun hc103 => (And.intro rfl (qEv.go (h102 hc103) (qLq d rfl) (fun M122 h123 => (And.intro rfl (qEv.go h123 (qLq d rfl) (fun M125 h126 => ⟨(M125 11 0 58), M125, rfl, rfl, h126⟩)))))))))
theorem w217 {d : Nat} {h : qH} (hS : qSe h)  {M : qM} {f : Int → qM → Prop} (H :
    (∀ x101 : Int, x101 = (if (M 11 0 22) = 0 then 1 else 0) → (∀ M103, M103 = qU M 11 0 0 x101 → (((M103 11 0 0) ≤ 0 →
    (∀ M107, M107 = qU M103 11 0 73 1 → (∀ M108, M108 = qU M107 11 0 74 (M107 11 0 58) → (∀ M109, M109 = qU M108 11 0 75 (M108 11 0 1) → (∀ M110, M110 = qU M109 11 0 76 (M109 11 0 2) → b217_56 d h f 0 M110))))) ∧
    (¬ ((M103 11 0 0) ≤ 0) →
    f 0 M103))))) : e217 (d + 6) h  M f :=
  qJ.body (Nat.le_of_ble_eq_true rfl) (qWq (fun pc => Nat.beq pc 13 || Nat.beq pc 56 || Nat.beq pc 93 || Nat.beq pc 119) 300 (have k111 : ∀ (x101 : Int), (∀ M103, M103 = qU M 11 0 0 x101 → (((M103 11 0 0) ≤ 0 → (∀ M107, M107 = qU M103 11 0 73 1 → (∀ M108, M108 = qU M107 11 0 74 (M107 11 0 58) → (∀ M109, M109 = qU M108 11 0 75 (M108 11 0 1) → (∀ M110, M110 = qU M109 11 0 76 (M109 11 0 2) → b217_56 d h f 0 M110))))) ∧ (¬ ((M103 11 0 0) ≤ 0) → f 0 M103))) → qG (d + 5) (-1, fun _ => 0) (qP 217) (qRi h f) 13 [.inr (.inl (some (11, 0))), q_u] [.inl x101, .inr (.inl (some (11, 0)))] (h, M) := fun x101 h102 => qWq (fun pc => Nat.beq pc 13 || Nat.beq pc 56 || Nat.beq pc 93 || Nat.beq pc 119) 300 (qAn (h102 _ rfl) (fun h104 h105 => And.intro (fun hc106 => (And.intro (Or.inr rfl) (((((h104 hc106) _ rfl) _ rfl) _ rfl) _ rfl))) (fun hc106 => ⟨0, (qU M 11 0 0 x101), rfl, rfl, (h105 hc106)⟩))); (And.intro (fun hc112 => (k111 1 (H 1 (if_pos hc112).symm))) (fun hc112 => (k111 0 (H 0 (if_neg hc112).symm))))))
theorem w218 {d : Nat} {h : qH} (hS : qSe h) {x1 : Int} {M : qM} {f : Int → qM → Prop} (H :
    ((0 ≤ x1 ∧ x1 < 600) ∧ (((M 70 0 x1) = 6 →
    e208 (d + 3) h x1 M (fun v106 M107 => 
      f v106 M107)) ∧
    (¬ ((M 70 0 x1) = 6) →
    ((0 ≤ x1 ∧ x1 < 600) ∧ (((M 70 0 x1) = 2 →
      e210 (d + 2) h x1 (M 11 0 3) M (fun v114 M115 => 
        f v114 M115)) ∧
      (¬ ((M 70 0 x1) = 2) →
      f 0 M))))))) : e218 (d + 4) h x1 M f :=
  qJ.body (Nat.le_of_ble_eq_true rfl) (qWq (fun pc => false) 300 (And.intro (hS.1 _ _ _ rfl) (qAn H (fun a101 h102 => And.intro a101 (qAn h102 (fun h103 h104 => And.intro (fun hc105 => (And.intro rfl (qEi.go (h103 hc105) (qLq d rfl) (fun v106 M107 h108 => ⟨v106, M107, rfl, rfl, h108⟩)))) (fun hc105 => (And.intro (hS.1 _ _ _ rfl) (qAn (h104 hc105) (fun a109 h110 => And.intro a109 (qAn h110 (fun h111 h112 => And.intro (fun hc113 => (And.intro rfl (qEi.go (h111 hc113) (qLq d rfl) (fun v114 M115 h116 => ⟨v114, M115, rfl, rfl, h116⟩)))) (fun hc113 => ⟨0, M, rfl, rfl, (h112 hc113)⟩)))))))))))))
theorem w219_2 {d : Nat} {h : qH} (hS : qSe h) {f : qM → Prop} {x1 : Int} {M : qM} (H :
    ((x1 < 600 →
    e205 (d + 1) h x1 M (fun v104 M105 => 
      ((v104 = 0 →
      ((0 ≤ x1 ∧ x1 < 600) ∧ ∀ M110, M110 = qU M105 124 0 x1 0 → (qIn (x1 + 1) ∧ b219_2 d h f (x1 + 1) M110))) ∧
      (¬ (v104 = 0) →
      e218 (d + 4) h x1 M105 (fun v115 M116 => 
        ((0 ≤ x1 ∧ x1 < 600) ∧ ∀ M118, M118 = qU M116 124 0 x1 v115 → (qIn (x1 + 1) ∧ b219_2 d h f (x1 + 1) M118))))))) ∧
    (¬ (x1 < 600) →
    b219_40 d h f 0 M))) : b219_2 d h f x1 M :=
  qWq (fun pc => Nat.beq pc 2 || Nat.beq pc 40 || Nat.beq pc 66) 300 (qAn H (fun h101 h102 => And.intro (fun hc103 => (And.intro (hS.1 _ _ _ rfl) (And.intro rfl (qEi.go (h101 hc103) (qLq d rfl) (fun v104 M105 h106 => (qAn h106 (fun h107 h108 => And.intro (fun hc109 => (qAn (h107 hc109) (fun a111 h112 => And.intro a111 (qAn (h112 _ rfl) (fun a113 h114 => And.intro a113 h114))))) (fun hc109 => (And.intro rfl (qEi.go (h108 hc109) (qLq d rfl) (fun v115 M116 h117 => (qAn h117 (fun a119 h120 => And.intro a119 (qAn (h120 _ rfl) (fun a121 h122 => And.intro a121 h122))))))))))))))) (fun hc103 => (h102 hc103))))
theorem w219_40 {d : Nat} {h : qH} (hS : qSe h) {f : qM → Prop} {x1 : Int} {M : qM} (H :
    ((x1 < 12 →
    ((0 ≤ x1 ∧ x1 < 12) ∧ ((0 ≤ x1 ∧ x1 < 12) ∧ ∀ M106, M106 = qU M 125 0 x1 (M 95 0 x1) → (qIn (x1 + 1) ∧ b219_40 d h f (x1 + 1) M106)))) ∧
    (¬ (x1 < 12) →
    b219_66 d h f 0 M))) : b219_40 d h f x1 M :=
  qWq (fun pc => Nat.beq pc 2 || Nat.beq pc 40 || Nat.beq pc 66) 300 (qAn H (fun h101 h102 => And.intro (fun hc103 => (And.intro (hS.1 _ _ _ rfl) (And.intro (hS.1 _ _ _ rfl) (qAn (h101 hc103) (fun a104 h105 => And.intro a104 (qAn h105 (fun a107 h108 => And.intro a107 (qAn (h108 _ rfl) (fun a109 h110 => And.intro a109 h110))))))))) (fun hc103 => (h102 hc103))))
theorem w219_66 {d : Nat} {h : qH} (hS : qSe h) {f : qM → Prop} {x1 : Int} {M : qM} (H :
    ((x1 < 36 →
    ((0 ≤ x1 ∧ x1 < 36) ∧ ((0 ≤ x1 ∧ x1 < 36) ∧ ∀ M106, M106 = qU M 126 0 x1 (M 97 0 x1) → ((0 ≤ x1 ∧ x1 < 36) ∧ ((0 ≤ x1 ∧ x1 < 36) ∧ ∀ M111, M111 = qU M106 127 0 x1 (M106 98 0 x1) → (qIn (x1 + 1) ∧ b219_66 d h f (x1 + 1) M111)))))) ∧
    (¬ (x1 < 36) →
    f M))) : b219_66 d h f x1 M :=
  qWq (fun pc => Nat.beq pc 2 || Nat.beq pc 40 || Nat.beq pc 66) 300 (qAn H (fun h101 h102 => And.intro (fun hc103 => (And.intro (hS.1 _ _ _ rfl) (And.intro (hS.1 _ _ _ rfl) (qAn (h101 hc103) (fun a104 h105 => And.intro a104 (qAn h105 (fun a107 h108 => And.intro a107 (And.intro (hS.1 _ _ _ rfl) (And.intro (hS.1 _ _ _ rfl) (qAn (h108 _ rfl) (fun a109 h110 => And.intro a109 (qAn h110 (fun a112 h113 => And.intro a112 (qAn (h113 _ rfl) (fun a114 h115 => And.intro a114 h115))))))))))))))) (fun hc103 => (And.intro rfl ⟨M, rfl, rfl, (h102 hc103)⟩))))
theorem w219 {d : Nat} {h : qH} (hS : qSe h)  {M : qM} {f : qM → Prop} (H :
    b219_2 d h f 0 M) : e219 (d + 5) h  M f :=
  qJ.body (Nat.le_of_ble_eq_true rfl) (qWq (fun pc => Nat.beq pc 2 || Nat.beq pc 40 || Nat.beq pc 66) 300 H)
theorem w220_2 {d : Nat} {h : qH} (hS : qSe h) {f : qM → Prop} {x1 : Int} {M : qM} (H :
    ((x1 ≤ (M 11 0 58) →
    ((0 ≤ x1 ∧ x1 < 400) ∧ ((0 ≤ x1 ∧ x1 < 400) ∧ ∀ M106, M106 = qU M 128 0 x1 (M 105 0 x1) → ((0 ≤ x1 ∧ x1 < 400) ∧ ((0 ≤ x1 ∧ x1 < 400) ∧ ∀ M111, M111 = qU M106 129 0 x1 (M106 106 0 x1) → ((0 ≤ x1 ∧ x1 < 400) ∧ ((0 ≤ x1 ∧ x1 < 400) ∧ ∀ M116, M116 = qU M111 130 0 x1 (M111 107 0 x1) → ((0 ≤ x1 ∧ x1 < 400) ∧ ((0 ≤ x1 ∧ x1 < 400) ∧ ∀ M121, M121 = qU M116 131 0 x1 (M116 108 0 x1) → ((0 ≤ x1 ∧ x1 < 400) ∧ ((0 ≤ x1 ∧ x1 < 400) ∧ ∀ M126, M126 = qU M121 132 0 x1 (M121 109 0 x1) → ((0 ≤ x1 ∧ x1 < 400) ∧ ((0 ≤ x1 ∧ x1 < 400) ∧ ∀ M131, M131 = qU M126 133 0 x1 (M126 110 0 x1) → ((0 ≤ x1 ∧ x1 < 400) ∧ ((0 ≤ x1 ∧ x1 < 400) ∧ ∀ M136, M136 = qU M131 134 0 x1 (M131 111 0 x1) → ((0 ≤ x1 ∧ x1 < 400) ∧ ((0 ≤ x1 ∧ x1 < 400) ∧ ∀ M141, M141 = qU M136 135 0 x1 (M136 112 0 x1) → (qIn (x1 + 1) ∧ b220_2 d h f (x1 + 1) M141)))))))))))))))))) ∧
    (¬ (x1 ≤ (M 11 0 58)) →
    f M))) : b220_2 d h f x1 M :=
  qWq (fun pc => Nat.beq pc 2) 300 (qAn H (fun h101 h102 => And.intro (fun hc103 => (And.intro (hS.1 _ _ _ rfl) (And.intro (hS.1 _ _ _ rfl) (qAn (h101 hc103) (fun a104 h105 => And.intro a104 (qAn h105 (fun a107 h108 => And.intro a107 (And.intro (hS.1 _ _ _ rfl) (And.intro (hS.1 _ _ _ rfl) (qAn (h108 _ rfl) (fun a109 h110 => And.intro a109 (qAn h110 (fun a112 h113 => And.intro a112 (And.intro (hS.1 _ _ _ rfl) (And.intro (hS.1 _ _ _ rfl) (qAn (h113 _ rfl) (fun a114 h115 => And.intro a114 (qAn h115 (fun a117 h118 => And.intro a117 (And.intro (hS.1 _ _ _ rfl) (And.intro (hS.1 _ _ _ rfl) (qAn (h118 _ rfl) (fun a119 h120 => And.intro a119 (qAn h120 (fun a122 h123 => And.intro a122 (And.intro (hS.1 _ _ _ rfl) (And.intro (hS.1 _ _ _ rfl) (qAn (h123 _ rfl) (fun a124 h125 => And.intro a124 (qAn h125 (fun a127 h128 => And.intro a127 (And.intro (hS.1 _ _ _ rfl) (And.intro (hS.1 _ _ _ rfl) (qAn (h128 _ rfl) (fun a129 h130 => And.intro a129 (qAn h130 (fun a132 h133 => And.intro a132 (And.intro (hS.1 _ _ _ rfl) (And.intro (hS.1 _ _ _ rfl) (qAn (h133 _ rfl) (fun a134 h135 => And.intro a134 (qAn h135 (fun a137 h138 => And.intro a137 (And.intro (hS.1 _ _ _ rfl) (And.intro (hS.1 _ _ _ rfl) (qAn (h138 _ rfl) (fun a139 h140 => And.intro a139 (qAn h140 (fun a142 h143 => And.intro a142 (qAn (h143 _ rfl) (fun a144 h145 => And.intro a144 h145))))))))))))))))))))))))))))))))))))))))))))))))))) (fun hc103 => (And.intro rfl ⟨M, rfl, rfl, (h102 hc103)⟩))))
theorem w220 {d : Nat} {h : qH} (hS : qSe h)  {M : qM} {f : qM → Prop} (H :
    b220_2 d h f 1 M) : e220 (d + 1) h  M f :=
  qJ.body (Nat.le_of_ble_eq_true rfl) (qWq (fun pc => Nat.beq pc 2) 300 H)
theorem w221 {d : Nat} {h : qH} (hS : qSe h)  {M : qM} {f : Int → qM → Prop} (H :
    (∀ M101, M101 = qU M 11 0 0 0 → (((M101 11 0 22) = 0 ∨ (M101 11 0 22) = 1) ∧ f (M101 11 0 22) M101))) : e221 (d + 1) h  M f :=
  qJ.body (Nat.le_of_ble_eq_true rfl) (qWq (fun pc => false) 300 (And.intro ⟨rfl, (H _ rfl).1⟩ ⟨((qU M 11 0 0 0) 11 0 22), (qU M 11 0 0 0), rfl, rfl, (H _ rfl).2⟩))
theorem w222 {d : Nat} {h : qH} (hS : qSe h) {x1 : Int} {M : qM} {f : Int → qM → Prop} (H :
    e155 (d + 2) h x1 M (fun v101 M102 => 
    (∀ x104 : Int, x104 = (if v101 = 0 then 1 else 0) → (∀ M106, M106 = qU M102 11 0 0 x104 → (((M106 11 0 0) ≤ 0 → (0 ≤ x1 ∧ x1 < 3)) ∧
    (∀ x107 : Int, x107 = (if (M106 11 0 0) ≤ 0 then (M106 64 0 x1) else 0) → f x107 M106)))))) : e222 (d + 3) h x1 M f :=
  qJ.body (Nat.le_of_ble_eq_true rfl) (qWq (fun pc => Nat.beq pc 13 || Nat.beq pc 33) 300 (And.intro rfl (qEi.go H (qLq d rfl) (fun v101 M102 h103 => (have k113 : ∀ (x104 : Int), (∀ M106, M106 = qU M102 11 0 0 x104 → (((M106 11 0 0) ≤ 0 → (0 ≤ x1 ∧ x1 < 3)) ∧ (∀ x107 : Int, x107 = (if (M106 11 0 0) ≤ 0 then (M106 64 0 x1) else 0) → f x107 M106))) → qG (d + 2) (-1, fun _ => 0) (qP 222) (qRi h f) 13 [.inr (.inl (some (11, 0))), .inl x1] [.inl x104, .inr (.inl (some (11, 0)))] (h, M102) := fun x104 h105 => qWq (fun pc => Nat.beq pc 13 || Nat.beq pc 33) 300 (qAn (h105 _ rfl) (fun h110 h111 => (have k109 : ∀ (x107 : Int), f x107 (qU M102 11 0 0 x104) → qG (d + 2) (-1, fun _ => 0) (qP 222) (qRi h f) 33 [.inr (.inl (some (11, 0))), .inl x1] [.inl x107] (h, (qU M102 11 0 0 x104)) := fun x107 h108 => qWq (fun pc => Nat.beq pc 13 || Nat.beq pc 33) 300 ⟨x107, (qU M102 11 0 0 x104), rfl, rfl, h108⟩; (And.intro (fun hc112 => (And.intro (hS.1 _ _ _ rfl) (And.intro (h110 hc112) (k109 ((qU M102 11 0 0 x104) 64 0 x1) (h111 ((qU M102 11 0 0 x104) 64 0 x1) (if_pos hc112).symm))))) (fun hc112 => (k109 0 (h111 0 (if_neg hc112).symm))))))); (And.intro (fun hc114 => (k113 1 (h103 1 (if_pos hc114).symm))) (fun hc114 => (k113 0 (h103 0 (if_neg hc114).symm)))))))))
theorem w223 {d : Nat} {h : qH} (hS : qSe h) {x1 : Int} {x2 : Int} {M : qM} {f : Int → qM → Prop} (H :
    e156 (d + 3) h x1 x2 M (fun v101 M102 => 
    (∀ x104 : Int, x104 = (if v101 = 0 then 1 else 0) → (∀ M106, M106 = qU M102 11 0 0 x104 → (((M106 11 0 0) ≤ 0 → (qIn (10 * x1) ∧ (qIn ((10 * x1) + x2) ∧ (0 ≤ ((10 * x1) + x2) ∧ ((10 * x1) + x2) < 30)))) ∧
    (∀ x107 : Int, x107 = (if (M106 11 0 0) ≤ 0 then (M106 67 0 ((10 * x1) + x2)) else 0) → f x107 M106)))))) : e223 (d + 4) h x1 x2 M f :=
  qJ.body (Nat.le_of_ble_eq_true rfl) (qWq (fun pc => Nat.beq pc 15 || Nat.beq pc 40) 300 (And.intro rfl (qEi.go H (qLq d rfl) (fun v101 M102 h103 => (have k113 : ∀ (x104 : Int), (∀ M106, M106 = qU M102 11 0 0 x104 → (((M106 11 0 0) ≤ 0 → (qIn (10 * x1) ∧ (qIn ((10 * x1) + x2) ∧ (0 ≤ ((10 * x1) + x2) ∧ ((10 * x1) + x2) < 30)))) ∧ (∀ x107 : Int, x107 = (if (M106 11 0 0) ≤ 0 then (M106 67 0 ((10 * x1) + x2)) else 0) → f x107 M106))) → qG (d + 3) (-1, fun _ => 0) (qP 223) (qRi h f) 15 [.inr (.inl (some (11, 0))), .inl x1, .inl x2] [.inl x104, .inr (.inl (some (11, 0)))] (h, M102) := fun x104 h105 => qWq (fun pc => Nat.beq pc 15 || Nat.beq pc 40) 300 (qAn (h105 _ rfl) (fun h110 h111 => (have k109 : ∀ (x107 : Int), f x107 (qU M102 11 0 0 x104) → qG (d + 3) (-1, fun _ => 0) (qP 223) (qRi h f) 40 [.inr (.inl (some (11, 0))), .inl x1, .inl x2] [.inl x107] (h, (qU M102 11 0 0 x104)) := fun x107 h108 => qWq (fun pc => Nat.beq pc 15 || Nat.beq pc 40) 300 ⟨x107, (qU M102 11 0 0 x104), rfl, rfl, h108⟩; (And.intro (fun hc112 => (And.intro (hS.1 _ _ _ rfl) (And.intro (h110 hc112).1 (And.intro (h110 hc112).2.1 (And.intro (h110 hc112).2.2 (k109 ((qU M102 11 0 0 x104) 67 0 ((10 * x1) + x2)) (h111 ((qU M102 11 0 0 x104) 67 0 ((10 * x1) + x2)) (if_pos hc112).symm))))))) (fun hc112 => (k109 0 (h111 0 (if_neg hc112).symm))))))); (And.intro (fun hc114 => (k113 1 (h103 1 (if_pos hc114).symm))) (fun hc114 => (k113 0 (h103 0 (if_neg hc114).symm)))))))))
theorem w224 {d : Nat} {h : qH} (hS : qSe h) {x1 : Int} {x2 : Int} {x3 : Int} {M : qM} {f : Int → qM → Prop} (H :
    e157 (d + 4) h x1 x2 x3 M (fun v101 M102 => 
    (∀ x104 : Int, x104 = (if v101 = 0 then 1 else (if (M102 11 0 22) = 0 then 2 else 0)) → (∀ M106, M106 = qU M102 11 0 0 x104 → (∀ x107 : Int, x107 = (if (M106 11 0 0) = 0 then 1 else 0) → ((x107 = 0 ∨ x107 = 1) ∧ f x107 M106)))))) : e224 (d + 5) h x1 x2 x3 M f :=
  qJ.body (Nat.le_of_ble_eq_true rfl) (qWq (fun pc => Nat.beq pc 27 || Nat.beq pc 42) 300 (And.intro rfl (qEi.go H (qLq d rfl) (fun v101 M102 h103 => (have k111 : ∀ (x104 : Int), (∀ M106, M106 = qU M102 11 0 0 x104 → (∀ x107 : Int, x107 = (if (M106 11 0 0) = 0 then 1 else 0) → ((x107 = 0 ∨ x107 = 1) ∧ f x107 M106))) → qG (d + 4) (-1, fun _ => 0) (qP 224) (qRi h f) 27 [.inr (.inl (some (11, 0))), .inl x1, .inl x2, .inl x3] [.inl x104, .inr (.inl (some (11, 0)))] (h, M102) := fun x104 h105 => qWq (fun pc => Nat.beq pc 27 || Nat.beq pc 42) 300 (have k109 : ∀ (x107 : Int), ((x107 = 0 ∨ x107 = 1) ∧ f x107 (qU M102 11 0 0 x104)) → qG (d + 4) (-1, fun _ => 0) (qP 224) (qRi h f) 42 [.inr (.inl (some (11, 0))), .inl x1, .inl x2, .inl x3] [.inl x107] (h, (qU M102 11 0 0 x104)) := fun x107 h108 => qWq (fun pc => Nat.beq pc 27 || Nat.beq pc 42) 300 (And.intro ⟨rfl, h108.1⟩ ⟨x107, (qU M102 11 0 0 x104), rfl, rfl, h108.2⟩); (And.intro (fun hc110 => (k109 1 ((h105 _ rfl) 1 (if_pos hc110).symm))) (fun hc110 => (k109 0 ((h105 _ rfl) 0 (if_neg hc110).symm))))); (And.intro (fun hc112 => (k111 1 (h103 1 (if_pos hc112).symm))) (fun hc112 => (And.intro (fun hc113 => (k111 2 (h103 2 ((if_neg hc112).trans (if_pos hc113)).symm))) (fun hc113 => (k111 0 (h103 0 ((if_neg hc112).trans (if_neg hc113)).symm)))))))))))
theorem w225 {d : Nat} {h : qH} (hS : qSe h) {x1 : Int} {x2 : Int} {x3 : Int} {M : qM} {f : Int → qM → Prop} (H :
    e224 (d + 5) h x1 x2 x3 M (fun v101 M102 => 
    ((v101 = 0 →
    f 0 M102) ∧
    (¬ (v101 = 0) →
    e158 (d + 1) h x1 x2 x3 M102 (fun v107 M108 => 
      e175 (d + 1) h v107 M108 (fun v110 M111 => 
      f v110 M111)))))) : e225 (d + 6) h x1 x2 x3 M f :=
  qJ.body (Nat.le_of_ble_eq_true rfl) (qWq (fun pc => false) 300 (And.intro rfl (qEi.go H (qLq d rfl) (fun v101 M102 h103 => (qAn h103 (fun h104 h105 => And.intro (fun hc106 => ⟨0, M102, rfl, rfl, (h104 hc106)⟩) (fun hc106 => (And.intro rfl (qEi.go (h105 hc106) (qLq d rfl) (fun v107 M108 h109 => (And.intro rfl (qEi.go h109 (qLq d rfl) (fun v110 M111 h112 => ⟨v110, M111, rfl, rfl, h112⟩)))))))))))))
theorem w226 {d : Nat} {h : qH} (hS : qSe h) {x1 : Int} {x2 : Int} {M : qM} {f : Int → qM → Prop} (H :
    e156 (d + 3) h x1 x2 M (fun v101 M102 => 
    (∀ x104 : Int, x104 = (if v101 = 0 then 1 else (if (M102 11 0 22) = 0 then 2 else 0)) → (∀ M106, M106 = qU M102 11 0 0 x104 → (∀ x107 : Int, x107 = (if (M106 11 0 0) = 0 then 1 else 0) → ((x107 = 0 ∨ x107 = 1) ∧ f x107 M106)))))) : e226 (d + 4) h x1 x2 M f :=
  qJ.body (Nat.le_of_ble_eq_true rfl) (qWq (fun pc => Nat.beq pc 26 || Nat.beq pc 41) 300 (And.intro rfl (qEi.go H (qLq d rfl) (fun v101 M102 h103 => (have k111 : ∀ (x104 : Int), (∀ M106, M106 = qU M102 11 0 0 x104 → (∀ x107 : Int, x107 = (if (M106 11 0 0) = 0 then 1 else 0) → ((x107 = 0 ∨ x107 = 1) ∧ f x107 M106))) → qG (d + 3) (-1, fun _ => 0) (qP 226) (qRi h f) 26 [.inr (.inl (some (11, 0))), .inl x1, .inl x2] [.inl x104, .inr (.inl (some (11, 0)))] (h, M102) := fun x104 h105 => qWq (fun pc => Nat.beq pc 26 || Nat.beq pc 41) 300 (have k109 : ∀ (x107 : Int), ((x107 = 0 ∨ x107 = 1) ∧ f x107 (qU M102 11 0 0 x104)) → qG (d + 3) (-1, fun _ => 0) (qP 226) (qRi h f) 41 [.inr (.inl (some (11, 0))), .inl x1, .inl x2] [.inl x107] (h, (qU M102 11 0 0 x104)) := fun x107 h108 => qWq (fun pc => Nat.beq pc 26 || Nat.beq pc 41) 300 (And.intro ⟨rfl, h108.1⟩ ⟨x107, (qU M102 11 0 0 x104), rfl, rfl, h108.2⟩); (And.intro (fun hc110 => (k109 1 ((h105 _ rfl) 1 (if_pos hc110).symm))) (fun hc110 => (k109 0 ((h105 _ rfl) 0 (if_neg hc110).symm))))); (And.intro (fun hc112 => (k111 1 (h103 1 (if_pos hc112).symm))) (fun hc112 => (And.intro (fun hc113 => (k111 2 (h103 2 ((if_neg hc112).trans (if_pos hc113)).symm))) (fun hc113 => (k111 0 (h103 0 ((if_neg hc112).trans (if_neg hc113)).symm)))))))))))
theorem w227 {d : Nat} {h : qH} (hS : qSe h) {x1 : Int} {M : qM} {f : Int → qM → Prop} (H :
    ((0 ≤ x1 ∧ x1 < 30) ∧ (((M 65 0 x1) = 0 → (0 ≤ x1 ∧ x1 < 30)) ∧
    (∀ x103 : Int, x103 = (if (M 65 0 x1) = 0 then (M 81 0 x1) else 1) → f x103 M)))) : e227 (d + 1) h x1 M f :=
  qJ.body (Nat.le_of_ble_eq_true rfl) (qWq (fun pc => Nat.beq pc 19) 300 (And.intro (hS.1 _ _ _ rfl) (qAn H (fun a101 h102 => And.intro a101 (qAn h102 (fun h106 h107 => (have k105 : ∀ (x103 : Int), f x103 M → qG (d + 0) (-1, fun _ => 0) (qP 227) (qRi h f) 19 [.inr (.inl (some (11, 0))), .inl x1] [.inl x103] (h, M) := fun x103 h104 => qWq (fun pc => Nat.beq pc 19) 300 ⟨x103, M, rfl, rfl, h104⟩; (And.intro (fun hc108 => (And.intro (hS.1 _ _ _ rfl) (And.intro (h106 hc108) (k105 (M 81 0 x1) (h107 (M 81 0 x1) (if_pos hc108).symm))))) (fun hc108 => (k105 1 (h107 1 (if_neg hc108).symm)))))))))))
theorem w228 {d : Nat} {h : qH} (hS : qSe h) {x1 : Int} {x2 : Int} {M : qM} {f : Int → qM → Prop} (H :
    e226 (d + 4) h x1 x2 M (fun v101 M102 => 
    ((v101 = 0 →
    f 0 M102) ∧
    (¬ (v101 = 0) →
    (qIn (10 * x1) ∧ (qIn ((10 * x1) + x2) ∧ e227 (d + 1) h ((10 * x1) + x2) M102 (fun v111 M112 => 
      f v111 M112))))))) : e228 (d + 5) h x1 x2 M f :=
  qJ.body (Nat.le_of_ble_eq_true rfl) (qWq (fun pc => false) 300 (And.intro rfl (qEi.go H (qLq d rfl) (fun v101 M102 h103 => (qAn h103 (fun h104 h105 => And.intro (fun hc106 => ⟨0, M102, rfl, rfl, (h104 hc106)⟩) (fun hc106 => (qAn (h105 hc106) (fun a107 h108 => And.intro a107 (qAn h108 (fun a109 h110 => And.intro a109 (And.intro rfl (qEi.go h110 (qLq d rfl) (fun v111 M112 h113 => ⟨v111, M112, rfl, rfl, h113⟩))))))))))))))
theorem w229_63 {d : Nat} {h : qH} (hS : qSe h) {f : Int → qM → Prop} {x1 : Int} {x2 : Int} {x3 : Int} {M : qM} (H :
    (((M 11 0 0) ≤ 0 → (qIn (10 * x1) ∧ (qIn ((10 * x1) + x2) ∧ ((0 ≤ ((10 * x1) + x2) ∧ ((10 * x1) + x2) < 30) ∧ ((M 65 0 ((10 * x1) + x2)) = 0 → (qIn (10 * x1) ∧ (qIn ((10 * x1) + x2) ∧ (qIn (20 * ((10 * x1) + x2)) ∧ (qIn ((20 * ((10 * x1) + x2)) + x3) ∧ (0 ≤ ((20 * ((10 * x1) + x2)) + x3) ∧ ((20 * ((10 * x1) + x2)) + x3) < 600)))))))))) ∧
    (∀ x101 : Int, x101 = (if (M 11 0 0) ≤ 0 then (if (M 65 0 ((10 * x1) + x2)) = 0 then (M 82 0 ((20 * ((10 * x1) + x2)) + x3)) else 0) else 0) → f x101 M))) : b229_63 d h f x1 x2 x3 M :=
  qWq (fun pc => Nat.beq pc 63 || Nat.beq pc 104) 300 (qAn H (fun h104 h105 => (have k103 : ∀ (x101 : Int), f x101 M → qG (d + 3) (-1, fun _ => 0) (qP 229) (qRi h f) 104 [.inr (.inl (some (11, 0))), .inl x1, .inl x2, .inl x3] [.inl x101] (h, M) := fun x101 h102 => qWq (fun pc => Nat.beq pc 63 || Nat.beq pc 104) 300 ⟨x101, M, rfl, rfl, h102⟩; (And.intro (fun hc106 => (And.intro (hS.1 _ _ _ rfl) (And.intro (h104 hc106).1 (And.intro (h104 hc106).2.1 (And.intro (h104 hc106).2.2.1 (And.intro (fun hc107 => (And.intro (hS.1 _ _ _ rfl) (And.intro ((h104 hc106).2.2.2 hc107).1 (And.intro ((h104 hc106).2.2.2 hc107).2.1 (And.intro ((h104 hc106).2.2.2 hc107).2.2.1 (And.intro ((h104 hc106).2.2.2 hc107).2.2.2.1 (And.intro ((h104 hc106).2.2.2 hc107).2.2.2.2 (k103 (M 82 0 ((20 * ((10 * x1) + x2)) + x3)) (h105 (M 82 0 ((20 * ((10 * x1) + x2)) + x3)) ((if_pos hc106).trans (if_pos hc107)).symm))))))))) (fun hc107 => (k103 0 (h105 0 ((if_pos hc106).trans (if_neg hc107)).symm))))))))) (fun hc106 => (k103 0 (h105 0 (if_neg hc106).symm)))))))
theorem w229 {d : Nat} {h : qH} (hS : qSe h) {x1 : Int} {x2 : Int} {x3 : Int} {M : qM} {f : Int → qM → Prop} (H :
    e156 (d + 3) h x1 x2 M (fun v101 M102 => 
    (∀ x104 : Int, x104 = (if v101 = 0 then 1 else (if x3 < 0 then 1 else (if (M102 11 0 22) = 0 then 2 else 0))) → (∀ M106, M106 = qU M102 11 0 0 x104 → (((M106 11 0 0) = 0 →
    (qIn (10 * x1) ∧ (qIn ((10 * x1) + x2) ∧ e227 (d + 1) h ((10 * x1) + x2) M106 (fun v114 M115 => 
      (∀ x117 : Int, x117 = (if x3 < v114 then 0 else 1) → (∀ M119, M119 = qU M115 11 0 0 x117 → b229_63 d h f x1 x2 x3 M119)))))) ∧
    (¬ ((M106 11 0 0) = 0) →
    b229_63 d h f x1 x2 x3 M106)))))) : e229 (d + 4) h x1 x2 x3 M f :=
  qJ.body (Nat.le_of_ble_eq_true rfl) (qWq (fun pc => Nat.beq pc 30 || Nat.beq pc 60 || Nat.beq pc 63) 300 (And.intro rfl (qEi.go H (qLq d rfl) (fun v101 M102 h103 => (have k122 : ∀ (x104 : Int), (∀ M106, M106 = qU M102 11 0 0 x104 → (((M106 11 0 0) = 0 → (qIn (10 * x1) ∧ (qIn ((10 * x1) + x2) ∧ e227 (d + 1) h ((10 * x1) + x2) M106 (fun v114 M115 =>  (∀ x117 : Int, x117 = (if x3 < v114 then 0 else 1) → (∀ M119, M119 = qU M115 11 0 0 x117 → b229_63 d h f x1 x2 x3 M119)))))) ∧ (¬ ((M106 11 0 0) = 0) → b229_63 d h f x1 x2 x3 M106))) → qG (d + 3) (-1, fun _ => 0) (qP 229) (qRi h f) 30 [.inr (.inl (some (11, 0))), .inl x1, .inl x2, .inl x3] [.inl x104, .inr (.inl (some (11, 0)))] (h, M102) := fun x104 h105 => qWq (fun pc => Nat.beq pc 30 || Nat.beq pc 60 || Nat.beq pc 63) 300 (qAn (h105 _ rfl) (fun h107 h108 => And.intro (fun hc109 => (qAn (h107 hc109) (fun a110 h111 => And.intro a110 (qAn h111 (fun a112 h113 => And.intro a112 (And.intro rfl (qEi.go h113 (qLq d rfl) (fun v114 M115 h116 => (have k120 : ∀ (x117 : Int), (∀ M119, M119 = qU M115 11 0 0 x117 → b229_63 d h f x1 x2 x3 M119) → qG (d + 3) (-1, fun _ => 0) (qP 229) (qRi h f) 60 [.inr (.inl (some (11, 0))), .inl x1, .inl x2, .inl x3] [.inl x117, .inr (.inl (some (11, 0)))] (h, M115) := fun x117 h118 => qWq (fun pc => Nat.beq pc 30 || Nat.beq pc 60 || Nat.beq pc 63) 300 (h118 _ rfl); (And.intro (fun hc121 => (k120 0 (h116 0 (if_pos hc121).symm))) (fun hc121 => (k120 1 (h116 1 (if_neg hc121).symm))))))))))))) (fun hc109 => (h108 hc109)))); (And.intro (fun hc123 => (k122 1 (h103 1 (if_pos hc123).symm))) (fun hc123 => (And.intro (fun hc124 => (k122 1 (h103 1 ((if_neg hc123).trans (if_pos hc124)).symm))) (fun hc124 => (And.intro (fun hc125 => (k122 2 (h103 2 ((if_neg hc123).trans ((if_neg hc124).trans (if_pos hc125))).symm))) (fun hc125 => (k122 0 (h103 0 ((if_neg hc123).trans ((if_neg hc124).trans (if_neg hc125))).symm)))))))))))))
theorem w230 {d : Nat} {h : qH} (hS : qSe h) {x1 : Int} {x2 : Int} {M : qM} {f : Int → qM → Prop} (H :
    e226 (d + 4) h x1 x2 M (fun v101 M102 => 
    ((¬ (v101 = 0) → (qIn (10 * x1) ∧ (qIn ((10 * x1) + x2) ∧ ((0 ≤ ((10 * x1) + x2) ∧ ((10 * x1) + x2) < 30) ∧ ((M102 65 0 ((10 * x1) + x2)) = 0 → (qIn (10 * x1) ∧ (qIn ((10 * x1) + x2) ∧ (0 ≤ ((10 * x1) + x2) ∧ ((10 * x1) + x2) < 30)))))))) ∧
    (∀ x104 : Int, x104 = (if v101 = 0 then 0 else (if (M102 65 0 ((10 * x1) + x2)) = 0 then (M102 83 0 ((10 * x1) + x2)) else 0)) → f x104 M102)))) : e230 (d + 5) h x1 x2 M f :=
  qJ.body (Nat.le_of_ble_eq_true rfl) (qWq (fun pc => Nat.beq pc 38) 300 (And.intro rfl (qEi.go H (qLq d rfl) (fun v101 M102 h103 => (qAn h103 (fun h107 h108 => (have k106 : ∀ (x104 : Int), f x104 M102 → qG (d + 4) (-1, fun _ => 0) (qP 230) (qRi h f) 38 [.inr (.inl (some (11, 0))), .inl x1, .inl x2] [.inl x104] (h, M102) := fun x104 h105 => qWq (fun pc => Nat.beq pc 38) 300 ⟨x104, M102, rfl, rfl, h105⟩; (And.intro (fun hc109 => (k106 0 (h108 0 (if_pos hc109).symm))) (fun hc109 => (And.intro (hS.1 _ _ _ rfl) (And.intro (h107 hc109).1 (And.intro (h107 hc109).2.1 (And.intro (h107 hc109).2.2.1 (And.intro (fun hc110 => (And.intro (hS.1 _ _ _ rfl) (And.intro ((h107 hc109).2.2.2 hc110).1 (And.intro ((h107 hc109).2.2.2 hc110).2.1 (And.intro ((h107 hc109).2.2.2 hc110).2.2 (k106 (M102 83 0 ((10 * x1) + x2)) (h108 (M102 83 0 ((10 * x1) + x2)) ((if_neg hc109).trans (if_pos hc110)).symm))))))) (fun hc110 => (k106 0 (h108 0 ((if_neg hc109).trans (if_neg hc110)).symm)))))))))))))))))
theorem w231 {d : Nat} {h : qH} (hS : qSe h) {x1 : Int} {M : qM} {f : Int → qM → Prop} (H :
    e155 (d + 2) h x1 M (fun v101 M102 => 
    (∀ x104 : Int, x104 = (if v101 = 0 then 1 else (if (M102 11 0 22) = 0 then 2 else 0)) → (∀ M106, M106 = qU M102 11 0 0 x104 → (∀ x107 : Int, x107 = (if (M106 11 0 0) = 0 then 1 else 0) → ((x107 = 0 ∨ x107 = 1) ∧ f x107 M106)))))) : e231 (d + 3) h x1 M f :=
  qJ.body (Nat.le_of_ble_eq_true rfl) (qWq (fun pc => Nat.beq pc 24 || Nat.beq pc 39) 300 (And.intro rfl (qEi.go H (qLq d rfl) (fun v101 M102 h103 => (have k111 : ∀ (x104 : Int), (∀ M106, M106 = qU M102 11 0 0 x104 → (∀ x107 : Int, x107 = (if (M106 11 0 0) = 0 then 1 else 0) → ((x107 = 0 ∨ x107 = 1) ∧ f x107 M106))) → qG (d + 2) (-1, fun _ => 0) (qP 231) (qRi h f) 24 [.inr (.inl (some (11, 0))), .inl x1] [.inl x104, .inr (.inl (some (11, 0)))] (h, M102) := fun x104 h105 => qWq (fun pc => Nat.beq pc 24 || Nat.beq pc 39) 300 (have k109 : ∀ (x107 : Int), ((x107 = 0 ∨ x107 = 1) ∧ f x107 (qU M102 11 0 0 x104)) → qG (d + 2) (-1, fun _ => 0) (qP 231) (qRi h f) 39 [.inr (.inl (some (11, 0))), .inl x1] [.inl x107] (h, (qU M102 11 0 0 x104)) := fun x107 h108 => qWq (fun pc => Nat.beq pc 24 || Nat.beq pc 39) 300 (And.intro ⟨rfl, h108.1⟩ ⟨x107, (qU M102 11 0 0 x104), rfl, rfl, h108.2⟩); (And.intro (fun hc110 => (k109 1 ((h105 _ rfl) 1 (if_pos hc110).symm))) (fun hc110 => (k109 0 ((h105 _ rfl) 0 (if_neg hc110).symm))))); (And.intro (fun hc112 => (k111 1 (h103 1 (if_pos hc112).symm))) (fun hc112 => (And.intro (fun hc113 => (k111 2 (h103 2 ((if_neg hc112).trans (if_pos hc113)).symm))) (fun hc113 => (k111 0 (h103 0 ((if_neg hc112).trans (if_neg hc113)).symm)))))))))))
theorem w232 {d : Nat} {h : qH} (hS : qSe h) {x1 : Int} {M : qM} {f : Int → qM → Prop} (H :
    e231 (d + 3) h x1 M (fun v101 M102 => 
    ((¬ (v101 = 0) → (0 ≤ x1 ∧ x1 < 3)) ∧
    (∀ x104 : Int, x104 = (if v101 = 0 then 0 else (M102 87 0 x1)) → f x104 M102)))) : e232 (d + 4) h x1 M f :=
  qJ.body (Nat.le_of_ble_eq_true rfl) (qWq (fun pc => Nat.beq pc 18) 300 (And.intro rfl (qEi.go H (qLq d rfl) (fun v101 M102 h103 => (qAn h103 (fun h107 h108 => (have k106 : ∀ (x104 : Int), f x104 M102 → qG (d + 3) (-1, fun _ => 0) (qP 232) (qRi h f) 18 [.inr (.inl (some (11, 0))), .inl x1] [.inl x104] (h, M102) := fun x104 h105 => qWq (fun pc => Nat.beq pc 18) 300 ⟨x104, M102, rfl, rfl, h105⟩; (And.intro (fun hc109 => (k106 0 (h108 0 (if_pos hc109).symm))) (fun hc109 => (And.intro (hS.1 _ _ _ rfl) (And.intro (h107 hc109) (k106 (M102 87 0 x1) (h108 (M102 87 0 x1) (if_neg hc109).symm)))))))))))))
