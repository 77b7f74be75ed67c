/-! ===== from cut to cut, by wip/p41/gen/genw.py: methods 211 to 219 ===== -/
theorem w211_16 {d : Nat} {h : qH} (hS : qSe h) {f : Int → qM → Prop} {x4 : Int} {x5 : Int} {x6 : Int} {x7 : Int} {u8 : qV} {u9 : qV} {u10 : qV} {u11 : qV} {M : qM} (H :
    ((x7 < 18 →
    b211_26 d h f x4 x5 x6 x7 0 (u9) (u10) (u11) M) ∧
    (¬ (x7 < 18) →
    f 0 M))) : b211_16 d h f x4 x5 x6 x7 u8 u9 u10 u11 M :=
  qWq (fun pc => Nat.beq pc 16 || Nat.beq pc 26) 300 (qAn H (fun h101 h102 => And.intro (fun hc103 => (h101 hc103)) (fun hc103 => ⟨0, M, rfl, rfl, (h102 hc103)⟩)))
theorem w211_26 {d : Nat} {h : qH} (hS : qSe h) {f : Int → qM → Prop} {x4 : Int} {x5 : Int} {x6 : Int} {x7 : Int} {x8 : Int} {u9 : qV} {u10 : qV} {u11 : qV} {M : qM} (H :
    e189 (d + 1) h x7 M (fun v101 M102 => 
    ((x8 < v101 →
    e187 (d + 1) h x7 x8 M102 (fun v107 M108 => 
      e188 (d + 1) h v107 M108 (fun v110 M111 => 
      ((v110 = 1 →
      (((v107 / 128) = x6 →
        e210 (d + 3) h x4 x5 M111 (fun v119 M120 => 
          e210 (d + 3) h x7 x8 M120 (fun v122 M123 => 
          ((¬ (v119 = v122) → (0 ≤ v119 ∧ (((v119 % 2) = 1 → (qIn (v119 + 1) ∧ (¬ (v122 = (v119 + 1)) → qIn (v122 + 10)))) ∧ (¬ ((v119 % 2) = 1) → qIn (v122 + 10))))) ∧
          (∀ x125 : Int, x125 = (if v119 = v122 then 1 else (if (v119 % 2) = 1 then (if v122 = (v119 + 1) then 2 else (v122 + 10)) else (v122 + 10))) → f x125 M123))))) ∧
        (¬ ((v107 / 128) = x6) →
        (qIn (x8 + 1) ∧ b211_26 d h f x4 x5 x6 x7 (x8 + 1) (.inl v107) (u10) (u11) M111)))) ∧
      (¬ (v110 = 1) →
      (qIn (x8 + 1) ∧ b211_26 d h f x4 x5 x6 x7 (x8 + 1) (.inl v107) (u10) (u11) M111)))))) ∧
    (¬ (x8 < v101) →
    (qIn (x7 + 1) ∧ b211_16 d h f x4 x5 x6 (x7 + 1) (.inl x8) (u9) (u10) (u11) M102))))) : b211_26 d h f x4 x5 x6 x7 x8 u9 u10 u11 M :=
  qWq (fun pc => Nat.beq pc 16 || Nat.beq pc 26 || Nat.beq pc 128) 300 (And.intro rfl (qEi.go H (qLq d rfl) (fun v101 M102 h103 => (qAn h103 (fun h104 h105 => And.intro (fun hc106 => (And.intro rfl (qEi.go (h104 hc106) (qLq d rfl) (fun v107 M108 h109 => (And.intro rfl (qEi.go h109 (qLq d rfl) (fun v110 M111 h112 => (qAn h112 (fun h113 h114 => And.intro (fun hc115 => (And.intro ⟨by decide, by decide⟩ (qAn (h113 hc115) (fun h116 h117 => And.intro (fun hc118 => (And.intro rfl (qEi.go (h116 hc118) (qLq d rfl) (fun v119 M120 h121 => (And.intro rfl (qEi.go h121 (qLq d rfl) (fun v122 M123 h124 => (qAn h124 (fun h128 h129 => (have k127 : ∀ (x125 : Int), f x125 M123 → qG (d + 3) (-1, fun _ => 0) (qP 211) (qRi h f) 128 [.inr (.inl (some (64, 0))), .inr (.inl (some (65, 0))), .inr (.inl (some (71, 0))), .inr (.inl (some (76, 0))), .inl x4, .inl x5, .inl x6, .inl x7, .inl x8, .inl v107, .inl v119, .inl v122] [.inl x125] (h, M123) := fun x125 h126 => qWq (fun pc => Nat.beq pc 16 || Nat.beq pc 26 || Nat.beq pc 128) 300 ⟨x125, M123, rfl, rfl, h126⟩; (And.intro (fun hc130 => (k127 1 (h129 1 (if_pos hc130).symm))) (fun hc130 => (And.intro ⟨(h128 hc130).1, by decide⟩ (And.intro (fun hc131 => (And.intro ((h128 hc130).2.1 hc131).1 (And.intro (fun hc132 => (k127 2 (h129 2 ((if_neg hc130).trans ((if_pos hc131).trans (if_pos hc132))).symm))) (fun hc132 => (And.intro (((h128 hc130).2.1 hc131).2 hc132) (k127 (v122 + 10) (h129 (v122 + 10) ((if_neg hc130).trans ((if_pos hc131).trans (if_neg hc132))).symm))))))) (fun hc131 => (And.intro ((h128 hc130).2.2 hc131) (k127 (v122 + 10) (h129 (v122 + 10) ((if_neg hc130).trans (if_neg hc131)).symm)))))))))))))))))) (fun hc118 => (qAn (h117 hc118) (fun a133 h134 => And.intro a133 h134))))))) (fun hc115 => (qAn (h114 hc115) (fun a135 h136 => And.intro a135 h136)))))))))))) (fun hc106 => (qAn (h105 hc106) (fun a137 h138 => And.intro a137 h138))))))))
theorem w211 {d : Nat} {h : qH} (hS : qSe h) {x4 : Int} {x5 : Int} {M : qM} {f : Int → qM → Prop} (H :
    e187 (d + 1) h x4 x5 M (fun v101 M102 => 
    b211_16 d h f x4 x5 (v101 / 128) 0 (q_u) (q_u) (q_u) (q_u) M102)) : e211 (d + 4) h x4 x5 M f :=
  qJ.body (Nat.le_of_ble_eq_true rfl) (qWq (fun pc => Nat.beq pc 16 || Nat.beq pc 26) 300 (And.intro rfl (qEi.go H (qLq d rfl) (fun v101 M102 h103 => (And.intro ⟨by decide, by decide⟩ h103)))))
theorem w212_33 {d : Nat} {h : qH} (hS : qSe h) {f : Int → qM → Prop} {x4 : Int} {x5 : Int} {x6 : Int} {x7 : Int} {x8 : Int} {x9 : Int} {u10 : qV} {M : qM} (H :
    ((x9 ≤ x4 →
    b212_43 d h f x4 x5 x6 x7 x8 x9 0 M) ∧
    (¬ (x9 ≤ x4) →
    f x7 M))) : b212_33 d h f x4 x5 x6 x7 x8 x9 u10 M :=
  qWq (fun pc => Nat.beq pc 33 || Nat.beq pc 43 || Nat.beq pc 71) 300 (qAn H (fun h101 h102 => And.intro (fun hc103 => (h101 hc103)) (fun hc103 => ⟨x7, M, rfl, rfl, (h102 hc103)⟩)))
theorem w212_43 {d : Nat} {h : qH} (hS : qSe h) {f : Int → qM → Prop} {x4 : Int} {x5 : Int} {x6 : Int} {x7 : Int} {x8 : Int} {x9 : Int} {x10 : Int} {M : qM} (H :
    e189 (d + 1) h x9 M (fun v101 M102 => 
    ((x10 < v101 →
    ((x9 = x4 →
      ((x10 ≤ x5 →
        b212_71 d h f x4 x5 x6 x7 x8 x9 x10 M102) ∧
        (¬ (x10 ≤ x5) →
        (qIn (x9 + 1) ∧ b212_33 d h f x4 x5 x6 x7 x8 (x9 + 1) (.inl x10) M102)))) ∧
      (¬ (x9 = x4) →
      b212_71 d h f x4 x5 x6 x7 x8 x9 x10 M102))) ∧
    (¬ (x10 < v101) →
    (qIn (x9 + 1) ∧ b212_33 d h f x4 x5 x6 x7 x8 (x9 + 1) (.inl x10) M102))))) : b212_43 d h f x4 x5 x6 x7 x8 x9 x10 M :=
  qWq (fun pc => Nat.beq pc 33 || Nat.beq pc 43 || Nat.beq pc 71) 300 (And.intro rfl (qEi.go H (qLq d rfl) (fun v101 M102 h103 => (qAn h103 (fun h104 h105 => And.intro (fun hc106 => (qAn (h104 hc106) (fun h107 h108 => And.intro (fun hc109 => (qAn (h107 hc109) (fun h110 h111 => And.intro (fun hc112 => (h110 hc112)) (fun hc112 => (qAn (h111 hc112) (fun a113 h114 => And.intro a113 h114)))))) (fun hc109 => (h108 hc109))))) (fun hc106 => (qAn (h105 hc106) (fun a115 h116 => And.intro a115 h116))))))))
theorem w212_71 {d : Nat} {h : qH} (hS : qSe h) {f : Int → qM → Prop} {x4 : Int} {x5 : Int} {x6 : Int} {x7 : Int} {x8 : Int} {x9 : Int} {x10 : Int} {M : qM} (H :
    e187 (d + 1) h x9 x10 M (fun v101 M102 => 
    e188 (d + 1) h v101 M102 (fun v104 M105 => 
    ((v104 = 2 →
    ((x6 = 0 →
      (qIn (x7 + 1) ∧ (qIn (x10 + 1) ∧ b212_43 d h f x4 x5 x6 (x7 + 1) x8 x9 (x10 + 1) M105))) ∧
      (¬ (x6 = 0) →
      e210 (d + 3) h x9 x10 M105 (fun v117 M118 => 
        ((v117 = x8 → qIn (x7 + 1)) ∧
        (∀ x120 : Int, x120 = (if v117 = x8 then (x7 + 1) else x7) → (qIn (x10 + 1) ∧ b212_43 d h f x4 x5 x6 x120 x8 x9 (x10 + 1) M118))))))) ∧
    (¬ (v104 = 2) →
    (qIn (x10 + 1) ∧ b212_43 d h f x4 x5 x6 x7 x8 x9 (x10 + 1) M105)))))) : b212_71 d h f x4 x5 x6 x7 x8 x9 x10 M :=
  qWq (fun pc => Nat.beq pc 33 || Nat.beq pc 43 || Nat.beq pc 71 || Nat.beq pc 108) 300 (And.intro rfl (qEi.go H (qLq d rfl) (fun v101 M102 h103 => (And.intro rfl (qEi.go h103 (qLq d rfl) (fun v104 M105 h106 => (qAn h106 (fun h107 h108 => And.intro (fun hc109 => (qAn (h107 hc109) (fun h110 h111 => And.intro (fun hc112 => (qAn (h110 hc112) (fun a113 h114 => And.intro a113 (qWq (fun pc => Nat.beq pc 33 || Nat.beq pc 43 || Nat.beq pc 71 || Nat.beq pc 108) 300 (qAn h114 (fun a115 h116 => And.intro a115 h116)))))) (fun hc112 => (And.intro rfl (qEi.go (h111 hc112) (qLq d rfl) (fun v117 M118 h119 => (qAn h119 (fun h125 h126 => (have k124 : ∀ (x120 : Int), (qIn (x10 + 1) ∧ b212_43 d h f x4 x5 x6 x120 x8 x9 (x10 + 1) M118) → qG (d + 3) (-1, fun _ => 0) (qP 212) (qRi h f) 108 [.inr (.inl (some (64, 0))), .inr (.inl (some (65, 0))), .inr (.inl (some (71, 0))), .inr (.inl (some (76, 0))), .inl x4, .inl x5, .inl x6, .inl x120, .inl x8, .inl x9, .inl x10] [] (h, M118) := fun x120 h121 => qWq (fun pc => Nat.beq pc 33 || Nat.beq pc 43 || Nat.beq pc 71 || Nat.beq pc 108) 300 (qAn h121 (fun a122 h123 => And.intro a122 h123)); (And.intro (fun hc127 => (And.intro (h125 hc127) (k124 (x7 + 1) (h126 (x7 + 1) (if_pos hc127).symm)))) (fun hc127 => (k124 x7 (h126 x7 (if_neg hc127).symm)))))))))))))) (fun hc109 => (qWq (fun pc => Nat.beq pc 33 || Nat.beq pc 43 || Nat.beq pc 71 || Nat.beq pc 108) 300 (qAn (h108 hc109) (fun a128 h129 => And.intro a128 h129))))))))))))
theorem w212 {d : Nat} {h : qH} (hS : qSe h) {x4 : Int} {x5 : Int} {x6 : Int} {M : qM} {f : Int → qM → Prop} (H :
    ((x6 = 0 →
    (0 ≤ x4 ∧ (qIn ((x4 / 6) * 6) ∧ b212_33 d h f x4 x5 x6 0 0 ((x4 / 6) * 6) (q_u) M))) ∧
    (¬ (x6 = 0) →
    e210 (d + 3) h x4 x5 M (fun v108 M109 => 
      (0 ≤ x4 ∧ (qIn ((x4 / 6) * 6) ∧ b212_33 d h f x4 x5 x6 0 v108 ((x4 / 6) * 6) (q_u) M109)))))) : e212 (d + 4) h x4 x5 x6 M f :=
  qJ.body (Nat.le_of_ble_eq_true rfl) (qWq (fun pc => Nat.beq pc 33 || Nat.beq pc 43 || Nat.beq pc 71) 300 (qAn H (fun h101 h102 => And.intro (fun hc103 => (qAn (h101 hc103) (fun a104 h105 => And.intro ⟨a104, by decide⟩ (qAn h105 (fun a106 h107 => And.intro a106 h107))))) (fun hc103 => (And.intro rfl (qEi.go (h102 hc103) (qLq d rfl) (fun v108 M109 h110 => (qAn h110 (fun a111 h112 => And.intro ⟨a111, by decide⟩ (qAn h112 (fun a113 h114 => And.intro a113 h114)))))))))))
theorem w213 {d : Nat} {h : qH} (hS : qSe h) {x4 : Int} {x5 : Int} {M : qM} {f : Int → qM → Prop} (H :
    e187 (d + 1) h x4 x5 M (fun v101 M102 => 
    e188 (d + 1) h v101 M102 (fun v104 M105 => 
    ((v104 = 6 →
    e211 (d + 4) h x4 x5 M105 (fun v110 M111 => 
      f v110 M111)) ∧
    (¬ (v104 = 6) →
    ((v104 = 2 →
      (∀ x116 : Int, x116 = (if (M105 76 0 3) = 1 then 1 else 0) → e212 (d + 4) h x4 x5 x116 M105 (fun v118 M119 => 
        f v118 M119))) ∧
      (¬ (v104 = 2) →
      f 0 M105))))))) : e213 (d + 5) h x4 x5 M f :=
  qJ.body (Nat.le_of_ble_eq_true rfl) (qWq (fun pc => Nat.beq pc 60) 300 (And.intro rfl (qEi.go H (qLq d rfl) (fun v101 M102 h103 => (And.intro rfl (qEi.go h103 (qLq d rfl) (fun v104 M105 h106 => (qAn h106 (fun h107 h108 => And.intro (fun hc109 => (And.intro rfl (qEi.go (h107 hc109) (qLq d rfl) (fun v110 M111 h112 => ⟨v110, M111, rfl, rfl, h112⟩)))) (fun hc109 => (qAn (h108 hc109) (fun h113 h114 => And.intro (fun hc115 => (And.intro ⟨by decide, by decide⟩ (have k121 : ∀ (x116 : Int), e212 (d + 4) h x4 x5 x116 M105 (fun v118 M119 =>  f v118 M119) → qG (d + 4) (-1, fun _ => 0) (qP 213) (qRi h f) 60 [.inr (.inl (some (64, 0))), .inr (.inl (some (65, 0))), .inr (.inl (some (71, 0))), .inr (.inl (some (76, 0))), .inl x4, .inl x5, .inl v104] [.inl x116, .inl x5, .inl x4, .inr (.inl (some (76, 0))), .inr (.inl (some (71, 0))), .inr (.inl (some (65, 0))), .inr (.inl (some (64, 0)))] (h, M105) := fun x116 h117 => qWq (fun pc => Nat.beq pc 60) 300 (And.intro rfl (qEi.go h117 (qLq d rfl) (fun v118 M119 h120 => ⟨v118, M119, rfl, rfl, h120⟩))); (And.intro (fun hc122 => (k121 1 ((h113 hc115) 1 (if_pos hc122).symm))) (fun hc122 => (k121 0 ((h113 hc115) 0 (if_neg hc122).symm))))))) (fun hc115 => ⟨0, M105, rfl, rfl, (h114 hc115)⟩)))))))))))))
theorem w214_3 {d : Nat} {h : qH} (hS : qSe h) {f : qM → Prop} {x6 : Int} {x7 : Int} {u8 : qV} {u9 : qV} {u10 : qV} {u11 : qV} {M : qM} (H :
    ((x7 < 18 →
    b214_13 d h f x6 x7 0 (u9) (u10) (u11) M) ∧
    (¬ (x7 < 18) →
    f M))) : b214_3 d h f x6 x7 u8 u9 u10 u11 M :=
  qWq (fun pc => Nat.beq pc 3 || Nat.beq pc 13 || Nat.beq pc 112 || Nat.beq pc 135) 300 (qAn H (fun h101 h102 => And.intro (fun hc103 => (h101 hc103)) (fun hc103 => (And.intro rfl ⟨M, rfl, rfl, (h102 hc103)⟩))))
theorem w214_13 {d : Nat} {h : qH} (hS : qSe h) {f : qM → Prop} {x6 : Int} {x7 : Int} {x8 : Int} {u9 : qV} {u10 : qV} {u11 : qV} {M : qM} (H :
    e189 (d + 1) h x7 M (fun v101 M102 => 
    ((x8 < v101 →
    e187 (d + 1) h x7 x8 M102 (fun v107 M108 => 
      e188 (d + 1) h v107 M108 (fun v110 M111 => 
      ((v110 = 6 →
      ((x6 = 0 →
        e211 (d + 4) h x7 x8 M111 (fun v119 M120 => 
          ((v119 = 0 →
          b214_112 d h f x6 x7 x8 v110 2 (.inl v119) M120) ∧
          (¬ (v119 = 0) →
          ((v119 = 1 →
            b214_112 d h f x6 x7 x8 v110 5 (.inl v119) M120) ∧
            (¬ (v119 = 1) →
            ((v119 = 2 →
              b214_112 d h f x6 x7 x8 v110 8 (.inl v119) M120) ∧
              (¬ (v119 = 2) →
              (qIn (v119 - 10) ∧ e191 (d + 1) h (v119 - 10) M120 (fun v133 M134 => 
                (qIn (5 + v133) ∧ b214_112 d h f x6 x7 x8 v110 (5 + v133) (.inl v119) M134))))))))))) ∧
        (¬ (x6 = 0) →
        b214_112 d h f x6 x7 x8 v110 2 (.inl 0) M111))) ∧
      (¬ (v110 = 6) →
      b214_112 d h f x6 x7 x8 v110 0 (u11) M111))))) ∧
    (¬ (x8 < v101) →
    (qIn (x7 + 1) ∧ b214_3 d h f x6 (x7 + 1) (.inl x8) (u9) (u10) (u11) M102))))) : b214_13 d h f x6 x7 x8 u9 u10 u11 M :=
  qWq (fun pc => Nat.beq pc 3 || Nat.beq pc 13 || Nat.beq pc 112 || Nat.beq pc 135) 300 (And.intro rfl (qEi.go H (qLq d rfl) (fun v101 M102 h103 => (qAn h103 (fun h104 h105 => And.intro (fun hc106 => (And.intro rfl (qEi.go (h104 hc106) (qLq d rfl) (fun v107 M108 h109 => (And.intro rfl (qEi.go h109 (qLq d rfl) (fun v110 M111 h112 => (qAn h112 (fun h113 h114 => And.intro (fun hc115 => (qAn (h113 hc115) (fun h116 h117 => And.intro (fun hc118 => (And.intro rfl (qEi.go (h116 hc118) (qLq d rfl) (fun v119 M120 h121 => (qAn h121 (fun h122 h123 => And.intro (fun hc124 => (h122 hc124)) (fun hc124 => (qAn (h123 hc124) (fun h125 h126 => And.intro (fun hc127 => (h125 hc127)) (fun hc127 => (qAn (h126 hc127) (fun h128 h129 => And.intro (fun hc130 => (h128 hc130)) (fun hc130 => (qAn (h129 hc130) (fun a131 h132 => And.intro a131 (And.intro rfl (qEi.go h132 (qLq d rfl) (fun v133 M134 h135 => (qAn h135 (fun a136 h137 => And.intro a136 h137)))))))))))))))))))) (fun hc118 => (And.intro (fun _ => (h117 hc118)) (fun hc138 => absurd (by decide) hc138)))))) (fun hc115 => (h114 hc115))))))))))) (fun hc106 => (qAn (h105 hc106) (fun a139 h140 => And.intro a139 h140))))))))
theorem w214_112 {d : Nat} {h : qH} (hS : qSe h) {f : qM → Prop} {x6 : Int} {x7 : Int} {x8 : Int} {x9 : Int} {x10 : Int} {u11 : qV} {M : qM} (H :
    ((x9 = 2 →
    ((x6 = 0 →
      b214_135 d h f x6 x7 x8 (.inl x9) (.inl x10) (u11) M) ∧
      (¬ (x6 = 0) →
      (((M 76 0 3) = 1 →
        ((0 ≤ x7 ∧ x7 < 19) ∧ (qIn ((M 67 0 x7) + x8) ∧ ((0 ≤ ((M 67 0 x7) + x8) ∧ ((M 67 0 x7) + x8) < 64) ∧ ∀ M114, M114 = qU M 69 0 ((M 67 0 x7) + x8) 1 → (qIn (x8 + 1) ∧ b214_13 d h f x6 x7 (x8 + 1) (.inl x9) (.inl 1) (u11) M114))))) ∧
        (¬ ((M 76 0 3) = 1) →
        b214_135 d h f x6 x7 x8 (.inl x9) (.inl x10) (u11) M))))) ∧
    (¬ (x9 = 2) →
    ((0 ≤ x7 ∧ x7 < 19) ∧ (qIn ((M 67 0 x7) + x8) ∧ ((0 ≤ ((M 67 0 x7) + x8) ∧ ((M 67 0 x7) + x8) < 64) ∧ ∀ M123, M123 = qU M 69 0 ((M 67 0 x7) + x8) x10 → (qIn (x8 + 1) ∧ b214_13 d h f x6 x7 (x8 + 1) (.inl x9) (.inl x10) (u11) M123))))))) : b214_112 d h f x6 x7 x8 x9 x10 u11 M :=
  qWq (fun pc => Nat.beq pc 3 || Nat.beq pc 13 || Nat.beq pc 112 || Nat.beq pc 135) 300 (qAn H (fun h101 h102 => And.intro (fun hc103 => (qAn (h101 hc103) (fun h104 h105 => And.intro (fun hc106 => (h104 hc106)) (fun hc106 => (And.intro ⟨by decide, by decide⟩ (qAn (h105 hc106) (fun h107 h108 => And.intro (fun hc109 => (qAn (h107 hc109) (fun a110 h111 => And.intro a110 (qAn h111 (fun a112 h113 => And.intro a112 (qAn h113 (fun a115 h116 => And.intro a115 (qAn (h116 _ rfl) (fun a117 h118 => And.intro a117 h118))))))))) (fun hc109 => (h108 hc109))))))))) (fun hc103 => (qAn (h102 hc103) (fun a119 h120 => And.intro a119 (qAn h120 (fun a121 h122 => And.intro a121 (qAn h122 (fun a124 h125 => And.intro a124 (qAn (h125 _ rfl) (fun a126 h127 => And.intro a126 h127)))))))))))
theorem w214_135 {d : Nat} {h : qH} (hS : qSe h) {f : qM → Prop} {x6 : Int} {x7 : Int} {x8 : Int} {u9 : qV} {u10 : qV} {u11 : qV} {M : qM} (H :
    (∀ x101 : Int, x101 = (if (M 76 0 3) = 1 then 1 else 0) → e212 (d + 4) h x7 x8 x101 M (fun v103 M104 => 
    e191 (d + 1) h v103 M104 (fun v106 M107 => 
    ((0 ≤ x7 ∧ x7 < 19) ∧ (qIn ((M107 67 0 x7) + x8) ∧ ((0 ≤ ((M107 67 0 x7) + x8) ∧ ((M107 67 0 x7) + x8) < 64) ∧ ∀ M113, M113 = qU M107 69 0 ((M107 67 0 x7) + x8) v106 → (qIn (x8 + 1) ∧ b214_13 d h f x6 x7 (x8 + 1) (u9) (.inl v106) (u11) M113)))))))) : b214_135 d h f x6 x7 x8 u9 u10 u11 M :=
  qWq (fun pc => Nat.beq pc 3 || Nat.beq pc 13 || Nat.beq pc 112 || Nat.beq pc 135 || Nat.beq pc 157) 300 (And.intro ⟨by decide, by decide⟩ (have k118 : ∀ (x101 : Int), e212 (d + 4) h x7 x8 x101 M (fun v103 M104 =>  e191 (d + 1) h v103 M104 (fun v106 M107 =>  ((0 ≤ x7 ∧ x7 < 19) ∧ (qIn ((M107 67 0 x7) + x8) ∧ ((0 ≤ ((M107 67 0 x7) + x8) ∧ ((M107 67 0 x7) + x8) < 64) ∧ ∀ M113, M113 = qU M107 69 0 ((M107 67 0 x7) + x8) v106 → (qIn (x8 + 1) ∧ b214_13 d h f x6 x7 (x8 + 1) (u9) (.inl v106) (u11) M113)))))) → qG (d + 4) (-1, fun _ => 0) (qP 214) (qRv h f) 157 [.inr (.inl (some (64, 0))), .inr (.inl (some (65, 0))), .inr (.inl (some (67, 0))), .inr (.inl (some (71, 0))), .inr (.inl (some (76, 0))), .inr (.inl (some (69, 0))), .inl x6, .inl x7, .inl x8, u9, u10, u11] [.inl x101, .inl x8, .inl x7, .inr (.inl (some (76, 0))), .inr (.inl (some (71, 0))), .inr (.inl (some (65, 0))), .inr (.inl (some (64, 0)))] (h, M) := fun x101 h102 => qWq (fun pc => Nat.beq pc 3 || Nat.beq pc 13 || Nat.beq pc 112 || Nat.beq pc 135 || Nat.beq pc 157) 300 (And.intro rfl (qEi.go h102 (qLq d rfl) (fun v103 M104 h105 => (And.intro rfl (qEi.go h105 (qLq d rfl) (fun v106 M107 h108 => (qAn h108 (fun a109 h110 => And.intro a109 (qAn h110 (fun a111 h112 => And.intro a111 (qAn h112 (fun a114 h115 => And.intro a114 (qAn (h115 _ rfl) (fun a116 h117 => And.intro a116 h117)))))))))))))); (And.intro (fun hc119 => (k118 1 (H 1 (if_pos hc119).symm))) (fun hc119 => (k118 0 (H 0 (if_neg hc119).symm))))))
theorem w214 {d : Nat} {h : qH} (hS : qSe h) {x6 : Int} {M : qM} {f : qM → Prop} (H :
    b214_3 d h f x6 0 (q_u) (q_u) (q_u) (q_u) M) : e214 (d + 5) h x6 M f :=
  qJ.body (Nat.le_of_ble_eq_true rfl) (qWq (fun pc => Nat.beq pc 3 || Nat.beq pc 13 || Nat.beq pc 112 || Nat.beq pc 135) 300 H)
theorem w215_7 {d : Nat} {h : qH} (hS : qSe h) {f : Int → qH → qM → Prop} {x14 : Int} {x18 : Int} {u19 : qV} {u20 : qV} {u21 : qV} {u22 : qV} {u23 : qV} {M : qM} (H :
    ((x18 < 18 →
    (qIn (x18 + 1) ∧ ((0 ≤ x18 ∧ x18 < 19) ∧ e189 (d + 1) h x18 M (fun v108 M109 => 
      (qIn ((M 67 0 x18) + v108) ∧ ((0 ≤ (x18 + 1) ∧ (x18 + 1) < 19) ∧ ∀ M113, M113 = qU M109 67 0 (x18 + 1) ((M 67 0 x18) + v108) → (qIn (x18 + 1) ∧ b215_7 d h f x14 (x18 + 1) (u19) (u20) (u21) (u22) (u23) M113))))))) ∧
    (¬ (x18 < 18) →
    (∀ M118, M118 = qU M 76 0 9 0 → (∀ M119, M119 = qU M118 76 0 8 0 → e214v1 (d + 5) h 1 M119 (fun M121 => 
      b215_65 d h f x14 0 (u19) (u20) (u21) (u22) (u23) M121)))))) : b215_7 d h f x14 x18 u19 u20 u21 u22 u23 M :=
  qWq (fun pc => Nat.beq pc 7 || Nat.beq pc 65 || Nat.beq pc 75 || Nat.beq pc 99 || Nat.beq pc 215 || Nat.beq pc 283 || Nat.beq pc 294 || Nat.beq pc 377 || Nat.beq pc 396 || Nat.beq pc 520) 300 (qAn H (fun h101 h102 => And.intro (fun hc103 => (qAn (h101 hc103) (fun a104 h105 => And.intro a104 (qAn h105 (fun a106 h107 => And.intro a106 (And.intro rfl (qEi.go h107 (qLq d rfl) (fun v108 M109 h110 => (qAn h110 (fun a111 h112 => And.intro a111 (qAn h112 (fun a114 h115 => And.intro a114 (qAn (h115 _ rfl) (fun a116 h117 => And.intro a116 h117)))))))))))))) (fun hc103 => (And.intro ⟨by decide, by decide⟩ (And.intro ⟨by decide, by decide⟩ (And.intro rfl (qEv.go (((h102 hc103) _ rfl) _ rfl) (qLq d rfl) (fun M121 h122 => h122))))))))
theorem w215_65 {d : Nat} {h : qH} (hS : qSe h) {f : Int → qH → qM → Prop} {x14 : Int} {x18 : Int} {u19 : qV} {u20 : qV} {u21 : qV} {u22 : qV} {u23 : qV} {M : qM} (H :
    ((x18 < 12 →
    b215_75 d h f x14 x18 0 (u20) (u21) (u22) (u23) M) ∧
    (¬ (x18 < 12) →
    f (-1) h M))) : b215_65 d h f x14 x18 u19 u20 u21 u22 u23 M :=
  qWq (fun pc => Nat.beq pc 7 || Nat.beq pc 65 || Nat.beq pc 75 || Nat.beq pc 99 || Nat.beq pc 215 || Nat.beq pc 283 || Nat.beq pc 294 || Nat.beq pc 377 || Nat.beq pc 396 || Nat.beq pc 520) 300 (qAn H (fun h101 h102 => And.intro (fun hc103 => (h101 hc103)) (fun hc103 => ⟨(-1), h, M, rfl, rfl, (h102 hc103)⟩)))
theorem w215_75 {d : Nat} {h : qH} (hS : qSe h) {f : Int → qH → qM → Prop} {x14 : Int} {x18 : Int} {x19 : Int} {u20 : qV} {u21 : qV} {u22 : qV} {u23 : qV} {M : qM} (H :
    ((x19 < 4 →
    (qIn (4 * x18) ∧ (qIn ((4 * x18) + x19) ∧ ((0 ≤ ((4 * x18) + x19) ∧ ((4 * x18) + x19) < 48) ∧ ∀ M108, M108 = qU M 70 0 ((4 * x18) + x19) 0 → (qIn (16 * x19) ∧ b215_99 d h f x14 x18 x19 (16 * x19) (u21) (u22) (u23) M108))))) ∧
    (¬ (x19 < 4) →
    e208 (d + 6) h x14 M (fun v113 z116 M114 =>
      ((v113 = 0 →
      f (-1) z116 M114) ∧
      (¬ (v113 = 0) →
      e214 (d + 5) z116 0 M114 (fun M121 => 
        b215_215 d z116 f x14 x18 1 0 (u21) (u22) (u23) M121))))))) : b215_75 d h f x14 x18 x19 u20 u21 u22 u23 M :=
  qWq (fun pc => Nat.beq pc 7 || Nat.beq pc 65 || Nat.beq pc 75 || Nat.beq pc 99 || Nat.beq pc 215 || Nat.beq pc 283 || Nat.beq pc 294 || Nat.beq pc 377 || Nat.beq pc 396 || Nat.beq pc 520) 300 (qAn H (fun h101 h102 => And.intro (fun hc103 => (qAn (h101 hc103) (fun a104 h105 => And.intro a104 (qAn h105 (fun a106 h107 => And.intro a106 (qAn h107 (fun a109 h110 => And.intro a109 (qAn (h110 _ rfl) (fun a111 h112 => And.intro a111 h112))))))))) (fun hc103 => (And.intro rfl (lXi.go (h102 hc103) (qLq d rfl) (fun v113 z116 M114 h115 => (qAn h115 (fun h117 h118 => And.intro (fun hc119 => ⟨(-1), z116, M114, rfl, rfl, (h117 hc119)⟩) (fun hc119 => (And.intro rfl (qEv.go (h118 hc119) (qLq d rfl) (fun M121 h122 => h122))))))))))))
theorem w215_99 {d : Nat} {h : qH} (hS : qSe h) {f : Int → qH → qM → Prop} {x14 : Int} {x18 : Int} {x19 : Int} {x20 : Int} {u21 : qV} {u22 : qV} {u23 : qV} {M : qM} (H :
    (qIn (16 * x19) ∧ (qIn ((16 * x19) + 16) ∧ ((x20 < ((16 * x19) + 16) →
    ((x20 < (M 67 0 18) →
      (qIn (4 * x18) ∧ (qIn ((4 * x18) + x19) ∧ ((0 ≤ ((4 * x18) + x19) ∧ ((4 * x18) + x19) < 48) ∧ ((0 ≤ x20 ∧ x20 < 64) ∧ (0 ≤ x20 ∧ (qIn (4 * (x20 % 16)) ∧ ((0 ≤ (4 * (x20 % 16)) ∧ (4 * (x20 % 16)) < 64) ∧ ((0 ≤ ((4 * x18) + x19) ∧ ((4 * x18) + x19) < 48) ∧ ∀ M125, M125 = qU M 70 0 ((4 * x18) + x19) (qOrL (M 70 0 ((4 * x18) + x19)) (qWl ((M 68 0 x20) * 2 ^ ((4 * (x20 % 16))).toNat))) → (qIn (x20 + 1) ∧ b215_99 d h f x14 x18 x19 (x20 + 1) (u21) (u22) (u23) M125)))))))))) ∧
      (¬ (x20 < (M 67 0 18)) →
      (qIn (x19 + 1) ∧ b215_75 d h f x14 x18 (x19 + 1) (.inl x20) (u21) (u22) (u23) M)))) ∧
    (¬ (x20 < ((16 * x19) + 16)) →
    (qIn (x19 + 1) ∧ b215_75 d h f x14 x18 (x19 + 1) (.inl x20) (u21) (u22) (u23) M)))))) : b215_99 d h f x14 x18 x19 x20 u21 u22 u23 M :=
  qWq (fun pc => Nat.beq pc 7 || Nat.beq pc 65 || Nat.beq pc 75 || Nat.beq pc 99 || Nat.beq pc 215 || Nat.beq pc 283 || Nat.beq pc 294 || Nat.beq pc 377 || Nat.beq pc 396 || Nat.beq pc 520) 300 (qAn H (fun a101 h102 => And.intro a101 (qAn h102 (fun a103 h104 => And.intro a103 (qAn h104 (fun h105 h106 => And.intro (fun hc107 => (And.intro ⟨by decide, by decide⟩ (qAn (h105 hc107) (fun h108 h109 => And.intro (fun hc110 => (qAn (h108 hc110) (fun a111 h112 => And.intro a111 (qAn h112 (fun a113 h114 => And.intro a113 (qAn h114 (fun a115 h116 => And.intro a115 (qAn h116 (fun a117 h118 => And.intro a117 (qAn h118 (fun a119 h120 => And.intro ⟨a119, by decide⟩ (qAn h120 (fun a121 h122 => And.intro a121 (qAn h122 (fun a123 h124 => And.intro a123 (qAn h124 (fun a126 h127 => And.intro a126 (qAn (h127 _ rfl) (fun a128 h129 => And.intro a128 h129))))))))))))))))))) (fun hc110 => (qAn (h109 hc110) (fun a130 h131 => And.intro a130 h131))))))) (fun hc107 => (qAn (h106 hc107) (fun a132 h133 => And.intro a132 h133)))))))))
theorem w215_215 {d : Nat} {h : qH} (hS : qSe h) {f : Int → qH → qM → Prop} {x14 : Int} {x18 : Int} {x19 : Int} {x20 : Int} {u21 : qV} {u22 : qV} {u23 : qV} {M : qM} (H :
    ((x20 < (M 67 0 18) →
    ((0 ≤ x20 ∧ x20 < 64) ∧ ((0 ≤ x20 ∧ x20 < 64) ∧ (∀ x108 : Int, x108 = (if (M 68 0 x20) = (M 69 0 x20) then 1 else 0) → (qIn (x20 + 1) ∧ b215_215 d h f x14 x18 (qAnd x19 x108) (x20 + 1) (u21) (u22) (u23) M))))) ∧
    (¬ (x20 < (M 67 0 18)) →
    ((x19 = 0 →
      (∀ x117 : Int, x117 = (if x18 = 11 then 0 else (-1)) → (qIn (x18 - 1) ∧ b215_283 d h f x14 x18 (.inl x19) x117 (x18 - 1) (u22) (u23) M))) ∧
      (¬ (x19 = 0) →
      (qIn (x18 + 1) ∧ f (x18 + 1) h M)))))) : b215_215 d h f x14 x18 x19 x20 u21 u22 u23 M :=
  qWq (fun pc => Nat.beq pc 7 || Nat.beq pc 65 || Nat.beq pc 75 || Nat.beq pc 99 || Nat.beq pc 215 || Nat.beq pc 244 || Nat.beq pc 275 || Nat.beq pc 283 || Nat.beq pc 294 || Nat.beq pc 377 || Nat.beq pc 396 || Nat.beq pc 520) 300 (And.intro ⟨by decide, by decide⟩ (qAn H (fun h101 h102 => And.intro (fun hc103 => (qAn (h101 hc103) (fun a104 h105 => And.intro a104 (qAn h105 (fun a106 h107 => And.intro a106 (have k112 : ∀ (x108 : Int), (qIn (x20 + 1) ∧ b215_215 d h f x14 x18 (qAnd x19 x108) (x20 + 1) (u21) (u22) (u23) M) → qG (d + 6) (-1, fun _ => 0) (qP 215) (lXi f) 244 [.inr (.inl (some (64, 0))), .inr (.inl (some (65, 0))), .inr (.inl (some (66, 0))), .inr (.inl (some (67, 0))), .inr (.inl (some (68, 0))), .inr (.inl (some (69, 0))), .inr (.inl (some (70, 0))), .inr (.inl (some (71, 0))), .inr (.inl (some (72, 0))), .inr (.inl (some (73, 0))), .inr (.inl (some (74, 0))), .inr (.inl (some (75, 0))), .inr (.inl (some (76, 0))), .inr (.inl (some (77, 0))), .inl x14, .inr (.inl (some (80, 0))), .inr (.inl (some (81, 0))), .inr (.inl (some (82, 0))), .inl x18, .inl x19, .inl x20, u21, u22, u23] [.inl x108, .inl x19] (h, M) := fun x108 h109 => qWq (fun pc => Nat.beq pc 7 || Nat.beq pc 65 || Nat.beq pc 75 || Nat.beq pc 99 || Nat.beq pc 215 || Nat.beq pc 244 || Nat.beq pc 275 || Nat.beq pc 283 || Nat.beq pc 294 || Nat.beq pc 377 || Nat.beq pc 396 || Nat.beq pc 520) 300 (qAn h109 (fun a110 h111 => And.intro a110 h111)); (And.intro (fun hc113 => (k112 1 (h107 1 (if_pos hc113).symm))) (fun hc113 => (k112 0 (h107 0 (if_neg hc113).symm)))))))))) (fun hc103 => (qAn (h102 hc103) (fun h114 h115 => And.intro (fun hc116 => (have k121 : ∀ (x117 : Int), (qIn (x18 - 1) ∧ b215_283 d h f x14 x18 (.inl x19) x117 (x18 - 1) (u22) (u23) M) → qG (d + 6) (-1, fun _ => 0) (qP 215) (lXi f) 275 [.inr (.inl (some (64, 0))), .inr (.inl (some (65, 0))), .inr (.inl (some (66, 0))), .inr (.inl (some (67, 0))), .inr (.inl (some (68, 0))), .inr (.inl (some (69, 0))), .inr (.inl (some (70, 0))), .inr (.inl (some (71, 0))), .inr (.inl (some (72, 0))), .inr (.inl (some (73, 0))), .inr (.inl (some (74, 0))), .inr (.inl (some (75, 0))), .inr (.inl (some (76, 0))), .inr (.inl (some (77, 0))), .inl x14, .inr (.inl (some (80, 0))), .inr (.inl (some (81, 0))), .inr (.inl (some (82, 0))), .inl x18, .inl x19, .inl x20, u21, u22, u23] [.inl x117] (h, M) := fun x117 h118 => qWq (fun pc => Nat.beq pc 7 || Nat.beq pc 65 || Nat.beq pc 75 || Nat.beq pc 99 || Nat.beq pc 215 || Nat.beq pc 244 || Nat.beq pc 275 || Nat.beq pc 283 || Nat.beq pc 294 || Nat.beq pc 377 || Nat.beq pc 396 || Nat.beq pc 520) 300 (qAn h118 (fun a119 h120 => And.intro a119 h120)); (And.intro (fun hc122 => (k121 0 ((h114 hc116) 0 (if_pos hc122).symm))) (fun hc122 => (k121 (-1) ((h114 hc116) (-1) (if_neg hc122).symm)))))) (fun hc116 => (qAn (h115 hc116) (fun a123 h124 => And.intro a123 ⟨(x18 + 1), h, M, rfl, rfl, h124⟩)))))))))
theorem w215_283 {d : Nat} {h : qH} (hS : qSe h) {f : Int → qH → qM → Prop} {x14 : Int} {x18 : Int} {u19 : qV} {x20 : Int} {x21 : Int} {u22 : qV} {u23 : qV} {M : qM} (H :
    ((x21 < 0 →
    ((x20 < 0 →
      b215_520 d h f x14 x18 (u19) (.inl x20) 0 (u22) (u23) M) ∧
      (¬ (x20 < 0) →
      b215_377 d h f (.inr (.inl (some (69, 0)))) x14 x18 (u19) x20 0 (u22) (u23) M))) ∧
    (¬ (x21 < 0) →
    b215_294 d h f x14 x18 (u19) x20 x21 1 0 M))) : b215_283 d h f x14 x18 u19 x20 x21 u22 u23 M :=
  qWq (fun pc => Nat.beq pc 7 || Nat.beq pc 65 || Nat.beq pc 75 || Nat.beq pc 99 || Nat.beq pc 215 || Nat.beq pc 283 || Nat.beq pc 294 || Nat.beq pc 377 || Nat.beq pc 396 || Nat.beq pc 520) 300 (qAn H (fun h101 h102 => And.intro (fun hc103 => (qAn (h101 hc103) (fun h104 h105 => And.intro (fun hc106 => (h104 hc106)) (fun hc106 => (h105 hc106))))) (fun hc103 => (h102 hc103))))
theorem w215_520 {d : Nat} {h : qH} (hS : qSe h) {f : Int → qH → qM → Prop} {x14 : Int} {x18 : Int} {u19 : qV} {u20 : qV} {x21 : Int} {u22 : qV} {u23 : qV} {M : qM} (H :
    ((x21 < (M 67 0 18) →
    ((0 ≤ x21 ∧ x21 < 64) ∧ ((0 ≤ x21 ∧ x21 < 64) ∧ ∀ M106, M106 = qU M 68 0 x21 (M 69 0 x21) → (qIn (x21 + 1) ∧ b215_520 d h f x14 x18 (u19) (u20) (x21 + 1) (u22) (u23) M106)))) ∧
    (¬ (x21 < (M 67 0 18)) →
    (qIn (x18 + 1) ∧ b215_65 d h f x14 (x18 + 1) (u19) (u20) (.inl x21) (u22) (u23) M)))) : b215_520 d h f x14 x18 u19 u20 x21 u22 u23 M :=
  qWq (fun pc => Nat.beq pc 7 || Nat.beq pc 65 || Nat.beq pc 75 || Nat.beq pc 99 || Nat.beq pc 215 || Nat.beq pc 283 || Nat.beq pc 294 || Nat.beq pc 377 || Nat.beq pc 396 || Nat.beq pc 520) 300 (And.intro ⟨by decide, by decide⟩ (qAn H (fun h101 h102 => And.intro (fun hc103 => (qAn (h101 hc103) (fun a104 h105 => And.intro a104 (qAn h105 (fun a107 h108 => And.intro a107 (qAn (h108 _ rfl) (fun a109 h110 => And.intro a109 h110))))))) (fun hc103 => (qAn (h102 hc103) (fun a111 h112 => And.intro a111 h112))))))
theorem w215_377 {d : Nat} {h : qH} (hS : qSe h) {f : Int → qH → qM → Prop} {u5 : qV} {x14 : Int} {x18 : Int} {u19 : qV} {x20 : Int} {x21 : Int} {u22 : qV} {u23 : qV} {M : qM} (H :
    ((x21 < (M 67 0 18) →
    ((0 ≤ x21 ∧ x21 < 64) ∧ ∀ M104, M104 = qU M 68 0 x21 0 → b215_396 d h f (u5) x14 x18 (u19) x20 x21 x20 (u23) M104)) ∧
    (¬ (x21 < (M 67 0 18)) →
    (∀ M107, M107 = qU M 76 0 8 1 → e208 (d + 6) h x14 M107 (fun v108 z111 M109 =>
      ((¬ (v108 = 0) → qIn (x18 + 2)) ∧
      (∀ x112 : Int, x112 = (if v108 = 0 then (-1) else (x18 + 2)) → f x112 z111 M109))))))) : b215_377 d h f u5 x14 x18 u19 x20 x21 u22 u23 M :=
  qWq (fun pc => Nat.beq pc 7 || Nat.beq pc 65 || Nat.beq pc 75 || Nat.beq pc 99 || Nat.beq pc 215 || Nat.beq pc 283 || Nat.beq pc 294 || Nat.beq pc 377 || Nat.beq pc 396 || Nat.beq pc 516 || Nat.beq pc 520) 300 (And.intro ⟨by decide, by decide⟩ (qAn H (fun h101 h102 => And.intro (fun hc103 => (qAn (h101 hc103) (fun a105 h106 => And.intro a105 (h106 _ rfl)))) (fun hc103 => (And.intro ⟨by decide, by decide⟩ (And.intro rfl (lXi.go ((h102 hc103) _ rfl) (qLq d rfl) (fun v108 z111 M109 h110 => (qAn h110 (fun h115 h116 => (have k114 : ∀ (x112 : Int), f x112 z111 M109 → qG (d + 6) (-1, fun _ => 0) (qP 215) (lXi f) 516 [.inr (.inl (some (64, 0))), .inr (.inl (some (65, 0))), .inr (.inl (some (66, 0))), .inr (.inl (some (67, 0))), .inr (.inl (some (68, 0))), u5, .inr (.inl (some (70, 0))), .inr (.inl (some (71, 0))), .inr (.inl (some (72, 0))), .inr (.inl (some (73, 0))), .inr (.inl (some (74, 0))), .inr (.inl (some (75, 0))), .inr (.inl (some (76, 0))), .inr (.inl (some (77, 0))), .inl x14, .inr (.inl (some (80, 0))), .inr (.inl (some (81, 0))), .inr (.inl (some (82, 0))), .inl x18, u19, .inl x20, .inl x21, u22, u23] [.inl x112] (z111, M109) := fun x112 h113 => qWq (fun pc => Nat.beq pc 7 || Nat.beq pc 65 || Nat.beq pc 75 || Nat.beq pc 99 || Nat.beq pc 215 || Nat.beq pc 283 || Nat.beq pc 294 || Nat.beq pc 377 || Nat.beq pc 396 || Nat.beq pc 516 || Nat.beq pc 520) 300 ⟨x112, z111, M109, rfl, rfl, h113⟩; (And.intro (fun hc117 => (k114 (-1) (h116 (-1) (if_pos hc117).symm))) (fun hc117 => (And.intro (h115 hc117) (k114 (x18 + 2) (h116 (x18 + 2) (if_neg hc117).symm))))))))))))))))
theorem w215_294 {d : Nat} {h : qH} (hS : qSe h) {f : Int → qH → qM → Prop} {x14 : Int} {x18 : Int} {u19 : qV} {x20 : Int} {x21 : Int} {x22 : Int} {x23 : Int} {M : qM} (H :
    ((x23 < (M 67 0 18) →
    (qIn (4 * x21) ∧ (0 ≤ x23 ∧ (qIn ((4 * x21) + (x23 / 16)) ∧ ((0 ≤ ((4 * x21) + (x23 / 16)) ∧ ((4 * x21) + (x23 / 16)) < 48) ∧ (0 ≤ x23 ∧ (qIn (4 * (x23 % 16)) ∧ ((0 ≤ (4 * (x23 % 16)) ∧ (4 * (x23 % 16)) < 64) ∧ ((0 ≤ x23 ∧ x23 < 64) ∧ (∀ x120 : Int, x120 = (if (if (qAndL ((M 70 0 ((4 * x21) + (x23 / 16))) / 2 ^ ((4 * (x23 % 16))).toNat) 15) < (M 69 0 x23) then -1 else if (qAndL ((M 70 0 ((4 * x21) + (x23 / 16))) / 2 ^ ((4 * (x23 % 16))).toNat) 15) = (M 69 0 x23) then 0 else 1) = 0 then 1 else 0) → (qIn (x23 + 1) ∧ b215_294 d h f x14 x18 (u19) x20 x21 (qAnd x22 x120) (x23 + 1) M))))))))))) ∧
    (¬ (x23 < (M 67 0 18)) →
    (∀ x126 : Int, x126 = (if x22 = 0 then x20 else x21) → (qIn (x21 + (-1)) ∧ b215_283 d h f x14 x18 (u19) x126 (x21 + (-1)) (.inl x22) (.inl x23) M))))) : b215_294 d h f x14 x18 u19 x20 x21 x22 x23 M :=
  qWq (fun pc => Nat.beq pc 7 || Nat.beq pc 65 || Nat.beq pc 75 || Nat.beq pc 99 || Nat.beq pc 215 || Nat.beq pc 283 || Nat.beq pc 294 || Nat.beq pc 345 || Nat.beq pc 363 || Nat.beq pc 377 || Nat.beq pc 396 || Nat.beq pc 520) 300 (And.intro ⟨by decide, by decide⟩ (qAn H (fun h101 h102 => And.intro (fun hc103 => (qAn (h101 hc103) (fun a104 h105 => And.intro a104 (qAn h105 (fun a106 h107 => And.intro ⟨a106, by decide⟩ (qAn h107 (fun a108 h109 => And.intro a108 (qAn h109 (fun a110 h111 => And.intro a110 (qAn h111 (fun a112 h113 => And.intro ⟨a112, by decide⟩ (qAn h113 (fun a114 h115 => And.intro a114 (qAn h115 (fun a116 h117 => And.intro a116 (qAn h117 (fun a118 h119 => And.intro a118 (have k124 : ∀ (x120 : Int), (qIn (x23 + 1) ∧ b215_294 d h f x14 x18 (u19) x20 x21 (qAnd x22 x120) (x23 + 1) M) → qG (d + 6) (-1, fun _ => 0) (qP 215) (lXi f) 345 [.inr (.inl (some (64, 0))), .inr (.inl (some (65, 0))), .inr (.inl (some (66, 0))), .inr (.inl (some (67, 0))), .inr (.inl (some (68, 0))), .inr (.inl (some (69, 0))), .inr (.inl (some (70, 0))), .inr (.inl (some (71, 0))), .inr (.inl (some (72, 0))), .inr (.inl (some (73, 0))), .inr (.inl (some (74, 0))), .inr (.inl (some (75, 0))), .inr (.inl (some (76, 0))), .inr (.inl (some (77, 0))), .inl x14, .inr (.inl (some (80, 0))), .inr (.inl (some (81, 0))), .inr (.inl (some (82, 0))), .inl x18, u19, .inl x20, .inl x21, .inl x22, .inl x23] [.inl x120, .inl x22] (h, M) := fun x120 h121 => qWq (fun pc => Nat.beq pc 7 || Nat.beq pc 65 || Nat.beq pc 75 || Nat.beq pc 99 || Nat.beq pc 215 || Nat.beq pc 283 || Nat.beq pc 294 || Nat.beq pc 345 || Nat.beq pc 363 || Nat.beq pc 377 || Nat.beq pc 396 || Nat.beq pc 520) 300 (qAn h121 (fun a122 h123 => And.intro a122 h123)); (And.intro (fun hc125 => (k124 1 (h119 1 (if_pos hc125).symm))) (fun hc125 => (k124 0 (h119 0 (if_neg hc125).symm)))))))))))))))))))))) (fun hc103 => (have k130 : ∀ (x126 : Int), (qIn (x21 + (-1)) ∧ b215_283 d h f x14 x18 (u19) x126 (x21 + (-1)) (.inl x22) (.inl x23) M) → qG (d + 6) (-1, fun _ => 0) (qP 215) (lXi f) 363 [.inr (.inl (some (64, 0))), .inr (.inl (some (65, 0))), .inr (.inl (some (66, 0))), .inr (.inl (some (67, 0))), .inr (.inl (some (68, 0))), .inr (.inl (some (69, 0))), .inr (.inl (some (70, 0))), .inr (.inl (some (71, 0))), .inr (.inl (some (72, 0))), .inr (.inl (some (73, 0))), .inr (.inl (some (74, 0))), .inr (.inl (some (75, 0))), .inr (.inl (some (76, 0))), .inr (.inl (some (77, 0))), .inl x14, .inr (.inl (some (80, 0))), .inr (.inl (some (81, 0))), .inr (.inl (some (82, 0))), .inl x18, u19, .inl x126, .inl x21, .inl x22, .inl x23] [] (h, M) := fun x126 h127 => qWq (fun pc => Nat.beq pc 7 || Nat.beq pc 65 || Nat.beq pc 75 || Nat.beq pc 99 || Nat.beq pc 215 || Nat.beq pc 283 || Nat.beq pc 294 || Nat.beq pc 345 || Nat.beq pc 363 || Nat.beq pc 377 || Nat.beq pc 396 || Nat.beq pc 520) 300 (qAn h127 (fun a128 h129 => And.intro a128 h129)); (And.intro (fun hc131 => (k130 x20 ((h102 hc103) x20 (if_pos hc131).symm))) (fun hc131 => (k130 x21 ((h102 hc103) x21 (if_neg hc131).symm)))))))))
theorem w215_396 {d : Nat} {h : qH} (hS : qSe h) {f : Int → qH → qM → Prop} {u5 : qV} {x14 : Int} {x18 : Int} {u19 : qV} {x20 : Int} {x21 : Int} {x22 : Int} {u23 : qV} {M : qM} (H :
    ((x22 ≤ x18 →
    (qIn (4 * x22) ∧ (0 ≤ x21 ∧ (qIn ((4 * x22) + (x21 / 16)) ∧ ((0 ≤ ((4 * x22) + (x21 / 16)) ∧ ((4 * x22) + (x21 / 16)) < 48) ∧ (0 ≤ x21 ∧ (qIn (4 * (x21 % 16)) ∧ ((0 ≤ (4 * (x21 % 16)) ∧ (4 * (x21 % 16)) < 64) ∧ ((0 ≤ x21 ∧ x21 < 64) ∧ (((qWr (qAndL ((M 70 0 ((4 * x22) + (x21 / 16))) / 2 ^ ((4 * (x21 % 16))).toNat) 15)) ≤ (M 68 0 x21) → (0 ≤ x21 ∧ x21 < 64)) ∧
      (∀ x120 : Int, x120 = (if (qWr (qAndL ((M 70 0 ((4 * x22) + (x21 / 16))) / 2 ^ ((4 * (x21 % 16))).toNat) 15)) ≤ (M 68 0 x21) then (M 68 0 x21) else (qWr (qAndL ((M 70 0 ((4 * x22) + (x21 / 16))) / 2 ^ ((4 * (x21 % 16))).toNat) 15))) → ((0 ≤ x21 ∧ x21 < 64) ∧ ∀ M122, M122 = qU M 68 0 x21 x120 → (qIn (x22 + 1) ∧ b215_396 d h f (u5) x14 x18 (u19) x20 x21 (x22 + 1) (.inl (qWr (qAndL ((M 70 0 ((4 * x22) + (x21 / 16))) / 2 ^ ((4 * (x21 % 16))).toNat) 15))) M122))))))))))))) ∧
    (¬ (x22 ≤ x18) →
    (qIn (x21 + 1) ∧ b215_377 d h f (u5) x14 x18 (u19) x20 (x21 + 1) (.inl x22) (u23) M)))) : b215_396 d h f u5 x14 x18 u19 x20 x21 x22 u23 M :=
  qWq (fun pc => Nat.beq pc 7 || Nat.beq pc 65 || Nat.beq pc 75 || Nat.beq pc 99 || Nat.beq pc 215 || Nat.beq pc 283 || Nat.beq pc 294 || Nat.beq pc 377 || Nat.beq pc 396 || Nat.beq pc 455 || Nat.beq pc 520) 300 (qAn H (fun h101 h102 => And.intro (fun hc103 => (qAn (h101 hc103) (fun a104 h105 => And.intro a104 (qAn h105 (fun a106 h107 => And.intro ⟨a106, by decide⟩ (qAn h107 (fun a108 h109 => And.intro a108 (qAn h109 (fun a110 h111 => And.intro a110 (qAn h111 (fun a112 h113 => And.intro ⟨a112, by decide⟩ (qAn h113 (fun a114 h115 => And.intro a114 (qAn h115 (fun a116 h117 => And.intro a116 (qAn h117 (fun a118 h119 => And.intro a118 (qAn h119 (fun h128 h129 => (have k127 : ∀ (x120 : Int), ((0 ≤ x21 ∧ x21 < 64) ∧ ∀ M122, M122 = qU M 68 0 x21 x120 → (qIn (x22 + 1) ∧ b215_396 d h f (u5) x14 x18 (u19) x20 x21 (x22 + 1) (.inl (qWr (qAndL ((M 70 0 ((4 * x22) + (x21 / 16))) / 2 ^ ((4 * (x21 % 16))).toNat) 15))) M122)) → qG (d + 6) (-1, fun _ => 0) (qP 215) (lXi f) 455 [.inr (.inl (some (64, 0))), .inr (.inl (some (65, 0))), .inr (.inl (some (66, 0))), .inr (.inl (some (67, 0))), .inr (.inl (some (68, 0))), u5, .inr (.inl (some (70, 0))), .inr (.inl (some (71, 0))), .inr (.inl (some (72, 0))), .inr (.inl (some (73, 0))), .inr (.inl (some (74, 0))), .inr (.inl (some (75, 0))), .inr (.inl (some (76, 0))), .inr (.inl (some (77, 0))), .inl x14, .inr (.inl (some (80, 0))), .inr (.inl (some (81, 0))), .inr (.inl (some (82, 0))), .inl x18, u19, .inl x20, .inl x21, .inl x22, .inl (qWr (qAndL ((M 70 0 ((4 * x22) + (x21 / 16))) / 2 ^ ((4 * (x21 % 16))).toNat) 15))] [.inl x120, .inl x21, .inr (.inl (some (68, 0)))] (h, M) := fun x120 h121 => qWq (fun pc => Nat.beq pc 7 || Nat.beq pc 65 || Nat.beq pc 75 || Nat.beq pc 99 || Nat.beq pc 215 || Nat.beq pc 283 || Nat.beq pc 294 || Nat.beq pc 377 || Nat.beq pc 396 || Nat.beq pc 455 || Nat.beq pc 520) 300 (qAn h121 (fun a123 h124 => And.intro a123 (qAn (h124 _ rfl) (fun a125 h126 => And.intro a125 h126)))); (And.intro (fun hc130 => (And.intro (h128 hc130) (k127 (M 68 0 x21) (h129 (M 68 0 x21) (if_pos hc130).symm)))) (fun hc130 => (k127 (qWr (qAndL ((M 70 0 ((4 * x22) + (x21 / 16))) / 2 ^ ((4 * (x21 % 16))).toNat) 15)) (h129 (qWr (qAndL ((M 70 0 ((4 * x22) + (x21 / 16))) / 2 ^ ((4 * (x21 % 16))).toNat) 15)) (if_neg hc130).symm)))))))))))))))))))))))) (fun hc103 => (qAn (h102 hc103) (fun a131 h132 => And.intro a131 h132)))))
theorem w215 {d : Nat} {h : qH} (hS : qSe h) {x14 : Int} {M : qM} {f : Int → qH → qM → Prop} (H :
    (∀ M101, M101 = qU M 67 0 0 0 → b215_7 d h f x14 0 (q_u) (q_u) (q_u) (q_u) (q_u) M101)) : e215 (d + 7) h x14 M f :=
  qJ.body (Nat.le_of_ble_eq_true rfl) (qWq (fun pc => Nat.beq pc 7 || Nat.beq pc 65 || Nat.beq pc 75 || Nat.beq pc 99 || Nat.beq pc 215 || Nat.beq pc 283 || Nat.beq pc 294 || Nat.beq pc 377 || Nat.beq pc 396 || Nat.beq pc 520) 300 (And.intro ⟨by decide, by decide⟩ (H _ rfl)))
theorem w216_6 {d : Nat} {h : qH} (hS : qSe h) {f : Int → qM → Prop} {x4 : Int} {x5 : Int} {x7 : Int} {u8 : qV} {u9 : qV} {M : qM} (H :
    ((x7 < 18 →
    b216_16 d h f x4 x5 x7 0 (u9) M) ∧
    (¬ (x7 < 18) →
    f x5 M))) : b216_6 d h f x4 x5 x7 u8 u9 M :=
  qWq (fun pc => Nat.beq pc 6 || Nat.beq pc 16) 300 (qAn H (fun h101 h102 => And.intro (fun hc103 => (h101 hc103)) (fun hc103 => (And.intro rfl ⟨x5, M, rfl, rfl, (h102 hc103)⟩))))
theorem w216_16 {d : Nat} {h : qH} (hS : qSe h) {f : Int → qM → Prop} {x4 : Int} {x5 : Int} {x7 : Int} {x8 : Int} {u9 : qV} {M : qM} (H :
    e189 (d + 1) h x7 M (fun v101 M102 => 
    ((x8 < v101 →
    e187 (d + 1) h x7 x8 M102 (fun v107 M108 => 
      e188 (d + 1) h v107 M108 (fun v110 M111 => 
      ((v110 = 4 →
      (((v107 / 128) = x4 →
        e210 (d + 3) h x7 x8 M111 (fun v119 M120 => 
          ((0 ≤ v119 ∧ v119 < 64) ∧ (qIn (x8 + 1) ∧ b216_16 d h f x4 (qOrL x5 (qWl ((1 : Int) * 2 ^ (v119).toNat))) x7 (x8 + 1) (.inl v107) M120)))) ∧
        (¬ ((v107 / 128) = x4) →
        (qIn (x8 + 1) ∧ b216_16 d h f x4 x5 x7 (x8 + 1) (.inl v107) M111)))) ∧
      (¬ (v110 = 4) →
      (qIn (x8 + 1) ∧ b216_16 d h f x4 x5 x7 (x8 + 1) (.inl v107) M111)))))) ∧
    (¬ (x8 < v101) →
    (qIn (x7 + 1) ∧ b216_6 d h f x4 x5 (x7 + 1) (.inl x8) (u9) M102))))) : b216_16 d h f x4 x5 x7 x8 u9 M :=
  qWq (fun pc => Nat.beq pc 6 || Nat.beq pc 16) 300 (And.intro rfl (qEi.go H (qLq d rfl) (fun v101 M102 h103 => (qAn h103 (fun h104 h105 => And.intro (fun hc106 => (And.intro rfl (qEi.go (h104 hc106) (qLq d rfl) (fun v107 M108 h109 => (And.intro rfl (qEi.go h109 (qLq d rfl) (fun v110 M111 h112 => (qAn h112 (fun h113 h114 => And.intro (fun hc115 => (And.intro ⟨by decide, by decide⟩ (qAn (h113 hc115) (fun h116 h117 => And.intro (fun hc118 => (And.intro rfl (qEi.go (h116 hc118) (qLq d rfl) (fun v119 M120 h121 => (qAn h121 (fun a122 h123 => And.intro a122 (qAn h123 (fun a124 h125 => And.intro a124 h125)))))))) (fun hc118 => (qAn (h117 hc118) (fun a126 h127 => And.intro a126 h127))))))) (fun hc115 => (qAn (h114 hc115) (fun a128 h129 => And.intro a128 h129)))))))))))) (fun hc106 => (qAn (h105 hc106) (fun a130 h131 => And.intro a130 h131))))))))
theorem w216 {d : Nat} {h : qH} (hS : qSe h) {x4 : Int} {M : qM} {f : Int → qM → Prop} (H :
    b216_6 d h f x4 0 0 (q_u) (q_u) M) : e216 (d + 4) h x4 M f :=
  qJ.body (Nat.le_of_ble_eq_true rfl) (qWq (fun pc => Nat.beq pc 6 || Nat.beq pc 16) 300 H)
theorem w217_4 {d : Nat} {h : qH} (hS : qSe h) {f : Int → qM → Prop} {x0 : Int} {x2 : Int} {x3 : Int} {M : qM} (H :
    ((x3 < 62 →
    (qIn (x3 - 1) ∧ ((0 ≤ (x3 - 1) ∧ (x3 - 1) < 64) ∧ (∀ x108 : Int, x108 = (if (if (qAndL (x0 / 2 ^ ((x3 - 1)).toNat) 3) < 2 then -1 else if (qAndL (x0 / 2 ^ ((x3 - 1)).toNat) 3) = 2 then 0 else 1) = 0 then 1 else 0) → (qIn (x2 + x108) ∧ (qIn (x3 + 1) ∧ b217_4 d h f x0 (x2 + x108) (x3 + 1) M)))))) ∧
    (¬ (x3 < 62) →
    f x2 M))) : b217_4 d h f x0 x2 x3 M :=
  qWq (fun pc => Nat.beq pc 4 || Nat.beq pc 32) 300 (qAn H (fun h101 h102 => And.intro (fun hc103 => (qAn (h101 hc103) (fun a104 h105 => And.intro a104 (qAn h105 (fun a106 h107 => And.intro a106 (have k114 : ∀ (x108 : Int), (qIn (x2 + x108) ∧ (qIn (x3 + 1) ∧ b217_4 d h f x0 (x2 + x108) (x3 + 1) M)) → qG (d + 0) (-1, fun _ => 0) (qP 217) (qRi h f) 32 [.inr (.inr (.inl x0)), q_u, .inl x2, .inl x3] [.inl x108, .inl x2] (h, M) := fun x108 h109 => qWq (fun pc => Nat.beq pc 4 || Nat.beq pc 32) 300 (qAn h109 (fun a110 h111 => And.intro a110 (qAn h111 (fun a112 h113 => And.intro a112 h113)))); (And.intro (fun hc115 => (k114 1 (h107 1 (if_pos hc115).symm))) (fun hc115 => (k114 0 (h107 0 (if_neg hc115).symm)))))))))) (fun hc103 => ⟨x2, M, rfl, rfl, (h102 hc103)⟩)))
theorem w217 {d : Nat} {h : qH} (hS : qSe h) {x0 : Int} {M : qM} {f : Int → qM → Prop} (H :
    b217_4 d h f x0 0 1 M) : e217 (d + 1) h x0 M f :=
  qJ.body (Nat.le_of_ble_eq_true rfl) (qWq (fun pc => Nat.beq pc 4) 300 H)
theorem w218_6 {d : Nat} {h : qH} (hS : qSe h) {f : Int → qM → Prop} {x5 : Int} {x6 : Int} {M : qM} (H :
    ((x6 < 10 →
    e216 (d + 4) h x6 M (fun v104 M105 => 
      e217 (d + 1) h v104 M105 (fun v107 M108 => 
      (qIn (v107 + 2) ∧ (0 ≤ (v107 + 2) ∧ ((0 ≤ x6 ∧ x6 < 10) ∧ (∀ x116 : Int, x116 = (if (M108 78 0 x6) ≤ 0 then 0 else 1) → (qIn (((v107 + 2) / 3) + x116) ∧ (qIn (x5 + (((v107 + 2) / 3) + x116)) ∧ (qIn (x6 + 1) ∧ b218_6 d h f (x5 + (((v107 + 2) / 3) + x116)) (x6 + 1) M108)))))))))) ∧
    (¬ (x6 < 10) →
    f x5 M))) : b218_6 d h f x5 x6 M :=
  qWq (fun pc => Nat.beq pc 6 || Nat.beq pc 44) 300 (qAn H (fun h101 h102 => And.intro (fun hc103 => (And.intro rfl (lEl.go (h101 hc103) (qLq d rfl) (fun v104 M105 h106 => (And.intro rfl (qEi.go h106 (qLq d rfl) (fun v107 M108 h109 => (qAn h109 (fun a110 h111 => And.intro a110 (qAn h111 (fun a112 h113 => And.intro ⟨a112, by decide⟩ (qAn h113 (fun a114 h115 => And.intro a114 (have k124 : ∀ (x116 : Int), (qIn (((v107 + 2) / 3) + x116) ∧ (qIn (x5 + (((v107 + 2) / 3) + x116)) ∧ (qIn (x6 + 1) ∧ b218_6 d h f (x5 + (((v107 + 2) / 3) + x116)) (x6 + 1) M108))) → qG (d + 4) (-1, fun _ => 0) (qP 218) (qRi h f) 44 [.inr (.inl (some (64, 0))), .inr (.inl (some (65, 0))), .inr (.inl (some (71, 0))), .inr (.inl (some (76, 0))), .inr (.inl (some (78, 0))), .inl x5, .inl x6] [.inl x116, .inl ((v107 + 2) / 3), .inl x5] (h, M108) := fun x116 h117 => qWq (fun pc => Nat.beq pc 6 || Nat.beq pc 44) 300 (qAn h117 (fun a118 h119 => And.intro a118 (qAn h119 (fun a120 h121 => And.intro a120 (qAn h121 (fun a122 h123 => And.intro a122 h123)))))); (And.intro (fun hc125 => (k124 0 (h115 0 (if_pos hc125).symm))) (fun hc125 => (k124 1 (h115 1 (if_neg hc125).symm)))))))))))))))))) (fun hc103 => ⟨x5, M, rfl, rfl, (h102 hc103)⟩)))
theorem w218 {d : Nat} {h : qH} (hS : qSe h)  {M : qM} {f : Int → qM → Prop} (H :
    b218_6 d h f 0 0 M) : e218 (d + 5) h  M f :=
  qJ.body (Nat.le_of_ble_eq_true rfl) (qWq (fun pc => Nat.beq pc 6) 300 H)
theorem w219_73 {d : Nat} {h : qH} (hS : qSe h) {f : Int → qM → Prop} {u0 : qV} {u3 : qV} {u4 : qV} {u5 : qV} {x6 : Int} {x7 : Int} {x8 : Int} {x9 : Int} {x10 : Int} {M : qM} (H :
    ((x10 < x6 →
    (qIn (x9 + 1) ∧ (qIn (x10 + 1) ∧ e198 (d + 2) h x7 (x10 + 1) M (fun v108 M109 => 
      ((¬ (v108 = 0) → ((x8 ≤ 0 → (qIn ((x9 + 1) + 1) ∧ qIn (x8 + (-1)))) ∧ (¬ (x8 ≤ 0) → (qIn ((x9 + 1) + 2) ∧ qIn (x8 + (-1)))))) ∧
      (∀ x111 : Int, x111 = (if v108 = 0 then x8 else (x8 + (-1))) → ∀ x112 : Int, x112 = (if v108 = 0 then (x9 + 1) else (if x8 ≤ 0 then ((x9 + 1) + 1) else ((x9 + 1) + 2))) → (qIn (x10 + 1) ∧ b219_73 d h f (u0) (u3) (u4) (u5) x6 x7 x111 x112 (x10 + 1) M109))))))) ∧
    (¬ (x10 < x6) →
    f x9 M))) : b219_73 d h f u0 u3 u4 u5 x6 x7 x8 x9 x10 M :=
  qWq (fun pc => Nat.beq pc 73 || Nat.beq pc 118) 300 (qAn H (fun h101 h102 => And.intro (fun hc103 => (qAn (h101 hc103) (fun a104 h105 => And.intro a104 (qAn h105 (fun a106 h107 => And.intro a106 (And.intro rfl (qEi.go h107 (qLq d rfl) (fun v108 M109 h110 => (qAn h110 (fun h117 h118 => (have k116 : ∀ (x111 : Int) (x112 : Int), (qIn (x10 + 1) ∧ b219_73 d h f (u0) (u3) (u4) (u5) x6 x7 x111 x112 (x10 + 1) M109) → qG (d + 2) (-1, fun _ => 0) (qP 219) (qRi h f) 118 [u0, .inr (.inl (some (65, 0))), .inr (.inl (some (71, 0))), u3, u4, u5, .inl x6, .inl x7, .inl x111, .inl x112, .inl x10] [] (h, M109) := fun x111 x112 h113 => qWq (fun pc => Nat.beq pc 73 || Nat.beq pc 118) 300 (qAn h113 (fun a114 h115 => And.intro a114 h115)); (And.intro (fun hc119 => (k116 x8 (x9 + 1) ((h118 x8 (if_pos hc119).symm) (x9 + 1) (if_pos hc119).symm))) (fun hc119 => (And.intro (fun hc120 => (And.intro ((h117 hc119).1 hc120).1 (And.intro ((h117 hc119).1 hc120).2 (k116 (x8 + (-1)) ((x9 + 1) + 1) ((h118 (x8 + (-1)) (if_neg hc119).symm) ((x9 + 1) + 1) ((if_neg hc119).trans (if_pos hc120)).symm))))) (fun hc120 => (And.intro ((h117 hc119).2 hc120).1 (And.intro ((h117 hc119).2 hc120).2 (k116 (x8 + (-1)) ((x9 + 1) + 2) ((h118 (x8 + (-1)) (if_neg hc119).symm) ((x9 + 1) + 2) ((if_neg hc119).trans (if_neg hc120)).symm))))))))))))))))))) (fun hc103 => ⟨x9, M, rfl, rfl, (h102 hc103)⟩)))
theorem w219 {d : Nat} {h : qH} (hS : qSe h) {x5 : Int} {x6 : Int} {M : qM} {f : Int → qM → Prop} (H :
    ((0 ≤ x5 ∧ x5 < 62) ∧ ((0 ≤ x5 ∧ x5 < 62) ∧ ((0 ≤ x5 ∧ x5 < 62) ∧ e206 (d + 1) h (M 74 0 x5) 15 7 M (fun v107 M108 => 
    ((v107 ≤ 0 →
    ((0 ≤ x5 ∧ x5 < 62) ∧ e206 (d + 1) h (M108 74 0 x5) 3 31 M108 (fun v115 M116 => 
      b219_73 d h f (.inr (.inl (some (64, 0)))) (.inr (.inl (some (72, 0)))) (.inr (.inl (some (74, 0)))) (.inl x5) x6 (qAnd (M 74 0 x5) 7) ((M 74 0 x5) / 67108864) 0 v115 M116))) ∧
    (¬ (v107 ≤ 0) →
    ((0 ≤ x5 ∧ x5 < 62) ∧ e206 (d + 1) h (M108 74 0 x5) 12 7 M108 (fun v120 M121 => 
      e199 (d + 2) h (qAnd (M 74 0 x5) 7) v120 M121 (fun v123 M124 => 
      ((0 ≤ x5 ∧ x5 < 62) ∧ e206 (d + 1) h (M124 74 0 x5) 3 31 M124 (fun v128 M129 => 
      b219_73 d h f (.inr (.inl (some (64, 0)))) (.inr (.inl (some (72, 0)))) (.inr (.inl (some (74, 0)))) (.inl x5) x6 (qAnd (M 74 0 x5) 7) ((M 74 0 x5) / 67108864) v123 v128 M129)))))))))))) : e219 (d + 3) h x5 x6 M f :=
  qJ.body (Nat.le_of_ble_eq_true rfl) (qWq (fun pc => Nat.beq pc 73) 300 (qAn H (fun a101 h102 => And.intro a101 (qAn h102 (fun a103 h104 => And.intro a103 (And.intro ⟨by decide, by decide⟩ (qAn h104 (fun a105 h106 => And.intro a105 (And.intro rfl (qEi.go h106 (qLq d rfl) (fun v107 M108 h109 => (qAn h109 (fun h110 h111 => And.intro (fun hc112 => (qAn (h110 hc112) (fun a113 h114 => And.intro a113 (And.intro rfl (qEi.go h114 (qLq d rfl) (fun v115 M116 h117 => h117)))))) (fun hc112 => (qAn (h111 hc112) (fun a118 h119 => And.intro a118 (And.intro rfl (qEi.go h119 (qLq d rfl) (fun v120 M121 h122 => (And.intro rfl (qEi.go h122 (qLq d rfl) (fun v123 M124 h125 => (qAn h125 (fun a126 h127 => And.intro a126 (And.intro rfl (qEi.go h127 (qLq d rfl) (fun v128 M129 h130 => h130)))))))))))))))))))))))))))
