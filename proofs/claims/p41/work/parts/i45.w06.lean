/-! ===== from cut to cut, by wip/p41/gen/genw.py: methods 222 to 223 ===== -/
theorem w222_3 {d : Nat} {h : qH} (hS : qSe h) {f : Int → qH → qM → Prop} {x6 : Int} {u7 : qV} {u8 : qV} {u9 : qV} {u10 : qV} {u11 : qV} {u12 : qV} {u13 : qV} {u14 : qV} {M : qM} (H :
    ((x6 ≤ (M 76 0 6) →
    ((0 ≤ x6 ∧ x6 < 62) ∧ ((0 ≤ x6 ∧ x6 < 62) ∧ e206 (d + 1) h (M 74 0 x6) 3 31 M (fun v108 M109 => 
      ((0 ≤ x6 ∧ x6 < 62) ∧ e206 (d + 1) h (M109 74 0 x6) 8 15 M109 (fun v113 M114 => 
      e170 (d + 3) h x6 M114 (fun v116 z119 M117 =>
      ((v116 = (qAnd (M 74 0 x6) 7) →
      e173 (d + 4) z119 x6 5 M117 (fun v123 z126 M124 =>
        ((v123 = (-7200) →
        e173 (d + 4) z126 x6 (-1) M124 (fun v130 z133 M131 =>
          ((v130 = (-7200) →
          b222_98 d z133 f x6 (qAnd (M 74 0 x6) 7) v108 v113 (-1) (-1) (-1) 0 (u14) M131) ∧
          (¬ (v130 = (-7200)) →
          f 0 z133 M131)))) ∧
        (¬ (v123 = (-7200)) →
        f 0 z126 M124)))) ∧
      (¬ (v116 = (qAnd (M 74 0 x6) 7)) →
      f 0 z119 M117))))))))) ∧
    (¬ (x6 ≤ (M 76 0 6)) →
    (qIn ((M 76 0 6) + 1) ∧ e170 (d + 3) h ((M 76 0 6) + 1) M (fun v139 z142 M140 =>
      ((v139 = (-7100) →
      e170 (d + 3) z142 0 M140 (fun v146 z149 M147 =>
        ((v146 = (-7100) →
        (qIn ((M147 76 0 6) + 1) ∧ e173 (d + 4) z149 ((M147 76 0 6) + 1) 9 M147 (fun v155 z158 M156 =>
          ((v155 = (-7100) →
          e179 (d + 4) z158 0 1 M156 (fun v162 z165 M163 =>
            ((v162 = (-7100) →
            e169 (d + 3) z165  M163 (fun v169 z172 M170 =>
              ((v169 = (M170 76 0 6) →
              e185 (d + 3) z172  M170 (fun v176 z179 M177 =>
                (qIn ((M177 76 0 6) + 3) ∧ (0 ≤ ((M177 76 0 6) + 3) ∧ (∀ x184 : Int, x184 = (if v176 = (((M177 76 0 6) + 3) / 4) then 1 else 0) → ((x184 = 0 ∨ x184 = 1) ∧ f x184 z179 M177)))))) ∧
              (¬ (v169 = (M170 76 0 6)) →
              f 0 z172 M170)))) ∧
            (¬ (v162 = (-7100)) →
            f 0 z165 M163)))) ∧
          (¬ (v155 = (-7100)) →
          f 0 z158 M156))))) ∧
        (¬ (v146 = (-7100)) →
        f 0 z149 M147)))) ∧
      (¬ (v139 = (-7100)) →
      f 0 z142 M140))))))) : b222_3 d h f x6 u7 u8 u9 u10 u11 u12 u13 u14 M :=
  qWq (fun pc => Nat.beq pc 3 || Nat.beq pc 98 || Nat.beq pc 192 || Nat.beq pc 424) 300 (And.intro ⟨by decide, by decide⟩ (qAn H (fun h101 h102 => And.intro (fun hc103 => (qAn (h101 hc103) (fun a104 h105 => And.intro a104 (qAn h105 (fun a106 h107 => And.intro a106 (And.intro rfl (qEi.go h107 (qLq d rfl) (fun v108 M109 h110 => (qAn h110 (fun a111 h112 => And.intro a111 (And.intro rfl (qEi.go h112 (qLq d rfl) (fun v113 M114 h115 => (And.intro rfl (lXi.go h115 (qLq d rfl) (fun v116 z119 M117 h118 => (qAn h118 (fun h120 h121 => And.intro (fun hc122 => (And.intro rfl (lXi.go (h120 hc122) (qLq d rfl) (fun v123 z126 M124 h125 => (qAn h125 (fun h127 h128 => And.intro (fun hc129 => (And.intro rfl (lXi.go (h127 hc129) (qLq d rfl) (fun v130 z133 M131 h132 => (qAn h132 (fun h134 h135 => And.intro (fun hc136 => (h134 hc136)) (fun hc136 => (And.intro ⟨rfl, (Or.inl rfl)⟩ ⟨0, z133, M131, rfl, rfl, (h135 hc136)⟩)))))))) (fun hc129 => (And.intro ⟨rfl, (Or.inl rfl)⟩ ⟨0, z126, M124, rfl, rfl, (h128 hc129)⟩)))))))) (fun hc122 => (And.intro ⟨rfl, (Or.inl rfl)⟩ ⟨0, z119, M117, rfl, rfl, (h121 hc122)⟩)))))))))))))))))))) (fun hc103 => (And.intro ⟨by decide, by decide⟩ (qAn (h102 hc103) (fun a137 h138 => And.intro a137 (And.intro rfl (lXi.go h138 (qLq d rfl) (fun v139 z142 M140 h141 => (qAn h141 (fun h143 h144 => And.intro (fun hc145 => (And.intro rfl (lXi.go (h143 hc145) (qLq d rfl) (fun v146 z149 M147 h148 => (qAn h148 (fun h150 h151 => And.intro (fun hc152 => (And.intro ⟨by decide, by decide⟩ (qAn (h150 hc152) (fun a153 h154 => And.intro a153 (And.intro rfl (lXi.go h154 (qLq d rfl) (fun v155 z158 M156 h157 => (qAn h157 (fun h159 h160 => And.intro (fun hc161 => (And.intro rfl (lXi.go (h159 hc161) (qLq d rfl) (fun v162 z165 M163 h164 => (qAn h164 (fun h166 h167 => And.intro (fun hc168 => (And.intro rfl (lXi.go (h166 hc168) (qLq d rfl) (fun v169 z172 M170 h171 => (And.intro ⟨by decide, by decide⟩ (qAn h171 (fun h173 h174 => And.intro (fun hc175 => (And.intro rfl (lXi.go (h173 hc175) (qLq d rfl) (fun v176 z179 M177 h178 => (And.intro ⟨by decide, by decide⟩ (qAn h178 (fun a180 h181 => And.intro a180 (qAn h181 (fun a182 h183 => And.intro ⟨a182, by decide⟩ (have k186 : ∀ (x184 : Int), ((x184 = 0 ∨ x184 = 1) ∧ f x184 z179 M177) → qG (d + 4) (-1, fun _ => 0) (qP 222) (lXi f) 424 [.inr (.inl (some (10, 0))), .inr (.inl (some (65, 0))), .inr (.inl (some (71, 0))), .inr (.inl (some (74, 0))), .inr (.inl (some (75, 0))), .inr (.inl (some (76, 0))), .inl x6, u7, u8, u9, u10, u11, u12, u13, u14] [.inl x184] (z179, M177) := fun x184 h185 => qWq (fun pc => Nat.beq pc 3 || Nat.beq pc 98 || Nat.beq pc 192 || Nat.beq pc 424) 300 (And.intro ⟨rfl, h185.1⟩ ⟨x184, z179, M177, rfl, rfl, h185.2⟩); (And.intro (fun hc187 => (k186 1 (h183 1 (if_pos hc187).symm))) (fun hc187 => (k186 0 (h183 0 (if_neg hc187).symm)))))))))))))) (fun hc175 => (qWq (fun pc => Nat.beq pc 3 || Nat.beq pc 98 || Nat.beq pc 192 || Nat.beq pc 424) 300 (And.intro ⟨rfl, (Or.inl rfl)⟩ ⟨0, z172, M170, rfl, rfl, (h174 hc175)⟩)))))))))) (fun hc168 => (qWq (fun pc => Nat.beq pc 3 || Nat.beq pc 98 || Nat.beq pc 192 || Nat.beq pc 424) 300 (And.intro ⟨rfl, (Or.inl rfl)⟩ ⟨0, z165, M163, rfl, rfl, (h167 hc168)⟩))))))))) (fun hc161 => (qWq (fun pc => Nat.beq pc 3 || Nat.beq pc 98 || Nat.beq pc 192 || Nat.beq pc 424) 300 (And.intro ⟨rfl, (Or.inl rfl)⟩ ⟨0, z158, M156, rfl, rfl, (h160 hc161)⟩)))))))))))) (fun hc152 => (qWq (fun pc => Nat.beq pc 3 || Nat.beq pc 98 || Nat.beq pc 192 || Nat.beq pc 424) 300 (And.intro ⟨rfl, (Or.inl rfl)⟩ ⟨0, z149, M147, rfl, rfl, (h151 hc152)⟩))))))))) (fun hc145 => (qWq (fun pc => Nat.beq pc 3 || Nat.beq pc 98 || Nat.beq pc 192 || Nat.beq pc 424) 300 (And.intro ⟨rfl, (Or.inl rfl)⟩ ⟨0, z142, M140, rfl, rfl, (h144 hc145)⟩)))))))))))))))
theorem w222_98 {d : Nat} {h : qH} (hS : qSe h) {f : Int → qH → qM → Prop} {x6 : Int} {x7 : Int} {x8 : Int} {x9 : Int} {x10 : Int} {x11 : Int} {x12 : Int} {x13 : Int} {u14 : qV} {M : qM} (H :
    (qIn (x8 + x9) ∧ ((x13 < (x8 + x9) →
    ((x7 < 3 →
      (qIn (20 * x7) ∧ (qIn ((20 * x7) + x13) ∧ ((0 ≤ ((20 * x7) + x13) ∧ ((20 * x7) + x13) < 60) ∧ (qIn (6 * x7) ∧ (qIn ((6 * x7) + (qAnd (M 71 0 ((20 * x7) + x13)) 15)) ∧ e190 (d + 1) h ((6 * x7) + (qAnd (M 71 0 ((20 * x7) + x13)) 15)) M (fun v119 M120 => 
        (∀ x122 : Int, x122 = (if v119 = 0 then x10 else (if x13 < x8 then x10 else (if x10 < 0 then (qAnd (M 71 0 ((20 * x7) + x13)) 15) else x10))) → ∀ x123 : Int, x123 = (if v119 = 0 then x11 else (if x13 < x8 then x11 else (qAnd (M 71 0 ((20 * x7) + x13)) 15))) → ∀ x124 : Int, x124 = (if v119 = 0 then x12 else (if x13 < x8 then (qAnd (M 71 0 ((20 * x7) + x13)) 15) else x12)) → (qIn (x13 + 1) ∧ b222_98 d h f x6 x7 x8 x9 x122 x123 x124 (x13 + 1) (.inl (qAnd (M 71 0 ((20 * x7) + x13)) 15)) M120))))))))) ∧
      (¬ (x7 < 3) →
      b222_192 d h f x6 (.inl x7) (.inl x8) x9 x10 x11 x12 (.inl x13) (u14) M))) ∧
    (¬ (x13 < (x8 + x9)) →
    b222_192 d h f x6 (.inl x7) (.inl x8) x9 x10 x11 x12 (.inl x13) (u14) M)))) : b222_98 d h f x6 x7 x8 x9 x10 x11 x12 x13 u14 M :=
  qWq (fun pc => Nat.beq pc 3 || Nat.beq pc 98 || Nat.beq pc 186 || Nat.beq pc 192) 300 (qAn H (fun a101 h102 => And.intro a101 (qAn h102 (fun h103 h104 => And.intro (fun hc105 => (qAn (h103 hc105) (fun h106 h107 => And.intro (fun hc108 => (qAn (h106 hc108) (fun a109 h110 => And.intro a109 (qAn h110 (fun a111 h112 => And.intro a111 (qAn h112 (fun a113 h114 => And.intro a113 (qAn h114 (fun a115 h116 => And.intro a115 (qAn h116 (fun a117 h118 => And.intro a117 (And.intro rfl (qEi.go h118 (qLq d rfl) (fun v119 M120 h121 => (have k128 : ∀ (x122 : Int) (x123 : Int) (x124 : Int), (qIn (x13 + 1) ∧ b222_98 d h f x6 x7 x8 x9 x122 x123 x124 (x13 + 1) (.inl (qAnd (M 71 0 ((20 * x7) + x13)) 15)) M120) → qG (d + 4) (-1, fun _ => 0) (qP 222) (lXi f) 186 [.inr (.inl (some (10, 0))), .inr (.inl (some (65, 0))), .inr (.inl (some (71, 0))), .inr (.inl (some (74, 0))), .inr (.inl (some (75, 0))), .inr (.inl (some (76, 0))), .inl x6, .inl x7, .inl x8, .inl x9, .inl x122, .inl x123, .inl x124, .inl x13, .inl (qAnd (M 71 0 ((20 * x7) + x13)) 15)] [] (h, M120) := fun x122 x123 x124 h125 => qWq (fun pc => Nat.beq pc 3 || Nat.beq pc 98 || Nat.beq pc 186 || Nat.beq pc 192) 300 (qAn h125 (fun a126 h127 => And.intro a126 h127)); (And.intro (fun hc129 => (k128 x10 x11 x12 (((h121 x10 (if_pos hc129).symm) x11 (if_pos hc129).symm) x12 (if_pos hc129).symm))) (fun hc129 => (And.intro (fun hc130 => (And.intro (fun hc131 => (k128 x10 x11 (qAnd (M 71 0 ((20 * x7) + x13)) 15) (((h121 x10 ((if_neg hc129).trans (if_pos hc131)).symm) x11 ((if_neg hc129).trans (if_pos hc130)).symm) (qAnd (M 71 0 ((20 * x7) + x13)) 15) ((if_neg hc129).trans (if_pos hc130)).symm))) (fun hc131 => (And.intro (fun hc132 => (k128 (qAnd (M 71 0 ((20 * x7) + x13)) 15) x11 (qAnd (M 71 0 ((20 * x7) + x13)) 15) (((h121 (qAnd (M 71 0 ((20 * x7) + x13)) 15) ((if_neg hc129).trans ((if_neg hc131).trans (if_pos hc132))).symm) x11 ((if_neg hc129).trans (if_pos hc130)).symm) (qAnd (M 71 0 ((20 * x7) + x13)) 15) ((if_neg hc129).trans (if_pos hc130)).symm))) (fun hc132 => (k128 x10 x11 (qAnd (M 71 0 ((20 * x7) + x13)) 15) (((h121 x10 ((if_neg hc129).trans ((if_neg hc131).trans (if_neg hc132))).symm) x11 ((if_neg hc129).trans (if_pos hc130)).symm) (qAnd (M 71 0 ((20 * x7) + x13)) 15) ((if_neg hc129).trans (if_pos hc130)).symm))))))) (fun hc130 => (And.intro (fun hc133 => (k128 x10 (qAnd (M 71 0 ((20 * x7) + x13)) 15) x12 (((h121 x10 ((if_neg hc129).trans (if_pos hc133)).symm) (qAnd (M 71 0 ((20 * x7) + x13)) 15) ((if_neg hc129).trans (if_neg hc130)).symm) x12 ((if_neg hc129).trans (if_neg hc130)).symm))) (fun hc133 => (And.intro (fun hc134 => (k128 (qAnd (M 71 0 ((20 * x7) + x13)) 15) (qAnd (M 71 0 ((20 * x7) + x13)) 15) x12 (((h121 (qAnd (M 71 0 ((20 * x7) + x13)) 15) ((if_neg hc129).trans ((if_neg hc133).trans (if_pos hc134))).symm) (qAnd (M 71 0 ((20 * x7) + x13)) 15) ((if_neg hc129).trans (if_neg hc130)).symm) x12 ((if_neg hc129).trans (if_neg hc130)).symm))) (fun hc134 => (k128 x10 (qAnd (M 71 0 ((20 * x7) + x13)) 15) x12 (((h121 x10 ((if_neg hc129).trans ((if_neg hc133).trans (if_neg hc134))).symm) (qAnd (M 71 0 ((20 * x7) + x13)) 15) ((if_neg hc129).trans (if_neg hc130)).symm) x12 ((if_neg hc129).trans (if_neg hc130)).symm))))))))))))))))))))))))) (fun hc108 => (h107 hc108))))) (fun hc105 => (h104 hc105))))))
theorem w222_192 {d : Nat} {h : qH} (hS : qSe h) {f : Int → qH → qM → Prop} {x6 : Int} {u7 : qV} {u8 : qV} {x9 : Int} {x10 : Int} {x11 : Int} {x12 : Int} {u13 : qV} {u14 : qV} {M : qM} (H :
    e179 (d + 4) h x6 0 M (fun v101 z104 M102 =>
    (∀ x105 : Int, x105 = (if x10 < 0 then x12 else x10) → ((v101 = x105 →
    e179 (d + 4) z104 x6 1 M102 (fun v110 z113 M111 =>
      (∀ x114 : Int, x114 = (if x11 < 0 then x12 else x11) → ((v110 = x114 →
      e173 (d + 4) z113 x6 0 M111 (fun v119 z122 M120 =>
        ((v119 = x9 →
        e173 (d + 4) z122 x6 1 M120 (fun v126 z129 M127 =>
          ((0 ≤ x6 ∧ x6 < 62) ∧ e206 (d + 1) z129 (M127 74 0 x6) 15 7 M127 (fun v132 M133 => 
          ((v126 = v132 →
          e173 (d + 4) z129 x6 2 M133 (fun v138 z141 M139 =>
            ((0 ≤ x6 ∧ x6 < 62) ∧ e206 (d + 1) z141 (M139 74 0 x6) 22 15 M139 (fun v144 M145 => 
            ((v138 = v144 →
            e173 (d + 4) z141 x6 3 M145 (fun v150 z153 M151 =>
              ((0 ≤ x6 ∧ x6 < 62) ∧ ((v150 = ((M151 74 0 x6) / 67108864) →
              e173 (d + 4) z153 x6 4 M151 (fun v159 z162 M160 =>
                ((0 ≤ x6 ∧ x6 < 62) ∧ ((v159 = (M160 75 0 x6) →
                (qIn (x6 + 1) ∧ b222_3 d z162 f (x6 + 1) (u7) (u8) (.inl x9) (.inl x10) (.inl x11) (.inl x12) (u13) (u14) M160)) ∧
                (¬ (v159 = (M160 75 0 x6)) →
                f 0 z162 M160))))) ∧
              (¬ (v150 = ((M151 74 0 x6) / 67108864)) →
              f 0 z153 M151))))) ∧
            (¬ (v138 = v144) →
            f 0 z141 M145)))))) ∧
          (¬ (v126 = v132) →
          f 0 z129 M133)))))) ∧
        (¬ (v119 = x9) →
        f 0 z122 M120)))) ∧
      (¬ (v110 = x114) →
      f 0 z113 M111))))) ∧
    (¬ (v101 = x105) →
    f 0 z104 M102))))) : b222_192 d h f x6 u7 u8 x9 x10 x11 x12 u13 u14 M :=
  qWq (fun pc => Nat.beq pc 3 || Nat.beq pc 98 || Nat.beq pc 192 || Nat.beq pc 211 || Nat.beq pc 233) 300 (And.intro rfl (lXi.go H (qLq d rfl) (fun v101 z104 M102 h103 => (have k172 : ∀ (x105 : Int), ((v101 = x105 → e179 (d + 4) z104 x6 1 M102 (fun v110 z113 M111 => (∀ x114 : Int, x114 = (if x11 < 0 then x12 else x11) → ((v110 = x114 → e173 (d + 4) z113 x6 0 M111 (fun v119 z122 M120 => ((v119 = x9 → e173 (d + 4) z122 x6 1 M120 (fun v126 z129 M127 => ((0 ≤ x6 ∧ x6 < 62) ∧ e206 (d + 1) z129 (M127 74 0 x6) 15 7 M127 (fun v132 M133 =>  ((v126 = v132 → e173 (d + 4) z129 x6 2 M133 (fun v138 z141 M139 => ((0 ≤ x6 ∧ x6 < 62) ∧ e206 (d + 1) z141 (M139 74 0 x6) 22 15 M139 (fun v144 M145 =>  ((v138 = v144 → e173 (d + 4) z141 x6 3 M145 (fun v150 z153 M151 => ((0 ≤ x6 ∧ x6 < 62) ∧ ((v150 = ((M151 74 0 x6) / 67108864) → e173 (d + 4) z153 x6 4 M151 (fun v159 z162 M160 => ((0 ≤ x6 ∧ x6 < 62) ∧ ((v159 = (M160 75 0 x6) → (qIn (x6 + 1) ∧ b222_3 d z162 f (x6 + 1) (u7) (u8) (.inl x9) (.inl x10) (.inl x11) (.inl x12) (u13) (u14) M160)) ∧ (¬ (v159 = (M160 75 0 x6)) → f 0 z162 M160))))) ∧ (¬ (v150 = ((M151 74 0 x6) / 67108864)) → f 0 z153 M151))))) ∧ (¬ (v138 = v144) → f 0 z141 M145)))))) ∧ (¬ (v126 = v132) → f 0 z129 M133)))))) ∧ (¬ (v119 = x9) → f 0 z122 M120)))) ∧ (¬ (v110 = x114) → f 0 z113 M111))))) ∧ (¬ (v101 = x105) → f 0 z104 M102)) → qG (d + 4) (-1, fun _ => 0) (qP 222) (lXi f) 211 [.inr (.inl (some (10, 0))), .inr (.inl (some (65, 0))), .inr (.inl (some (71, 0))), .inr (.inl (some (74, 0))), .inr (.inl (some (75, 0))), .inr (.inl (some (76, 0))), .inl x6, u7, u8, .inl x9, .inl x10, .inl x11, .inl x12, u13, u14] [.inl x105, .inl v101] (z104, M102) := fun x105 h106 => qWq (fun pc => Nat.beq pc 3 || Nat.beq pc 98 || Nat.beq pc 192 || Nat.beq pc 211 || Nat.beq pc 233) 300 (qAn h106 (fun h107 h108 => And.intro (fun hc109 => (And.intro rfl (lXi.go (h107 hc109) (qLq d rfl) (fun v110 z113 M111 h112 => (have k170 : ∀ (x114 : Int), ((v110 = x114 → e173 (d + 4) z113 x6 0 M111 (fun v119 z122 M120 => ((v119 = x9 → e173 (d + 4) z122 x6 1 M120 (fun v126 z129 M127 => ((0 ≤ x6 ∧ x6 < 62) ∧ e206 (d + 1) z129 (M127 74 0 x6) 15 7 M127 (fun v132 M133 =>  ((v126 = v132 → e173 (d + 4) z129 x6 2 M133 (fun v138 z141 M139 => ((0 ≤ x6 ∧ x6 < 62) ∧ e206 (d + 1) z141 (M139 74 0 x6) 22 15 M139 (fun v144 M145 =>  ((v138 = v144 → e173 (d + 4) z141 x6 3 M145 (fun v150 z153 M151 => ((0 ≤ x6 ∧ x6 < 62) ∧ ((v150 = ((M151 74 0 x6) / 67108864) → e173 (d + 4) z153 x6 4 M151 (fun v159 z162 M160 => ((0 ≤ x6 ∧ x6 < 62) ∧ ((v159 = (M160 75 0 x6) → (qIn (x6 + 1) ∧ b222_3 d z162 f (x6 + 1) (u7) (u8) (.inl x9) (.inl x10) (.inl x11) (.inl x12) (u13) (u14) M160)) ∧ (¬ (v159 = (M160 75 0 x6)) → f 0 z162 M160))))) ∧ (¬ (v150 = ((M151 74 0 x6) / 67108864)) → f 0 z153 M151))))) ∧ (¬ (v138 = v144) → f 0 z141 M145)))))) ∧ (¬ (v126 = v132) → f 0 z129 M133)))))) ∧ (¬ (v119 = x9) → f 0 z122 M120)))) ∧ (¬ (v110 = x114) → f 0 z113 M111)) → qG (d + 4) (-1, fun _ => 0) (qP 222) (lXi f) 233 [.inr (.inl (some (10, 0))), .inr (.inl (some (65, 0))), .inr (.inl (some (71, 0))), .inr (.inl (some (74, 0))), .inr (.inl (some (75, 0))), .inr (.inl (some (76, 0))), .inl x6, u7, u8, .inl x9, .inl x10, .inl x11, .inl x12, u13, u14] [.inl x114, .inl v110] (z113, M111) := fun x114 h115 => qWq (fun pc => Nat.beq pc 3 || Nat.beq pc 98 || Nat.beq pc 192 || Nat.beq pc 211 || Nat.beq pc 233) 300 (qAn h115 (fun h116 h117 => And.intro (fun hc118 => (And.intro rfl (lXi.go (h116 hc118) (qLq d rfl) (fun v119 z122 M120 h121 => (qAn h121 (fun h123 h124 => And.intro (fun hc125 => (And.intro rfl (lXi.go (h123 hc125) (qLq d rfl) (fun v126 z129 M127 h128 => (qAn h128 (fun a130 h131 => And.intro a130 (And.intro rfl (qEi.go h131 (qLq d rfl) (fun v132 M133 h134 => (qAn h134 (fun h135 h136 => And.intro (fun hc137 => (And.intro rfl (lXi.go (h135 hc137) (qLq d rfl) (fun v138 z141 M139 h140 => (qAn h140 (fun a142 h143 => And.intro a142 (And.intro rfl (qEi.go h143 (qLq d rfl) (fun v144 M145 h146 => (qAn h146 (fun h147 h148 => And.intro (fun hc149 => (And.intro rfl (lXi.go (h147 hc149) (qLq d rfl) (fun v150 z153 M151 h152 => (qAn h152 (fun a154 h155 => And.intro a154 (And.intro ⟨by decide, by decide⟩ (qAn h155 (fun h156 h157 => And.intro (fun hc158 => (And.intro rfl (lXi.go (h156 hc158) (qLq d rfl) (fun v159 z162 M160 h161 => (qAn h161 (fun a163 h164 => And.intro a163 (qAn h164 (fun h165 h166 => And.intro (fun hc167 => (qAn (h165 hc167) (fun a168 h169 => And.intro a168 h169))) (fun hc167 => (And.intro ⟨rfl, (Or.inl rfl)⟩ ⟨0, z162, M160, rfl, rfl, (h166 hc167)⟩)))))))))) (fun hc158 => (And.intro ⟨rfl, (Or.inl rfl)⟩ ⟨0, z153, M151, rfl, rfl, (h157 hc158)⟩))))))))))) (fun hc149 => (And.intro ⟨rfl, (Or.inl rfl)⟩ ⟨0, z141, M145, rfl, rfl, (h148 hc149)⟩))))))))))))) (fun hc137 => (And.intro ⟨rfl, (Or.inl rfl)⟩ ⟨0, z129, M133, rfl, rfl, (h136 hc137)⟩))))))))))))) (fun hc125 => (And.intro ⟨rfl, (Or.inl rfl)⟩ ⟨0, z122, M120, rfl, rfl, (h124 hc125)⟩)))))))) (fun hc118 => (And.intro ⟨rfl, (Or.inl rfl)⟩ ⟨0, z113, M111, rfl, rfl, (h117 hc118)⟩)))); (And.intro (fun hc171 => (k170 x12 (h112 x12 (if_pos hc171).symm))) (fun hc171 => (k170 x11 (h112 x11 (if_neg hc171).symm))))))))) (fun hc109 => (And.intro ⟨rfl, (Or.inl rfl)⟩ ⟨0, z104, M102, rfl, rfl, (h108 hc109)⟩)))); (And.intro (fun hc173 => (k172 x12 (h103 x12 (if_pos hc173).symm))) (fun hc173 => (k172 x10 (h103 x10 (if_neg hc173).symm))))))))
theorem w222 {d : Nat} {h : qH} (hS : qSe h)  {M : qM} {f : Int → qH → qM → Prop} (H :
    b222_3 d h f 1 (q_u) (q_u) (q_u) (q_u) (q_u) (q_u) (q_u) (q_u) M) : e222 (d + 5) h  M f :=
  qJ.body (Nat.le_of_ble_eq_true rfl) (qWq (fun pc => Nat.beq pc 3 || Nat.beq pc 98 || Nat.beq pc 192) 300 H)
theorem w223_3 {d : Nat} {h : qH} (hS : qSe h) {f : Int → qH → qM → Prop} {x6 : Int} {x7 : Int} {u8 : qV} {u9 : qV} {u10 : qV} {u11 : qV} {u12 : qV} {M : qM} (H :
    ((x7 < 10 →
    e216 (d + 4) h x7 M (fun v104 M105 => 
      b223_28 d h f x6 x7 v104 0 1 (u12) M105)) ∧
    (¬ (x7 < 10) →
    e218 (d + 5) h  M (fun v107 M108 => 
      b223_187 d h f (.inr (.inl (some (64, 0)))) (.inr (.inl (some (65, 0)))) (.inr (.inl (some (71, 0)))) (.inr (.inl (some (76, 0)))) (.inr (.inl (some (78, 0)))) x6 v107 0 (M108 76 0 28) (u10) (u11) (u12) M108)))) : b223_3 d h f x6 x7 u8 u9 u10 u11 u12 M :=
  qWq (fun pc => Nat.beq pc 3 || Nat.beq pc 28 || Nat.beq pc 60 || Nat.beq pc 187 || Nat.beq pc 223) 300 (qAn H (fun h101 h102 => And.intro (fun hc103 => (And.intro rfl (lEl.go (h101 hc103) (qLq d rfl) (fun v104 M105 h106 => h106)))) (fun hc103 => (And.intro rfl (qEi.go (h102 hc103) (qLq d rfl) (fun v107 M108 h109 => (And.intro ⟨by decide, by decide⟩ h109)))))))
theorem w223_28 {d : Nat} {h : qH} (hS : qSe h) {f : Int → qH → qM → Prop} {x6 : Int} {x7 : Int} {x8 : Int} {x10 : Int} {x11 : Int} {u12 : qV} {M : qM} (H :
    ((x11 < 61 →
    (qIn (x11 - 1) ∧ ((0 ≤ (x11 - 1) ∧ (x11 - 1) < 64) ∧ (((if (qAndL (x8 / 2 ^ ((x11 - 1)).toNat) 3) < 2 then -1 else if (qAndL (x8 / 2 ^ ((x11 - 1)).toNat) 3) = 2 then 0 else 1) = 0 →
      b223_60 d h f x6 x7 x8 x10 x11 x11 M) ∧
      (¬ ((if (qAndL (x8 / 2 ^ ((x11 - 1)).toNat) 3) < 2 then -1 else if (qAndL (x8 / 2 ^ ((x11 - 1)).toNat) 3) = 2 then 0 else 1) = 0) →
      (qIn (x11 + 1) ∧ b223_28 d h f x6 x7 x8 x10 (x11 + 1) (u12) M)))))) ∧
    (¬ (x11 < 61) →
    e181 (d + 4) h x7 M (fun v113 z116 M114 =>
      ((v113 = x10 →
      e182 (d + 4) z116 x7 x10 0 M114 (fun v120 z123 M121 =>
        ((v120 = (-1) →
        e182 (d + 4) z123 x7 (-1) 1 M121 (fun v127 z130 M128 =>
          ((v127 = (-7200) →
          (qIn (x7 + 1) ∧ b223_3 d z130 f x6 (x7 + 1) (.inr (.inr (.inl x8))) (q_u) (.inl x10) (.inl x11) (u12) M128)) ∧
          (¬ (v127 = (-7200)) →
          f 0 z130 M128)))) ∧
        (¬ (v120 = (-1)) →
        f 0 z123 M121)))) ∧
      (¬ (v113 = x10) →
      f 0 z116 M114)))))) : b223_28 d h f x6 x7 x8 x10 x11 u12 M :=
  qWq (fun pc => Nat.beq pc 3 || Nat.beq pc 28 || Nat.beq pc 60 || Nat.beq pc 187 || Nat.beq pc 223) 300 (qAn H (fun h101 h102 => And.intro (fun hc103 => (qAn (h101 hc103) (fun a104 h105 => And.intro a104 (qAn h105 (fun a106 h107 => And.intro a106 (qAn h107 (fun h108 h109 => And.intro (fun hc110 => (h108 hc110)) (fun hc110 => (qAn (h109 hc110) (fun a111 h112 => And.intro a111 h112)))))))))) (fun hc103 => (And.intro rfl (lXi.go (h102 hc103) (qLq d rfl) (fun v113 z116 M114 h115 => (qAn h115 (fun h117 h118 => And.intro (fun hc119 => (And.intro rfl (lXi.go (h117 hc119) (qLq d rfl) (fun v120 z123 M121 h122 => (qAn h122 (fun h124 h125 => And.intro (fun hc126 => (And.intro rfl (lXi.go (h124 hc126) (qLq d rfl) (fun v127 z130 M128 h129 => (qAn h129 (fun h131 h132 => And.intro (fun hc133 => (qAn (h131 hc133) (fun a134 h135 => And.intro a134 h135))) (fun hc133 => (And.intro ⟨rfl, (Or.inl rfl)⟩ ⟨0, z130, M128, rfl, rfl, (h132 hc133)⟩)))))))) (fun hc126 => (And.intro ⟨rfl, (Or.inl rfl)⟩ ⟨0, z123, M121, rfl, rfl, (h125 hc126)⟩)))))))) (fun hc119 => (And.intro ⟨rfl, (Or.inl rfl)⟩ ⟨0, z116, M114, rfl, rfl, (h118 hc119)⟩))))))))))
theorem w223_187 {d : Nat} {h : qH} (hS : qSe h) {f : Int → qH → qM → Prop} {u1 : qV} {u2 : qV} {u3 : qV} {u4 : qV} {u5 : qV} {x6 : Int} {x7 : Int} {x8 : Int} {x9 : Int} {u10 : qV} {u11 : qV} {u12 : qV} {M : qM} (H :
    ((x8 < x7 →
    (qIn (x7 - x8) ∧ (qIn (2 * x6) ∧ ((((x7 - x8) < (2 * x6) → qIn (x7 - x8)) ∧ (¬ ((x7 - x8) < (2 * x6)) → qIn (2 * x6))) ∧
      (∀ x108 : Int, x108 = (if (x7 - x8) < (2 * x6) then (x7 - x8) else (2 * x6)) → b223_223 d h f (u1) (u2) (u3) (u4) (u5) x6 x7 x8 x9 x108 0 (u12) M))))) ∧
    (¬ (x8 < x7) →
    e183 (d + 3) h  M (fun v114 z117 M115 =>
      ((v114 = x7 →
      e184 (d + 4) z117 x7 M115 (fun v121 z124 M122 =>
        ((v121 = (-1) →
        e184 (d + 4) z124 (-1) M122 (fun v128 z131 M129 =>
          ((v128 = (-7200) →
          e181 (d + 4) z131 10 M129 (fun v135 z138 M136 =>
            ((v135 = (-7100) →
            e182 (d + 4) z138 (-1) (-1) 1 M136 (fun v142 z145 M143 =>
              (∀ x146 : Int, x146 = (if v142 = (-7100) then 1 else 0) → ((x146 = 0 ∨ x146 = 1) ∧ f x146 z145 M143)))) ∧
            (¬ (v135 = (-7100)) →
            f 0 z138 M136)))) ∧
          (¬ (v128 = (-7200)) →
          f 0 z131 M129)))) ∧
        (¬ (v121 = (-1)) →
        f 0 z124 M122)))) ∧
      (¬ (v114 = x7) →
      f 0 z117 M115)))))) : b223_187 d h f u1 u2 u3 u4 u5 x6 x7 x8 x9 u10 u11 u12 M :=
  qWq (fun pc => Nat.beq pc 3 || Nat.beq pc 28 || Nat.beq pc 60 || Nat.beq pc 187 || Nat.beq pc 218 || Nat.beq pc 223 || Nat.beq pc 338) 300 (qAn H (fun h101 h102 => And.intro (fun hc103 => (qAn (h101 hc103) (fun a104 h105 => And.intro a104 (qAn h105 (fun a106 h107 => And.intro a106 (qAn h107 (fun h111 h112 => (have k110 : ∀ (x108 : Int), b223_223 d h f (u1) (u2) (u3) (u4) (u5) x6 x7 x8 x9 x108 0 (u12) M → qG (d + 5) (-1, fun _ => 0) (qP 223) (lXi f) 218 [.inr (.inl (some (10, 0))), u1, u2, u3, u4, u5, .inl x6, .inl x7, .inl x8, .inl x9, u10, u11, u12] [.inl x108] (h, M) := fun x108 h109 => qWq (fun pc => Nat.beq pc 3 || Nat.beq pc 28 || Nat.beq pc 60 || Nat.beq pc 187 || Nat.beq pc 218 || Nat.beq pc 223 || Nat.beq pc 338) 300 h109; (And.intro (fun hc113 => (And.intro (h111.1 hc113) (k110 (x7 - x8) (h112 (x7 - x8) (if_pos hc113).symm)))) (fun hc113 => (And.intro (h111.2 hc113) (k110 (2 * x6) (h112 (2 * x6) (if_neg hc113).symm))))))))))))) (fun hc103 => (And.intro rfl (lXi.go (h102 hc103) (qLq d rfl) (fun v114 z117 M115 h116 => (qAn h116 (fun h118 h119 => And.intro (fun hc120 => (And.intro rfl (lXi.go (h118 hc120) (qLq d rfl) (fun v121 z124 M122 h123 => (qAn h123 (fun h125 h126 => And.intro (fun hc127 => (And.intro rfl (lXi.go (h125 hc127) (qLq d rfl) (fun v128 z131 M129 h130 => (qAn h130 (fun h132 h133 => And.intro (fun hc134 => (And.intro rfl (lXi.go (h132 hc134) (qLq d rfl) (fun v135 z138 M136 h137 => (qAn h137 (fun h139 h140 => And.intro (fun hc141 => (And.intro rfl (lXi.go (h139 hc141) (qLq d rfl) (fun v142 z145 M143 h144 => (have k148 : ∀ (x146 : Int), ((x146 = 0 ∨ x146 = 1) ∧ f x146 z145 M143) → qG (d + 5) (-1, fun _ => 0) (qP 223) (lXi f) 338 [.inr (.inl (some (10, 0))), u1, u2, u3, u4, u5, .inl x6, .inl x7, .inl x8, .inl x9, u10, u11, u12] [.inl x146] (z145, M143) := fun x146 h147 => qWq (fun pc => Nat.beq pc 3 || Nat.beq pc 28 || Nat.beq pc 60 || Nat.beq pc 187 || Nat.beq pc 218 || Nat.beq pc 223 || Nat.beq pc 338) 300 (And.intro ⟨rfl, h147.1⟩ ⟨x146, z145, M143, rfl, rfl, h147.2⟩); (And.intro (fun hc149 => (k148 1 (h144 1 (if_pos hc149).symm))) (fun hc149 => (k148 0 (h144 0 (if_neg hc149).symm))))))))) (fun hc141 => (qWq (fun pc => Nat.beq pc 3 || Nat.beq pc 28 || Nat.beq pc 60 || Nat.beq pc 187 || Nat.beq pc 218 || Nat.beq pc 223 || Nat.beq pc 338) 300 (And.intro ⟨rfl, (Or.inl rfl)⟩ ⟨0, z138, M136, rfl, rfl, (h140 hc141)⟩))))))))) (fun hc134 => (qWq (fun pc => Nat.beq pc 3 || Nat.beq pc 28 || Nat.beq pc 60 || Nat.beq pc 187 || Nat.beq pc 218 || Nat.beq pc 223 || Nat.beq pc 338) 300 (And.intro ⟨rfl, (Or.inl rfl)⟩ ⟨0, z131, M129, rfl, rfl, (h133 hc134)⟩))))))))) (fun hc127 => (qWq (fun pc => Nat.beq pc 3 || Nat.beq pc 28 || Nat.beq pc 60 || Nat.beq pc 187 || Nat.beq pc 218 || Nat.beq pc 223 || Nat.beq pc 338) 300 (And.intro ⟨rfl, (Or.inl rfl)⟩ ⟨0, z124, M122, rfl, rfl, (h126 hc127)⟩))))))))) (fun hc120 => (qWq (fun pc => Nat.beq pc 3 || Nat.beq pc 28 || Nat.beq pc 60 || Nat.beq pc 187 || Nat.beq pc 218 || Nat.beq pc 223 || Nat.beq pc 338) 300 (And.intro ⟨rfl, (Or.inl rfl)⟩ ⟨0, z117, M115, rfl, rfl, (h119 hc120)⟩)))))))))))
theorem w223_60 {d : Nat} {h : qH} (hS : qSe h) {f : Int → qH → qM → Prop} {x6 : Int} {x7 : Int} {x8 : Int} {x10 : Int} {x11 : Int} {x12 : Int} {M : qM} (H :
    (qIn (x12 + 1) ∧ ((0 ≤ (x12 + 1) ∧ (x12 + 1) < 64) ∧ (((if (qAndL (x8 / 2 ^ ((x12 + 1)).toNat) 1) < 1 then -1 else if (qAndL (x8 / 2 ^ ((x12 + 1)).toNat) 1) = 1 then 0 else 1) = 0 →
    (qIn (x12 + 1) ∧ b223_60 d h f x6 x7 x8 x10 x11 (x12 + 1) M)) ∧
    (¬ ((if (qAndL (x8 / 2 ^ ((x12 + 1)).toNat) 1) < 1 then -1 else if (qAndL (x8 / 2 ^ ((x12 + 1)).toNat) 1) = 1 then 0 else 1) = 0) →
    e182 (d + 4) h x7 x10 0 M (fun v110 z113 M111 =>
      ((v110 = x11 →
      e182 (d + 4) z113 x7 x10 1 M111 (fun v117 z120 M118 =>
        ((v117 = x12 →
        (qIn (x10 + 1) ∧ (qIn (x11 + 1) ∧ b223_28 d z120 f x6 x7 x8 (x10 + 1) (x11 + 1) (.inl x12) M118))) ∧
        (¬ (v117 = x12) →
        f 0 z120 M118)))) ∧
      (¬ (v110 = x11) →
      f 0 z113 M111)))))))) : b223_60 d h f x6 x7 x8 x10 x11 x12 M :=
  qWq (fun pc => Nat.beq pc 3 || Nat.beq pc 28 || Nat.beq pc 60 || Nat.beq pc 187 || Nat.beq pc 223) 300 (qAn H (fun a101 h102 => And.intro a101 (qAn h102 (fun a103 h104 => And.intro a103 (qAn h104 (fun h105 h106 => And.intro (fun hc107 => (qAn (h105 hc107) (fun a108 h109 => And.intro a108 h109))) (fun hc107 => (And.intro rfl (lXi.go (h106 hc107) (qLq d rfl) (fun v110 z113 M111 h112 => (qAn h112 (fun h114 h115 => And.intro (fun hc116 => (And.intro rfl (lXi.go (h114 hc116) (qLq d rfl) (fun v117 z120 M118 h119 => (qAn h119 (fun h121 h122 => And.intro (fun hc123 => (qAn (h121 hc123) (fun a124 h125 => And.intro a124 (qAn h125 (fun a126 h127 => And.intro a126 h127))))) (fun hc123 => (And.intro ⟨rfl, (Or.inl rfl)⟩ ⟨0, z120, M118, rfl, rfl, (h122 hc123)⟩)))))))) (fun hc116 => (And.intro ⟨rfl, (Or.inl rfl)⟩ ⟨0, z113, M111, rfl, rfl, (h115 hc116)⟩))))))))))))))
theorem w223_223 {d : Nat} {h : qH} (hS : qSe h) {f : Int → qH → qM → Prop} {u1 : qV} {u2 : qV} {u3 : qV} {u4 : qV} {u5 : qV} {x6 : Int} {x7 : Int} {x8 : Int} {x9 : Int} {x10 : Int} {x11 : Int} {u12 : qV} {M : qM} (H :
    ((x11 < x10 →
    e184 (d + 4) h x8 M (fun v104 z107 M105 =>
      (qIn (10 * x9) ∧ (qIn (x10 + 1) ∧ (0 ≤ (x10 + 1) ∧ (∀ x114 : Int, x114 = (if x11 < ((x10 + 1) / 2) then 0 else 1) → (qIn ((10 * x9) + x114) ∧ ((v104 = ((10 * x9) + x114) →
      (qIn (x8 + 1) ∧ (qIn (x11 + 1) ∧ b223_223 d z107 f (u1) (u2) (u3) (u4) (u5) x6 x7 (x8 + 1) x9 x10 (x11 + 1) (u12) M105))) ∧
      (¬ (v104 = ((10 * x9) + x114)) →
      f 0 z107 M105))))))))) ∧
    (¬ (x11 < x10) →
    (qIn (x9 + 1) ∧ b223_187 d h f (u1) (u2) (u3) (u4) (u5) x6 x7 x8 (x9 + 1) (.inl x10) (.inl x11) (u12) M)))) : b223_223 d h f u1 u2 u3 u4 u5 x6 x7 x8 x9 x10 x11 u12 M :=
  qWq (fun pc => Nat.beq pc 3 || Nat.beq pc 28 || Nat.beq pc 60 || Nat.beq pc 187 || Nat.beq pc 223 || Nat.beq pc 257) 300 (qAn H (fun h101 h102 => And.intro (fun hc103 => (And.intro rfl (lXi.go (h101 hc103) (qLq d rfl) (fun v104 z107 M105 h106 => (qAn h106 (fun a108 h109 => And.intro a108 (qAn h109 (fun a110 h111 => And.intro a110 (qAn h111 (fun a112 h113 => And.intro ⟨a112, by decide⟩ (have k125 : ∀ (x114 : Int), (qIn ((10 * x9) + x114) ∧ ((v104 = ((10 * x9) + x114) → (qIn (x8 + 1) ∧ (qIn (x11 + 1) ∧ b223_223 d z107 f (u1) (u2) (u3) (u4) (u5) x6 x7 (x8 + 1) x9 x10 (x11 + 1) (u12) M105))) ∧ (¬ (v104 = ((10 * x9) + x114)) → f 0 z107 M105))) → qG (d + 5) (-1, fun _ => 0) (qP 223) (lXi f) 257 [.inr (.inl (some (10, 0))), u1, u2, u3, u4, u5, .inl x6, .inl x7, .inl x8, .inl x9, .inl x10, .inl x11, u12] [.inl x114, .inl (10 * x9), .inl v104] (z107, M105) := fun x114 h115 => qWq (fun pc => Nat.beq pc 3 || Nat.beq pc 28 || Nat.beq pc 60 || Nat.beq pc 187 || Nat.beq pc 223 || Nat.beq pc 257) 300 (qAn h115 (fun a116 h117 => And.intro a116 (qAn h117 (fun h118 h119 => And.intro (fun hc120 => (qAn (h118 hc120) (fun a121 h122 => And.intro a121 (qAn h122 (fun a123 h124 => And.intro a123 h124))))) (fun hc120 => (And.intro ⟨rfl, (Or.inl rfl)⟩ ⟨0, z107, M105, rfl, rfl, (h119 hc120)⟩)))))); (And.intro (fun hc126 => (k125 0 (h113 0 (if_pos hc126).symm))) (fun hc126 => (k125 1 (h113 1 (if_neg hc126).symm))))))))))))))) (fun hc103 => (qAn (h102 hc103) (fun a127 h128 => And.intro a127 h128)))))
theorem w223 {d : Nat} {h : qH} (hS : qSe h) {x6 : Int} {M : qM} {f : Int → qH → qM → Prop} (H :
    b223_3 d h f x6 0 (q_u) (q_u) (q_u) (q_u) (q_u) M) : e223 (d + 6) h x6 M f :=
  qJ.body (Nat.le_of_ble_eq_true rfl) (qWq (fun pc => Nat.beq pc 3 || Nat.beq pc 28 || Nat.beq pc 60 || Nat.beq pc 187 || Nat.beq pc 223) 300 H)
