/-! ===== from cut to cut, by wip/p41/gen/genw.py: methods 229 to 193 ===== -/
theorem w229_269 {d : Nat} {h : qH} (hS : qSe h) {f : Int → qH → qM → Prop} {u1 : qV} {M : qM} (H :
    e179 (d + 4) h 1 1 M (fun v101 z104 M102 =>
    ((v101 = (-7300) →
    e181 (d + 4) z104 9 M102 (fun v108 z111 M109 =>
      ((v108 = (-7300) →
      e181 (d + 4) z111 10 M109 (fun v115 z118 M116 =>
        ((v115 = (-7100) →
        e182 (d + 4) z118 0 0 1 M116 (fun v122 z125 M123 =>
          ((v122 = (-7300) →
          e182 (d + 4) z125 0 (-1) 1 M123 (fun v129 z132 M130 =>
            ((v129 = (-7200) →
            e183 (d + 3) z132  M130 (fun v136 z139 M137 =>
              ((v136 = (-7300) →
              e184 (d + 4) z139 0 M137 (fun v143 z146 M144 =>
                ((v143 = (-7300) →
                e184 (d + 4) z146 (-1) M144 (fun v150 z153 M151 =>
                  ((v150 = (-7200) →
                  e185 (d + 3) z153  M151 (fun v157 z160 M158 =>
                    ((v157 = (-7300) →
                    e186 (d + 7) z160  M158 (fun v164 z167 M165 =>
                      (∀ x168 : Int, x168 = (if v164 = (-7300) then 1 else 0) → ((x168 = 0 ∨ x168 = 1) ∧ f x168 z167 M165)))) ∧
                    (¬ (v157 = (-7300)) →
                    f 0 z160 M158)))) ∧
                  (¬ (v150 = (-7200)) →
                  f 0 z153 M151)))) ∧
                (¬ (v143 = (-7300)) →
                f 0 z146 M144)))) ∧
              (¬ (v136 = (-7300)) →
              f 0 z139 M137)))) ∧
            (¬ (v129 = (-7200)) →
            f 0 z132 M130)))) ∧
          (¬ (v122 = (-7300)) →
          f 0 z125 M123)))) ∧
        (¬ (v115 = (-7100)) →
        f 0 z118 M116)))) ∧
      (¬ (v108 = (-7300)) →
      f 0 z111 M109)))) ∧
    (¬ (v101 = (-7300)) →
    f 0 z104 M102)))) : b229_269 d h f u1 M :=
  qWq (fun pc => Nat.beq pc 269 || Nat.beq pc 388) 300 (And.intro rfl (lXi.go H (qLq d rfl) (fun v101 z104 M102 h103 => (qAn h103 (fun h105 h106 => And.intro (fun hc107 => (And.intro rfl (lXi.go (h105 hc107) (qLq d rfl) (fun v108 z111 M109 h110 => (qAn h110 (fun h112 h113 => And.intro (fun hc114 => (And.intro rfl (lXi.go (h112 hc114) (qLq d rfl) (fun v115 z118 M116 h117 => (qAn h117 (fun h119 h120 => And.intro (fun hc121 => (And.intro rfl (lXi.go (h119 hc121) (qLq d rfl) (fun v122 z125 M123 h124 => (qAn h124 (fun h126 h127 => And.intro (fun hc128 => (And.intro rfl (lXi.go (h126 hc128) (qLq d rfl) (fun v129 z132 M130 h131 => (qAn h131 (fun h133 h134 => And.intro (fun hc135 => (And.intro rfl (lXi.go (h133 hc135) (qLq d rfl) (fun v136 z139 M137 h138 => (qAn h138 (fun h140 h141 => And.intro (fun hc142 => (And.intro rfl (lXi.go (h140 hc142) (qLq d rfl) (fun v143 z146 M144 h145 => (qAn h145 (fun h147 h148 => And.intro (fun hc149 => (And.intro rfl (lXi.go (h147 hc149) (qLq d rfl) (fun v150 z153 M151 h152 => (qAn h152 (fun h154 h155 => And.intro (fun hc156 => (And.intro rfl (lXi.go (h154 hc156) (qLq d rfl) (fun v157 z160 M158 h159 => (qAn h159 (fun h161 h162 => And.intro (fun hc163 => (And.intro rfl (lXi.go (h161 hc163) (qLq d rfl) (fun v164 z167 M165 h166 => (have k170 : ∀ (x168 : Int), ((x168 = 0 ∨ x168 = 1) ∧ f x168 z167 M165) → qG (d + 7) (-1, fun _ => 0) (qP 229) (lXi f) 388 [.inr (.inl (some (10, 0))), u1] [.inl x168] (z167, M165) := fun x168 h169 => qWq (fun pc => Nat.beq pc 269 || Nat.beq pc 388) 300 (And.intro ⟨rfl, h169.1⟩ ⟨x168, z167, M165, rfl, rfl, h169.2⟩); (And.intro (fun hc171 => (k170 1 (h166 1 (if_pos hc171).symm))) (fun hc171 => (k170 0 (h166 0 (if_neg hc171).symm))))))))) (fun hc163 => (qWq (fun pc => Nat.beq pc 269 || Nat.beq pc 388) 300 (And.intro ⟨rfl, (Or.inl rfl)⟩ ⟨0, z160, M158, rfl, rfl, (h162 hc163)⟩))))))))) (fun hc156 => (qWq (fun pc => Nat.beq pc 269 || Nat.beq pc 388) 300 (And.intro ⟨rfl, (Or.inl rfl)⟩ ⟨0, z153, M151, rfl, rfl, (h155 hc156)⟩))))))))) (fun hc149 => (qWq (fun pc => Nat.beq pc 269 || Nat.beq pc 388) 300 (And.intro ⟨rfl, (Or.inl rfl)⟩ ⟨0, z146, M144, rfl, rfl, (h148 hc149)⟩))))))))) (fun hc142 => (qWq (fun pc => Nat.beq pc 269 || Nat.beq pc 388) 300 (And.intro ⟨rfl, (Or.inl rfl)⟩ ⟨0, z139, M137, rfl, rfl, (h141 hc142)⟩))))))))) (fun hc135 => (qWq (fun pc => Nat.beq pc 269 || Nat.beq pc 388) 300 (And.intro ⟨rfl, (Or.inl rfl)⟩ ⟨0, z132, M130, rfl, rfl, (h134 hc135)⟩))))))))) (fun hc128 => (qWq (fun pc => Nat.beq pc 269 || Nat.beq pc 388) 300 (And.intro ⟨rfl, (Or.inl rfl)⟩ ⟨0, z125, M123, rfl, rfl, (h127 hc128)⟩))))))))) (fun hc121 => (qWq (fun pc => Nat.beq pc 269 || Nat.beq pc 388) 300 (And.intro ⟨rfl, (Or.inl rfl)⟩ ⟨0, z118, M116, rfl, rfl, (h120 hc121)⟩))))))))) (fun hc114 => (qWq (fun pc => Nat.beq pc 269 || Nat.beq pc 388) 300 (And.intro ⟨rfl, (Or.inl rfl)⟩ ⟨0, z111, M109, rfl, rfl, (h113 hc114)⟩))))))))) (fun hc107 => (qWq (fun pc => Nat.beq pc 269 || Nat.beq pc 388) 300 (And.intro ⟨rfl, (Or.inl rfl)⟩ ⟨0, z104, M102, rfl, rfl, (h106 hc107)⟩))))))))
theorem w229 {d : Nat} {h : qH} (hS : qSe h)  {M : qM} {f : Int → qH → qM → Prop} (H :
    e106 (d + 1) h  M (fun v101 M102 => 
    ((v101 = 0 →
    e160 (d + 3) h  M102 (fun v107 z110 M108 =>
      ((v107 = (-7300) →
      e169 (d + 3) z110  M108 (fun v114 z117 M115 =>
        ((v114 = (-7300) →
        e168 (d + 3) z117  M115 (fun v121 z124 M122 =>
          ((v121 = (-7300) →
          e170 (d + 3) z124 1 M122 (fun v128 z131 M129 =>
            ((v128 = (-7300) →
            e170 (d + 3) z131 0 M129 (fun v135 z138 M136 =>
              ((v135 = (-7100) →
              e171 (d + 3) z138 0 1 M136 (fun v142 z145 M143 =>
                ((v142 = (-7300) →
                e171 (d + 3) z145 3 1 M143 (fun v149 z152 M150 =>
                  ((v149 = (-7100) →
                  e172 (d + 3) z152 0 99 M150 (fun v156 z159 M157 =>
                    ((v156 = (-7300) →
                    e172 (d + 3) z159 0 (-1) M157 (fun v163 z166 M164 =>
                      ((v163 = (-7100) →
                      e173 (d + 4) z166 1 0 M164 (fun v170 z173 M171 =>
                        ((v170 = (-7300) →
                        e173 (d + 4) z173 1 5 M171 (fun v177 z180 M178 =>
                          ((v177 = (-7200) →
                          e173 (d + 4) z180 0 5 M178 (fun v184 z187 M185 =>
                            ((v184 = (-7100) →
                            e174 (d + 3) z187 2 M185 (fun v191 z194 M192 =>
                              ((v191 = (-7300) →
                              e175 (d + 6) z194 3 M192 (fun v198 z201 M199 =>
                                ((v198 = (-7100) →
                                e175 (d + 6) z201 0 M199 (fun v205 z208 M206 =>
                                  ((v205 = (-7300) →
                                  e167 (d + 3) z208 1 M206 (fun v212 z215 M213 =>
                                    ((v212 = (-7300) →
                                    e176 (d + 3) z215  M213 (fun v219 z222 M220 =>
                                      ((v219 = (-7300) →
                                      e164 (d + 4) z222 0 (M220 77 0 0) M220 (fun v226 z229 M227 =>
                                        ((v226 = (-7100) →
                                        (((M227 77 0 0) = 0 →
                                          b229_269 d z229 f (.inr (.inl (some (77, 0)))) M227) ∧
                                          (¬ ((M227 77 0 0) = 0) →
                                          e164 (d + 4) z229 0 0 M227 (fun v236 z239 M237 =>
                                            ((v236 = (-7300) →
                                            e165 (d + 4) z239 0 0 50 M237 (fun v243 z246 M244 =>
                                              ((v243 = (-7300) →
                                              e165 (d + 4) z246 0 0 (-1) M244 (fun v250 z253 M251 =>
                                                ((v250 = (-7100) →
                                                e166 (d + 4) z253 0 0 M251 (fun v257 z260 M258 =>
                                                  ((v257 = (-7300) →
                                                  b229_269 d z260 f (.inr (.inl (some (77, 0)))) M258) ∧
                                                  (¬ (v257 = (-7300)) →
                                                  f 0 z260 M258)))) ∧
                                                (¬ (v250 = (-7100)) →
                                                f 0 z253 M251)))) ∧
                                              (¬ (v243 = (-7300)) →
                                              f 0 z246 M244)))) ∧
                                            (¬ (v236 = (-7300)) →
                                            f 0 z239 M237)))))) ∧
                                        (¬ (v226 = (-7100)) →
                                        f 0 z229 M227)))) ∧
                                      (¬ (v219 = (-7300)) →
                                      f 0 z222 M220)))) ∧
                                    (¬ (v212 = (-7300)) →
                                    f 0 z215 M213)))) ∧
                                  (¬ (v205 = (-7300)) →
                                  f 0 z208 M206)))) ∧
                                (¬ (v198 = (-7100)) →
                                f 0 z201 M199)))) ∧
                              (¬ (v191 = (-7300)) →
                              f 0 z194 M192)))) ∧
                            (¬ (v184 = (-7100)) →
                            f 0 z187 M185)))) ∧
                          (¬ (v177 = (-7200)) →
                          f 0 z180 M178)))) ∧
                        (¬ (v170 = (-7300)) →
                        f 0 z173 M171)))) ∧
                      (¬ (v163 = (-7100)) →
                      f 0 z166 M164)))) ∧
                    (¬ (v156 = (-7300)) →
                    f 0 z159 M157)))) ∧
                  (¬ (v149 = (-7100)) →
                  f 0 z152 M150)))) ∧
                (¬ (v142 = (-7300)) →
                f 0 z145 M143)))) ∧
              (¬ (v135 = (-7100)) →
              f 0 z138 M136)))) ∧
            (¬ (v128 = (-7300)) →
            f 0 z131 M129)))) ∧
          (¬ (v121 = (-7300)) →
          f 0 z124 M122)))) ∧
        (¬ (v114 = (-7300)) →
        f 0 z117 M115)))) ∧
      (¬ (v107 = (-7300)) →
      f 0 z110 M108)))) ∧
    (¬ (v101 = 0) →
    f 0 h M102)))) : e229 (d + 8) h  M f :=
  qJ.body (Nat.le_of_ble_eq_true rfl) (qWq (fun pc => Nat.beq pc 269) 300 (And.intro rfl (qEi.go H (qLq d rfl) (fun v101 M102 h103 => (qAn h103 (fun h104 h105 => And.intro (fun hc106 => (And.intro rfl (lXi.go (h104 hc106) (qLq d rfl) (fun v107 z110 M108 h109 => (qAn h109 (fun h111 h112 => And.intro (fun hc113 => (And.intro rfl (lXi.go (h111 hc113) (qLq d rfl) (fun v114 z117 M115 h116 => (qAn h116 (fun h118 h119 => And.intro (fun hc120 => (And.intro rfl (lXi.go (h118 hc120) (qLq d rfl) (fun v121 z124 M122 h123 => (qAn h123 (fun h125 h126 => And.intro (fun hc127 => (And.intro rfl (lXi.go (h125 hc127) (qLq d rfl) (fun v128 z131 M129 h130 => (qAn h130 (fun h132 h133 => And.intro (fun hc134 => (And.intro rfl (lXi.go (h132 hc134) (qLq d rfl) (fun v135 z138 M136 h137 => (qAn h137 (fun h139 h140 => And.intro (fun hc141 => (And.intro rfl (lXi.go (h139 hc141) (qLq d rfl) (fun v142 z145 M143 h144 => (qAn h144 (fun h146 h147 => And.intro (fun hc148 => (And.intro rfl (lXi.go (h146 hc148) (qLq d rfl) (fun v149 z152 M150 h151 => (qAn h151 (fun h153 h154 => And.intro (fun hc155 => (And.intro rfl (lXi.go (h153 hc155) (qLq d rfl) (fun v156 z159 M157 h158 => (qAn h158 (fun h160 h161 => And.intro (fun hc162 => (And.intro rfl (lXi.go (h160 hc162) (qLq d rfl) (fun v163 z166 M164 h165 => (qAn h165 (fun h167 h168 => And.intro (fun hc169 => (And.intro rfl (lXi.go (h167 hc169) (qLq d rfl) (fun v170 z173 M171 h172 => (qAn h172 (fun h174 h175 => And.intro (fun hc176 => (And.intro rfl (lXi.go (h174 hc176) (qLq d rfl) (fun v177 z180 M178 h179 => (qAn h179 (fun h181 h182 => And.intro (fun hc183 => (And.intro rfl (lXi.go (h181 hc183) (qLq d rfl) (fun v184 z187 M185 h186 => (qAn h186 (fun h188 h189 => And.intro (fun hc190 => (And.intro rfl (lXi.go (h188 hc190) (qLq d rfl) (fun v191 z194 M192 h193 => (qAn h193 (fun h195 h196 => And.intro (fun hc197 => (And.intro rfl (lXi.go (h195 hc197) (qLq d rfl) (fun v198 z201 M199 h200 => (qAn h200 (fun h202 h203 => And.intro (fun hc204 => (And.intro rfl (lXi.go (h202 hc204) (qLq d rfl) (fun v205 z208 M206 h207 => (qAn h207 (fun h209 h210 => And.intro (fun hc211 => (And.intro rfl (lXi.go (h209 hc211) (qLq d rfl) (fun v212 z215 M213 h214 => (qAn h214 (fun h216 h217 => And.intro (fun hc218 => (And.intro rfl (lXi.go (h216 hc218) (qLq d rfl) (fun v219 z222 M220 h221 => (qAn h221 (fun h223 h224 => And.intro (fun hc225 => (And.intro ⟨by decide, by decide⟩ (And.intro rfl (lXi.go (h223 hc225) (qLq d rfl) (fun v226 z229 M227 h228 => (qAn h228 (fun h230 h231 => And.intro (fun hc232 => (And.intro ⟨by decide, by decide⟩ (qAn (h230 hc232) (fun h233 h234 => And.intro (fun hc235 => (h233 hc235)) (fun hc235 => (And.intro rfl (lXi.go (h234 hc235) (qLq d rfl) (fun v236 z239 M237 h238 => (qAn h238 (fun h240 h241 => And.intro (fun hc242 => (And.intro rfl (lXi.go (h240 hc242) (qLq d rfl) (fun v243 z246 M244 h245 => (qAn h245 (fun h247 h248 => And.intro (fun hc249 => (And.intro rfl (lXi.go (h247 hc249) (qLq d rfl) (fun v250 z253 M251 h252 => (qAn h252 (fun h254 h255 => And.intro (fun hc256 => (And.intro rfl (lXi.go (h254 hc256) (qLq d rfl) (fun v257 z260 M258 h259 => (qAn h259 (fun h261 h262 => And.intro (fun hc263 => (h261 hc263)) (fun hc263 => (And.intro ⟨rfl, (Or.inl rfl)⟩ ⟨0, z260, M258, rfl, rfl, (h262 hc263)⟩)))))))) (fun hc256 => (And.intro ⟨rfl, (Or.inl rfl)⟩ ⟨0, z253, M251, rfl, rfl, (h255 hc256)⟩)))))))) (fun hc249 => (And.intro ⟨rfl, (Or.inl rfl)⟩ ⟨0, z246, M244, rfl, rfl, (h248 hc249)⟩)))))))) (fun hc242 => (And.intro ⟨rfl, (Or.inl rfl)⟩ ⟨0, z239, M237, rfl, rfl, (h241 hc242)⟩)))))))))))) (fun hc232 => (And.intro ⟨rfl, (Or.inl rfl)⟩ ⟨0, z229, M227, rfl, rfl, (h231 hc232)⟩))))))))) (fun hc225 => (And.intro ⟨rfl, (Or.inl rfl)⟩ ⟨0, z222, M220, rfl, rfl, (h224 hc225)⟩)))))))) (fun hc218 => (And.intro ⟨rfl, (Or.inl rfl)⟩ ⟨0, z215, M213, rfl, rfl, (h217 hc218)⟩)))))))) (fun hc211 => (And.intro ⟨rfl, (Or.inl rfl)⟩ ⟨0, z208, M206, rfl, rfl, (h210 hc211)⟩)))))))) (fun hc204 => (And.intro ⟨rfl, (Or.inl rfl)⟩ ⟨0, z201, M199, rfl, rfl, (h203 hc204)⟩)))))))) (fun hc197 => (And.intro ⟨rfl, (Or.inl rfl)⟩ ⟨0, z194, M192, rfl, rfl, (h196 hc197)⟩)))))))) (fun hc190 => (And.intro ⟨rfl, (Or.inl rfl)⟩ ⟨0, z187, M185, rfl, rfl, (h189 hc190)⟩)))))))) (fun hc183 => (And.intro ⟨rfl, (Or.inl rfl)⟩ ⟨0, z180, M178, rfl, rfl, (h182 hc183)⟩)))))))) (fun hc176 => (And.intro ⟨rfl, (Or.inl rfl)⟩ ⟨0, z173, M171, rfl, rfl, (h175 hc176)⟩)))))))) (fun hc169 => (And.intro ⟨rfl, (Or.inl rfl)⟩ ⟨0, z166, M164, rfl, rfl, (h168 hc169)⟩)))))))) (fun hc162 => (And.intro ⟨rfl, (Or.inl rfl)⟩ ⟨0, z159, M157, rfl, rfl, (h161 hc162)⟩)))))))) (fun hc155 => (And.intro ⟨rfl, (Or.inl rfl)⟩ ⟨0, z152, M150, rfl, rfl, (h154 hc155)⟩)))))))) (fun hc148 => (And.intro ⟨rfl, (Or.inl rfl)⟩ ⟨0, z145, M143, rfl, rfl, (h147 hc148)⟩)))))))) (fun hc141 => (And.intro ⟨rfl, (Or.inl rfl)⟩ ⟨0, z138, M136, rfl, rfl, (h140 hc141)⟩)))))))) (fun hc134 => (And.intro ⟨rfl, (Or.inl rfl)⟩ ⟨0, z131, M129, rfl, rfl, (h133 hc134)⟩)))))))) (fun hc127 => (And.intro ⟨rfl, (Or.inl rfl)⟩ ⟨0, z124, M122, rfl, rfl, (h126 hc127)⟩)))))))) (fun hc120 => (And.intro ⟨rfl, (Or.inl rfl)⟩ ⟨0, z117, M115, rfl, rfl, (h119 hc120)⟩)))))))) (fun hc113 => (And.intro ⟨rfl, (Or.inl rfl)⟩ ⟨0, z110, M108, rfl, rfl, (h112 hc113)⟩)))))))) (fun hc106 => (And.intro ⟨rfl, (Or.inl rfl)⟩ ⟨0, h, M102, rfl, rfl, (h105 hc106)⟩))))))))
theorem w214v1_3 {d : Nat} {h : qH} (hS : qSe h) {f : qM → Prop} {x6 : Int} {x7 : Int} {u8 : qV} {u9 : qV} {u10 : qV} {u11 : qV} {M : qM} (H :
    ((x7 < 18 →
    b214v1_13 d h f x6 x7 0 (u9) (u10) (u11) M) ∧
    (¬ (x7 < 18) →
    f M))) : b214v1_3 d h f x6 x7 u8 u9 u10 u11 M :=
  qWq (fun pc => Nat.beq pc 3 || Nat.beq pc 13 || Nat.beq pc 112 || Nat.beq pc 135) 300 (qAn H (fun h101 h102 => And.intro (fun hc103 => (h101 hc103)) (fun hc103 => (And.intro rfl ⟨M, rfl, rfl, (h102 hc103)⟩))))
theorem w214v1_13 {d : Nat} {h : qH} (hS : qSe h) {f : qM → Prop} {x6 : Int} {x7 : Int} {x8 : Int} {u9 : qV} {u10 : qV} {u11 : qV} {M : qM} (H :
    e189 (d + 1) h x7 M (fun v101 M102 => 
    ((x8 < v101 →
    e187 (d + 1) h x7 x8 M102 (fun v107 M108 => 
      e188 (d + 1) h v107 M108 (fun v110 M111 => 
      ((v110 = 6 →
      ((x6 = 0 →
        e211 (d + 4) h x7 x8 M111 (fun v119 M120 => 
          ((v119 = 0 →
          b214v1_112 d h f x6 x7 x8 v110 2 (.inl v119) M120) ∧
          (¬ (v119 = 0) →
          ((v119 = 1 →
            b214v1_112 d h f x6 x7 x8 v110 5 (.inl v119) M120) ∧
            (¬ (v119 = 1) →
            ((v119 = 2 →
              b214v1_112 d h f x6 x7 x8 v110 8 (.inl v119) M120) ∧
              (¬ (v119 = 2) →
              (qIn (v119 - 10) ∧ e191 (d + 1) h (v119 - 10) M120 (fun v133 M134 => 
                (qIn (5 + v133) ∧ b214v1_112 d h f x6 x7 x8 v110 (5 + v133) (.inl v119) M134))))))))))) ∧
        (¬ (x6 = 0) →
        b214v1_112 d h f x6 x7 x8 v110 2 (.inl 0) M111))) ∧
      (¬ (v110 = 6) →
      b214v1_112 d h f x6 x7 x8 v110 0 (u11) M111))))) ∧
    (¬ (x8 < v101) →
    (qIn (x7 + 1) ∧ b214v1_3 d h f x6 (x7 + 1) (.inl x8) (u9) (u10) (u11) M102))))) : b214v1_13 d h f x6 x7 x8 u9 u10 u11 M :=
  qWq (fun pc => Nat.beq pc 3 || Nat.beq pc 13 || Nat.beq pc 112 || Nat.beq pc 135) 300 (And.intro rfl (qEi.go H (qLq d rfl) (fun v101 M102 h103 => (qAn h103 (fun h104 h105 => And.intro (fun hc106 => (And.intro rfl (qEi.go (h104 hc106) (qLq d rfl) (fun v107 M108 h109 => (And.intro rfl (qEi.go h109 (qLq d rfl) (fun v110 M111 h112 => (qAn h112 (fun h113 h114 => And.intro (fun hc115 => (qAn (h113 hc115) (fun h116 h117 => And.intro (fun hc118 => (And.intro rfl (qEi.go (h116 hc118) (qLq d rfl) (fun v119 M120 h121 => (qAn h121 (fun h122 h123 => And.intro (fun hc124 => (h122 hc124)) (fun hc124 => (qAn (h123 hc124) (fun h125 h126 => And.intro (fun hc127 => (h125 hc127)) (fun hc127 => (qAn (h126 hc127) (fun h128 h129 => And.intro (fun hc130 => (h128 hc130)) (fun hc130 => (qAn (h129 hc130) (fun a131 h132 => And.intro a131 (And.intro rfl (qEi.go h132 (qLq d rfl) (fun v133 M134 h135 => (qAn h135 (fun a136 h137 => And.intro a136 h137)))))))))))))))))))) (fun hc118 => (And.intro (fun _ => (h117 hc118)) (fun hc138 => absurd (by decide) hc138)))))) (fun hc115 => (h114 hc115))))))))))) (fun hc106 => (qAn (h105 hc106) (fun a139 h140 => And.intro a139 h140))))))))
theorem w214v1_112 {d : Nat} {h : qH} (hS : qSe h) {f : qM → Prop} {x6 : Int} {x7 : Int} {x8 : Int} {x9 : Int} {x10 : Int} {u11 : qV} {M : qM} (H :
    ((x9 = 2 →
    ((x6 = 0 →
      b214v1_135 d h f x6 x7 x8 (.inl x9) (.inl x10) (u11) M) ∧
      (¬ (x6 = 0) →
      (((M 76 0 3) = 1 →
        ((0 ≤ x7 ∧ x7 < 19) ∧ (qIn ((M 67 0 x7) + x8) ∧ ((0 ≤ ((M 67 0 x7) + x8) ∧ ((M 67 0 x7) + x8) < 64) ∧ ∀ M114, M114 = qU M 68 0 ((M 67 0 x7) + x8) 1 → (qIn (x8 + 1) ∧ b214v1_13 d h f x6 x7 (x8 + 1) (.inl x9) (.inl 1) (u11) M114))))) ∧
        (¬ ((M 76 0 3) = 1) →
        b214v1_135 d h f x6 x7 x8 (.inl x9) (.inl x10) (u11) M))))) ∧
    (¬ (x9 = 2) →
    ((0 ≤ x7 ∧ x7 < 19) ∧ (qIn ((M 67 0 x7) + x8) ∧ ((0 ≤ ((M 67 0 x7) + x8) ∧ ((M 67 0 x7) + x8) < 64) ∧ ∀ M123, M123 = qU M 68 0 ((M 67 0 x7) + x8) x10 → (qIn (x8 + 1) ∧ b214v1_13 d h f x6 x7 (x8 + 1) (.inl x9) (.inl x10) (u11) M123))))))) : b214v1_112 d h f x6 x7 x8 x9 x10 u11 M :=
  qWq (fun pc => Nat.beq pc 3 || Nat.beq pc 13 || Nat.beq pc 112 || Nat.beq pc 135) 300 (qAn H (fun h101 h102 => And.intro (fun hc103 => (qAn (h101 hc103) (fun h104 h105 => And.intro (fun hc106 => (h104 hc106)) (fun hc106 => (And.intro ⟨by decide, by decide⟩ (qAn (h105 hc106) (fun h107 h108 => And.intro (fun hc109 => (qAn (h107 hc109) (fun a110 h111 => And.intro a110 (qAn h111 (fun a112 h113 => And.intro a112 (qAn h113 (fun a115 h116 => And.intro a115 (qAn (h116 _ rfl) (fun a117 h118 => And.intro a117 h118))))))))) (fun hc109 => (h108 hc109))))))))) (fun hc103 => (qAn (h102 hc103) (fun a119 h120 => And.intro a119 (qAn h120 (fun a121 h122 => And.intro a121 (qAn h122 (fun a124 h125 => And.intro a124 (qAn (h125 _ rfl) (fun a126 h127 => And.intro a126 h127)))))))))))
theorem w214v1_135 {d : Nat} {h : qH} (hS : qSe h) {f : qM → Prop} {x6 : Int} {x7 : Int} {x8 : Int} {u9 : qV} {u10 : qV} {u11 : qV} {M : qM} (H :
    (∀ x101 : Int, x101 = (if (M 76 0 3) = 1 then 1 else 0) → e212 (d + 4) h x7 x8 x101 M (fun v103 M104 => 
    e191 (d + 1) h v103 M104 (fun v106 M107 => 
    ((0 ≤ x7 ∧ x7 < 19) ∧ (qIn ((M107 67 0 x7) + x8) ∧ ((0 ≤ ((M107 67 0 x7) + x8) ∧ ((M107 67 0 x7) + x8) < 64) ∧ ∀ M113, M113 = qU M107 68 0 ((M107 67 0 x7) + x8) v106 → (qIn (x8 + 1) ∧ b214v1_13 d h f x6 x7 (x8 + 1) (u9) (.inl v106) (u11) M113)))))))) : b214v1_135 d h f x6 x7 x8 u9 u10 u11 M :=
  qWq (fun pc => Nat.beq pc 3 || Nat.beq pc 13 || Nat.beq pc 112 || Nat.beq pc 135 || Nat.beq pc 157) 300 (And.intro ⟨by decide, by decide⟩ (have k118 : ∀ (x101 : Int), e212 (d + 4) h x7 x8 x101 M (fun v103 M104 =>  e191 (d + 1) h v103 M104 (fun v106 M107 =>  ((0 ≤ x7 ∧ x7 < 19) ∧ (qIn ((M107 67 0 x7) + x8) ∧ ((0 ≤ ((M107 67 0 x7) + x8) ∧ ((M107 67 0 x7) + x8) < 64) ∧ ∀ M113, M113 = qU M107 68 0 ((M107 67 0 x7) + x8) v106 → (qIn (x8 + 1) ∧ b214v1_13 d h f x6 x7 (x8 + 1) (u9) (.inl v106) (u11) M113)))))) → qG (d + 4) (-1, fun _ => 0) (qP 214) (qRv h f) 157 [.inr (.inl (some (64, 0))), .inr (.inl (some (65, 0))), .inr (.inl (some (67, 0))), .inr (.inl (some (71, 0))), .inr (.inl (some (76, 0))), .inr (.inl (some (68, 0))), .inl x6, .inl x7, .inl x8, u9, u10, u11] [.inl x101, .inl x8, .inl x7, .inr (.inl (some (76, 0))), .inr (.inl (some (71, 0))), .inr (.inl (some (65, 0))), .inr (.inl (some (64, 0)))] (h, M) := fun x101 h102 => qWq (fun pc => Nat.beq pc 3 || Nat.beq pc 13 || Nat.beq pc 112 || Nat.beq pc 135 || Nat.beq pc 157) 300 (And.intro rfl (qEi.go h102 (qLq d rfl) (fun v103 M104 h105 => (And.intro rfl (qEi.go h105 (qLq d rfl) (fun v106 M107 h108 => (qAn h108 (fun a109 h110 => And.intro a109 (qAn h110 (fun a111 h112 => And.intro a111 (qAn h112 (fun a114 h115 => And.intro a114 (qAn (h115 _ rfl) (fun a116 h117 => And.intro a116 h117)))))))))))))); (And.intro (fun hc119 => (k118 1 (H 1 (if_pos hc119).symm))) (fun hc119 => (k118 0 (H 0 (if_neg hc119).symm))))))
theorem w214v1 {d : Nat} {h : qH} (hS : qSe h) {x6 : Int} {M : qM} {f : qM → Prop} (H :
    b214v1_3 d h f x6 0 (q_u) (q_u) (q_u) (q_u) M) : e214v1 (d + 5) h x6 M f :=
  qJ.body (Nat.le_of_ble_eq_true rfl) (qWq (fun pc => Nat.beq pc 3 || Nat.beq pc 13 || Nat.beq pc 112 || Nat.beq pc 135) 300 H)
theorem w193v1_78 {d : Nat} {h : qH} (hS : qSe h) {f : Int → qH → qM → Prop} {u1 : qV} {x4 : Int} {x5 : Int} {x6 : Int} {x7 : Int} {x8 : Int} {x9 : Int} {x10 : Int} {x11 : Int} {x12 : Int} {u13 : qV} {u14 : qV} {u15 : qV} {M : qM} (H :
    ((x12 < 0 →
    b193v1_277 d h f (.inr (.inl (some (64, 0)))) (u1) (.inr (.inl (some (67, 0)))) (.inr (.inl (some (68, 0)))) x4 x5 x6 x7 (.inl x8) x9 x10 x11 0 (u13) (u14) (u15) M) ∧
    (¬ (x12 < 0) →
    ((0 ≤ x12 ∧ x12 < 17) ∧ ∀ M104, M104 = qU M 87 x10 x12 1073741824 → b193v1_94 d h f (u1) x4 x5 x6 x7 x8 x9 x10 x11 x12 x9 (u14) (u15) M104)))) : b193v1_78 d h f u1 x4 x5 x6 x7 x8 x9 x10 x11 x12 u13 u14 u15 M :=
  qWq (fun pc => Nat.beq pc 78 || Nat.beq pc 94 || Nat.beq pc 114 || Nat.beq pc 163 || Nat.beq pc 277) 300 (qAn H (fun h101 h102 => And.intro (fun hc103 => (h101 hc103)) (fun hc103 => (qAn (h102 hc103) (fun a105 h106 => And.intro a105 (h106 _ rfl))))))
theorem w193v1_277 {d : Nat} {h : qH} (hS : qSe h) {f : Int → qH → qM → Prop} {u0 : qV} {u1 : qV} {u2 : qV} {u3 : qV} {x4 : Int} {x5 : Int} {x6 : Int} {x7 : Int} {u8 : qV} {x9 : Int} {x10 : Int} {x11 : Int} {x12 : Int} {u13 : qV} {u14 : qV} {u15 : qV} {M : qM} (H :
    ((x12 < x9 →
    (qIn (20 * x6) ∧ (qIn (19 + x6) ∧ ((0 ≤ (19 + x6) ∧ (19 + x6) < 36) ∧ (qIn ((20 * x6) + (M 101 x5 (19 + x6))) ∧ (qIn (16 * x12) ∧ (qIn (x7 + (16 * x12)) ∧ ((0 ≤ x12 ∧ x12 < 17) ∧ (qIn (512 * (M 88 x11 x12)) ∧ (qIn ((x7 + (16 * x12)) + (512 * (M 88 x11 x12))) ∧ ((0 ≤ ((20 * x6) + (M 101 x5 (19 + x6))) ∧ ((20 * x6) + (M 101 x5 (19 + x6))) < 60) ∧ ∀ M122, M122 = qU M 71 x4 ((20 * x6) + (M 101 x5 (19 + x6))) ((x7 + (16 * x12)) + (512 * (M 88 x11 x12))) → (qIn (19 + x6) ∧ ((0 ≤ (19 + x6) ∧ (19 + x6) < 36) ∧ (qIn ((M122 101 x5 (19 + x6)) + 1) ∧ ((0 ≤ (19 + x6) ∧ (19 + x6) < 36) ∧ ∀ M131, M131 = qU M122 101 x5 (19 + x6) ((M122 101 x5 (19 + x6)) + 1) → ((0 ≤ x12 ∧ x12 < 17) ∧ b193v1_277 d h f (u0) (u1) (u2) (u3) x4 x5 x6 x7 (u8) x9 x10 x11 (M131 88 x11 x12) (u13) (u14) (u15) M131)))))))))))))))) ∧
    (¬ (x12 < x9) →
    (0 ≤ (M 87 x10 0) ∧ f ((M 87 x10 0) / 64) h M)))) : b193v1_277 d h f u0 u1 u2 u3 x4 x5 x6 x7 u8 x9 x10 x11 x12 u13 u14 u15 M :=
  qWq (fun pc => Nat.beq pc 78 || Nat.beq pc 94 || Nat.beq pc 114 || Nat.beq pc 163 || Nat.beq pc 277) 300 (qAn H (fun h101 h102 => And.intro (fun hc103 => (qAn (h101 hc103) (fun a104 h105 => And.intro a104 (qAn h105 (fun a106 h107 => And.intro a106 (qAn h107 (fun a108 h109 => And.intro a108 (qAn h109 (fun a110 h111 => And.intro a110 (qAn h111 (fun a112 h113 => And.intro a112 (qAn h113 (fun a114 h115 => And.intro a114 (qAn h115 (fun a116 h117 => And.intro a116 (qAn h117 (fun a118 h119 => And.intro a118 (qAn h119 (fun a120 h121 => And.intro a120 (qAn h121 (fun a123 h124 => And.intro a123 (qAn (h124 _ rfl) (fun a125 h126 => And.intro a125 (qAn h126 (fun a127 h128 => And.intro a127 (qAn h128 (fun a129 h130 => And.intro a129 (qAn h130 (fun a132 h133 => And.intro a132 (qAn (h133 _ rfl) (fun a134 h135 => And.intro a134 h135))))))))))))))))))))))))))))))) (fun hc103 => (And.intro ⟨by decide, by decide⟩ (qAn (h102 hc103) (fun a136 h137 => And.intro ⟨a136, by decide⟩ ⟨((M 87 x10 0) / 64), h, M, rfl, rfl, h137⟩))))))
theorem w193v1_94 {d : Nat} {h : qH} (hS : qSe h) {f : Int → qH → qM → Prop} {u1 : qV} {x4 : Int} {x5 : Int} {x6 : Int} {x7 : Int} {x8 : Int} {x9 : Int} {x10 : Int} {x11 : Int} {x12 : Int} {x13 : Int} {u14 : qV} {u15 : qV} {M : qM} (H :
    ((x13 ≤ x12 →
    (qIn (x12 + (-1)) ∧ b193v1_78 d h f (u1) x4 x5 x6 x7 x8 x9 x10 x11 (x12 + (-1)) (.inl x13) (u14) (u15) M)) ∧
    (¬ (x13 ≤ x12) →
    (qIn (x13 - x12) ∧ (qIn ((x13 - x12) - 1) ∧ b193v1_114 d h f (u1) x4 x5 x6 x7 x8 x9 x10 x11 x12 x13 ((x13 - x12) - 1) x12 M))))) : b193v1_94 d h f u1 x4 x5 x6 x7 x8 x9 x10 x11 x12 x13 u14 u15 M :=
  qWq (fun pc => Nat.beq pc 78 || Nat.beq pc 94 || Nat.beq pc 114 || Nat.beq pc 163 || Nat.beq pc 277) 300 (qAn H (fun h101 h102 => And.intro (fun hc103 => (qAn (h101 hc103) (fun a104 h105 => And.intro a104 h105))) (fun hc103 => (qAn (h102 hc103) (fun a106 h107 => And.intro a106 (qAn h107 (fun a108 h109 => And.intro a108 h109)))))))
theorem w193v1_114 {d : Nat} {h : qH} (hS : qSe h) {f : Int → qH → qM → Prop} {u1 : qV} {x4 : Int} {x5 : Int} {x6 : Int} {x7 : Int} {x8 : Int} {x9 : Int} {x10 : Int} {x11 : Int} {x12 : Int} {x13 : Int} {x14 : Int} {x15 : Int} {M : qM} (H :
    ((x15 < x13 →
    e192 (d + 2) h x8 x15 M (fun v104 M105 => 
      (qIn (x14 + v104) ∧ (qIn (x15 + 1) ∧ b193v1_114 d h f (u1) x4 x5 x6 x7 x8 x9 x10 x11 x12 x13 (x14 + v104) (x15 + 1) M105)))) ∧
    (¬ (x15 < x13) →
    ((x14 ≤ (M 101 x5 1) →
      b193v1_163 d h f (u1) x4 x5 x6 x7 x8 x9 x10 x11 x12 x13 x14 (.inl x15) M) ∧
      (¬ (x14 ≤ (M 101 x5 1)) →
      (qIn (x12 + 1) ∧ ((x13 ≤ (x12 + 1) →
        b193v1_163 d h f (u1) x4 x5 x6 x7 x8 x9 x10 x11 x12 x13 x14 (.inl x15) M) ∧
        (¬ (x13 ≤ (x12 + 1)) →
        (qIn (x13 + (-1)) ∧ b193v1_94 d h f (u1) x4 x5 x6 x7 x8 x9 x10 x11 x12 (x13 + (-1)) (.inl x14) (.inl x15) M))))))))) : b193v1_114 d h f u1 x4 x5 x6 x7 x8 x9 x10 x11 x12 x13 x14 x15 M :=
  qWq (fun pc => Nat.beq pc 78 || Nat.beq pc 94 || Nat.beq pc 114 || Nat.beq pc 163 || Nat.beq pc 277) 300 (qAn H (fun h101 h102 => And.intro (fun hc103 => (And.intro rfl (qEi.go (h101 hc103) (qLq d rfl) (fun v104 M105 h106 => (qAn h106 (fun a107 h108 => And.intro a107 (qAn h108 (fun a109 h110 => And.intro a109 h110)))))))) (fun hc103 => (And.intro ⟨by decide, by decide⟩ (qAn (h102 hc103) (fun h111 h112 => And.intro (fun hc113 => (h111 hc113)) (fun hc113 => (qAn (h112 hc113) (fun a114 h115 => And.intro a114 (qAn h115 (fun h116 h117 => And.intro (fun hc118 => (h116 hc118)) (fun hc118 => (qAn (h117 hc118) (fun a119 h120 => And.intro a119 h120))))))))))))))
theorem w193v1_163 {d : Nat} {h : qH} (hS : qSe h) {f : Int → qH → qM → Prop} {u1 : qV} {x4 : Int} {x5 : Int} {x6 : Int} {x7 : Int} {x8 : Int} {x9 : Int} {x10 : Int} {x11 : Int} {x12 : Int} {x13 : Int} {x14 : Int} {u15 : qV} {M : qM} (H :
    (((x14 ≤ (M 101 x5 1) → (¬ (x13 = x9) → (qIn ((M 101 x5 1) - x14) ∧ (qIn ((M 101 x5 1) - x14) ∧ qIn (((M 101 x5 1) - x14) * ((M 101 x5 1) - x14)))))) ∧ (¬ (x14 ≤ (M 101 x5 1)) → (qIn (x14 - (M 101 x5 1)) ∧ qIn (100 * (x14 - (M 101 x5 1)))))) ∧
    (∀ x101 : Int, x101 = (if x14 ≤ (M 101 x5 1) then (if x13 = x9 then 0 else (((M 101 x5 1) - x14) * ((M 101 x5 1) - x14))) else (100 * (x14 - (M 101 x5 1)))) → (qIn (64 * x101) ∧ (qIn ((64 * x101) + 1) ∧ ((0 ≤ x13 ∧ x13 < 17) ∧ (qIn (((64 * x101) + 1) + (M 87 x10 x13)) ∧ ((0 ≤ x12 ∧ x12 < 17) ∧ (((((64 * x101) + 1) + (M 87 x10 x13)) < (M 87 x10 x12) →
    (qIn (64 * x101) ∧ (qIn ((64 * x101) + 1) ∧ ((0 ≤ x13 ∧ x13 < 17) ∧ (qIn (((64 * x101) + 1) + (M 87 x10 x13)) ∧ ((0 ≤ x12 ∧ x12 < 17) ∧ ∀ M124, M124 = qU M 87 x10 x12 (((64 * x101) + 1) + (M 87 x10 x13)) → ((0 ≤ x12 ∧ x12 < 17) ∧ ∀ M127, M127 = qU M124 88 x11 x12 x13 → (qIn (x13 + (-1)) ∧ b193v1_94 d h f (u1) x4 x5 x6 x7 x8 x9 x10 x11 x12 (x13 + (-1)) (.inl x14) (.inl x101) M127)))))))) ∧
    (¬ ((((64 * x101) + 1) + (M 87 x10 x13)) < (M 87 x10 x12)) →
    (qIn (x13 + (-1)) ∧ b193v1_94 d h f (u1) x4 x5 x6 x7 x8 x9 x10 x11 x12 (x13 + (-1)) (.inl x14) (.inl x101) M))))))))))) : b193v1_163 d h f u1 x4 x5 x6 x7 x8 x9 x10 x11 x12 x13 x14 u15 M :=
  qWq (fun pc => Nat.beq pc 78 || Nat.beq pc 94 || Nat.beq pc 114 || Nat.beq pc 163 || Nat.beq pc 211 || Nat.beq pc 277) 300 (And.intro ⟨by decide, by decide⟩ (qAn H (fun h135 h136 => (have k134 : ∀ (x101 : Int), (qIn (64 * x101) ∧ (qIn ((64 * x101) + 1) ∧ ((0 ≤ x13 ∧ x13 < 17) ∧ (qIn (((64 * x101) + 1) + (M 87 x10 x13)) ∧ ((0 ≤ x12 ∧ x12 < 17) ∧ (((((64 * x101) + 1) + (M 87 x10 x13)) < (M 87 x10 x12) → (qIn (64 * x101) ∧ (qIn ((64 * x101) + 1) ∧ ((0 ≤ x13 ∧ x13 < 17) ∧ (qIn (((64 * x101) + 1) + (M 87 x10 x13)) ∧ ((0 ≤ x12 ∧ x12 < 17) ∧ ∀ M124, M124 = qU M 87 x10 x12 (((64 * x101) + 1) + (M 87 x10 x13)) → ((0 ≤ x12 ∧ x12 < 17) ∧ ∀ M127, M127 = qU M124 88 x11 x12 x13 → (qIn (x13 + (-1)) ∧ b193v1_94 d h f (u1) x4 x5 x6 x7 x8 x9 x10 x11 x12 (x13 + (-1)) (.inl x14) (.inl x101) M127)))))))) ∧ (¬ ((((64 * x101) + 1) + (M 87 x10 x13)) < (M 87 x10 x12)) → (qIn (x13 + (-1)) ∧ b193v1_94 d h f (u1) x4 x5 x6 x7 x8 x9 x10 x11 x12 (x13 + (-1)) (.inl x14) (.inl x101) M)))))))) → qG (d + 2) (-1, fun _ => 0) (qP 193) (lXi f) 211 [.inr (.inl (some (64, 0))), u1, .inr (.inl (some (67, 0))), .inr (.inl (some (68, 0))), .inr (.inl (some (71, x4))), .inr (.inl (some (101, x5))), .inl x6, .inl x7, .inl x8, .inl x9, .inr (.inl (some (87, x10))), .inr (.inl (some (88, x11))), .inl x12, .inl x13, .inl x14, u15] [.inl x101] (h, M) := fun x101 h102 => qWq (fun pc => Nat.beq pc 78 || Nat.beq pc 94 || Nat.beq pc 114 || Nat.beq pc 163 || Nat.beq pc 211 || Nat.beq pc 277) 300 (qAn h102 (fun a103 h104 => And.intro a103 (qAn h104 (fun a105 h106 => And.intro a105 (qAn h106 (fun a107 h108 => And.intro a107 (qAn h108 (fun a109 h110 => And.intro a109 (qAn h110 (fun a111 h112 => And.intro a111 (qAn h112 (fun h113 h114 => And.intro (fun hc115 => (qAn (h113 hc115) (fun a116 h117 => And.intro a116 (qAn h117 (fun a118 h119 => And.intro a118 (qAn h119 (fun a120 h121 => And.intro a120 (qAn h121 (fun a122 h123 => And.intro a122 (qAn h123 (fun a125 h126 => And.intro a125 (qAn (h126 _ rfl) (fun a128 h129 => And.intro a128 (qAn (h129 _ rfl) (fun a130 h131 => And.intro a130 h131))))))))))))))) (fun hc115 => (qAn (h114 hc115) (fun a132 h133 => And.intro a132 h133))))))))))))))); (And.intro (fun hc137 => (And.intro (fun hc138 => (k134 0 (h136 0 ((if_pos hc137).trans (if_pos hc138)).symm))) (fun hc138 => (And.intro ⟨by decide, by decide⟩ (And.intro ((h135.1 hc137) hc138).1 (And.intro ⟨by decide, by decide⟩ (And.intro ((h135.1 hc137) hc138).2.1 (And.intro ((h135.1 hc137) hc138).2.2 (k134 (((M 101 x5 1) - x14) * ((M 101 x5 1) - x14)) (h136 (((M 101 x5 1) - x14) * ((M 101 x5 1) - x14)) ((if_pos hc137).trans (if_neg hc138)).symm)))))))))) (fun hc137 => (And.intro ⟨by decide, by decide⟩ (And.intro (h135.2 hc137).1 (And.intro (h135.2 hc137).2 (k134 (100 * (x14 - (M 101 x5 1))) (h136 (100 * (x14 - (M 101 x5 1))) (if_neg hc137).symm)))))))))))
theorem w193v1 {d : Nat} {h : qH} (hS : qSe h) {x4 : Int} {x5 : Int} {x6 : Int} {x7 : Int} {M : qM} {f : Int → qH → qM → Prop} (H :
    (qIn (6 * x6) ∧ (qIn ((6 * x6) + x7) ∧ e189 (d + 1) h ((6 * x6) + x7) M (fun v105 M106 => 
    e190 (d + 1) h ((6 * x6) + x7) M106 (fun v108 M109 => 
    ((v108 = 0 →
    (0 ≤ h.1 87 ∧ ∀ n116, n116 = h.1 87 → ∀ M117, M117 = lNm M109 87 n116 → ∀ z118, z118 = lNh h 87 17 → (0 ≤ z118.1 88 ∧ ∀ n121, n121 = z118.1 88 → ∀ M122, M122 = lNm M117 88 n121 → ∀ z123, z123 = lNh z118 88 17 → (qIn (v105 - 1) ∧ b193v1_78 d z123 f (.inr (.inl (some (65, 0)))) x4 x5 x6 x7 ((6 * x6) + x7) v105 n116 n121 (v105 - 1) (q_u) (q_u) (q_u) M122)))) ∧
    (¬ (v108 = 0) →
    (qIn (20 * x6) ∧ (qIn (19 + x6) ∧ ((0 ≤ (19 + x6) ∧ (19 + x6) < 36) ∧ (qIn ((20 * x6) + (M109 101 x5 (19 + x6))) ∧ ((0 ≤ ((20 * x6) + (M109 101 x5 (19 + x6))) ∧ ((20 * x6) + (M109 101 x5 (19 + x6))) < 60) ∧ ∀ M134, M134 = qU M109 71 x4 ((20 * x6) + (M109 101 x5 (19 + x6))) x7 → (qIn (19 + x6) ∧ ((0 ≤ (19 + x6) ∧ (19 + x6) < 36) ∧ (qIn ((M134 101 x5 (19 + x6)) + 1) ∧ ((0 ≤ (19 + x6) ∧ (19 + x6) < 36) ∧ ∀ M143, M143 = qU M134 101 x5 (19 + x6) ((M134 101 x5 (19 + x6)) + 1) → f 0 h M143)))))))))))))))) : e193v1 (d + 3) h x4 x5 x6 x7 M f :=
  qJ.body (Nat.le_of_ble_eq_true rfl) (qWq (fun pc => Nat.beq pc 78 || Nat.beq pc 94 || Nat.beq pc 114 || Nat.beq pc 163 || Nat.beq pc 277) 300 (qAn H (fun a101 h102 => And.intro a101 (qAn h102 (fun a103 h104 => And.intro a103 (And.intro rfl (qEi.go h104 (qLq d rfl) (fun v105 M106 h107 => (And.intro rfl (qEi.go h107 (qLq d rfl) (fun v108 M109 h110 => (qAn h110 (fun h111 h112 => And.intro (fun hc113 => (qAn (h111 hc113) (fun a114 h115 => And.intro ⟨a114, rfl, Or.inl rfl⟩ (qAn (h115 _ rfl _ rfl _ rfl) (fun a119 h120 => And.intro ⟨a119, rfl, Or.inl rfl⟩ (qAn (h120 _ rfl _ rfl _ rfl) (fun a124 h125 => And.intro a124 h125))))))) (fun hc113 => (qAn (h112 hc113) (fun a126 h127 => And.intro a126 (qAn h127 (fun a128 h129 => And.intro a128 (qAn h129 (fun a130 h131 => And.intro a130 (qAn h131 (fun a132 h133 => And.intro a132 (qAn h133 (fun a135 h136 => And.intro a135 (qAn (h136 _ rfl) (fun a137 h138 => And.intro a137 (qAn h138 (fun a139 h140 => And.intro a139 (qAn h140 (fun a141 h142 => And.intro a141 (qAn h142 (fun a144 h145 => And.intro a144 ⟨0, h, (qU (qU M109 71 x4 ((20 * x6) + (M109 101 x5 (19 + x6))) x7) 101 x5 (19 + x6) (((qU M109 71 x4 ((20 * x6) + (M109 101 x5 (19 + x6))) x7) 101 x5 (19 + x6)) + 1)), rfl, rfl, (h145 _ rfl)⟩))))))))))))))))))))))))))))))))
