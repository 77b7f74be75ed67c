/-! ===== FacingleafModel.goesThrough, leastFrom ===== -/
abbrev m_I : Int := 536870912
