/-- the runner at whom a shadow ends -/
noncomputable def en (v : Vw) (r l : Int) : Int := if 1 ≤ ln v r l then st v (al (v 6 r) (aw v l) (ln v r l)) else -5
