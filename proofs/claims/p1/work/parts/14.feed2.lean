/-! ===== feed on fresh objects: both ===== -/
set_option maxRecDepth 100000 in
theorem p1_feedX (sL : Nat) (sx : Nat → Int32) (a b c d e : Int32) (t : Nat → Int32) (g : Int32) (u : Nat → Int32) : ∃ t', mx_ends sL sx mx_pg 2047 20 0 [(0, .ref 0), (1, .int a), (2, .int b), (3, .int c), (4, .int d), (5, .int e)] [] (p1_H 0 t g u) 0 0 (some (.int 20), p1_H 20 t' g u, 0, 0) := by
  have he : mx_pg[20]? = some eX11_feed := rfl
  obtain ⟨t1, h1⟩ := p1_take_0 sL sx a t g u
  obtain ⟨t2, h2⟩ := p1_take_4 sL sx b t1 g u
  obtain ⟨t3, h3⟩ := p1_take_8 sL sx c t2 g u
  obtain ⟨t4, h4⟩ := p1_take_12 sL sx d t3 g u
  obtain ⟨t5, h5⟩ := p1_take_16 sL sx e t4 g u
  refine ⟨t5, ?_⟩
  refine mx_ends_go he 8 (0, [(0, .ref 0), (1, .int a), (2, .int b), (3, .int c), (4, .int d), (5, .int e)], [], p1_H 0 t g u, 0, 0) (17, [(0, .ref 0), (1, .int a), (2, .int b), (3, .int c), (4, .int d), (5, .int e)], [.int a, .ref 0], p1_H 0 t g u, 0, 0) rfl ?_
  refine mx_ends_V (r1 := (none, p1_H 4 t1 g u, 0, 0)) (i := 0) (rest := []) he rfl rfl rfl rfl ⟨200, h1⟩ ?_
  refine mx_ends_go he 2 (20, [(0, .ref 0), (1, .int a), (2, .int b), (3, .int c), (4, .int d), (5, .int e)], [], p1_H 4 t1 g u, 0, 0) (22, [(0, .ref 0), (1, .int a), (2, .int b), (3, .int c), (4, .int d), (5, .int e)], [.int b, .ref 0], p1_H 4 t1 g u, 0, 0) rfl ?_
  refine mx_ends_V (r1 := (none, p1_H 8 t2 g u, 0, 0)) (i := 0) (rest := []) he rfl rfl rfl rfl ⟨200, h2⟩ ?_
  refine mx_ends_go he 2 (25, [(0, .ref 0), (1, .int a), (2, .int b), (3, .int c), (4, .int d), (5, .int e)], [], p1_H 8 t2 g u, 0, 0) (27, [(0, .ref 0), (1, .int a), (2, .int b), (3, .int c), (4, .int d), (5, .int e)], [.int c, .ref 0], p1_H 8 t2 g u, 0, 0) rfl ?_
  refine mx_ends_V (r1 := (none, p1_H 12 t3 g u, 0, 0)) (i := 0) (rest := []) he rfl rfl rfl rfl ⟨200, h3⟩ ?_
  refine mx_ends_go he 2 (30, [(0, .ref 0), (1, .int a), (2, .int b), (3, .int c), (4, .int d), (5, .int e)], [], p1_H 12 t3 g u, 0, 0) (33, [(0, .ref 0), (1, .int a), (2, .int b), (3, .int c), (4, .int d), (5, .int e)], [.int d, .ref 0], p1_H 12 t3 g u, 0, 0) rfl ?_
  refine mx_ends_V (r1 := (none, p1_H 16 t4 g u, 0, 0)) (i := 0) (rest := []) he rfl rfl rfl rfl ⟨200, h4⟩ ?_
  refine mx_ends_go he 2 (36, [(0, .ref 0), (1, .int a), (2, .int b), (3, .int c), (4, .int d), (5, .int e)], [], p1_H 16 t4 g u, 0, 0) (39, [(0, .ref 0), (1, .int a), (2, .int b), (3, .int c), (4, .int d), (5, .int e)], [.int e, .ref 0], p1_H 16 t4 g u, 0, 0) rfl ?_
  refine mx_ends_V (r1 := (none, p1_H 20 t5 g u, 0, 0)) (i := 0) (rest := []) he rfl rfl rfl rfl ⟨200, h5⟩ ?_
  refine mx_ends_go he 2 (42, [(0, .ref 0), (1, .int a), (2, .int b), (3, .int c), (4, .int d), (5, .int e)], [], p1_H 20 t5 g u, 0, 0) (46, [(0, .ref 0), (1, .int a), (2, .int b), (3, .int c), (4, .int d), (5, .int e)], [.int 20], p1_H 20 t5 g u, 0, 0) rfl ?_
  exact mx_ends_iret he rfl rfl
set_option maxRecDepth 100000 in
theorem p1_feedM (sL : Nat) (sx : Nat → Int32) (a b c d e : Int32) (f : Int32) (t : Nat → Int32) (u : Nat → Int32) : ∃ u', mx_ends sL sx mx_pg 2047 33 0 [(0, .ref 66), (1, .int a), (2, .int b), (3, .int c), (4, .int d), (5, .int e)] [] (p1_H f t 0 u) 0 0 (some (.int 20), p1_H f t 20 u', 0, 0) := by
  have he : mx_pg[33]? = some eX12_feed := rfl
  obtain ⟨u1, h1⟩ := p1_m_0 sL sx a a b c d e f t u
  obtain ⟨u2, h2⟩ := p1_m_1 sL sx a a b c d e f t u1
  obtain ⟨u3, h3⟩ := p1_m_2 sL sx a a b c d e f t u2
  obtain ⟨u4, h4⟩ := p1_m_3 sL sx a a b c d e f t u3
  obtain ⟨u5, h5⟩ := p1_m_4 sL sx a a b c d e f t u4
  obtain ⟨u6, h6⟩ := p1_m_5 sL sx b a b c d e f t u5
  obtain ⟨u7, h7⟩ := p1_m_6 sL sx b a b c d e f t u6
  obtain ⟨u8, h8⟩ := p1_m_7 sL sx b a b c d e f t u7
  obtain ⟨u9, h9⟩ := p1_m_8 sL sx b a b c d e f t u8
  obtain ⟨u10, h10⟩ := p1_m_9 sL sx c a b c d e f t u9
  obtain ⟨u11, h11⟩ := p1_m_10 sL sx c a b c d e f t u10
  obtain ⟨u12, h12⟩ := p1_m_11 sL sx c a b c d e f t u11
  obtain ⟨u13, h13⟩ := p1_m_12 sL sx c a b c d e f t u12
  obtain ⟨u14, h14⟩ := p1_m_13 sL sx d a b c d e f t u13
  obtain ⟨u15, h15⟩ := p1_m_14 sL sx d a b c d e f t u14
  obtain ⟨u16, h16⟩ := p1_m_15 sL sx d a b c d e f t u15
  obtain ⟨u17, h17⟩ := p1_m_16 sL sx d a b c d e f t u16
  obtain ⟨u18, h18⟩ := p1_m_17 sL sx e a b c d e f t u17
  obtain ⟨u19, h19⟩ := p1_m_18 sL sx e a b c d e f t u18
  obtain ⟨u20, h20⟩ := p1_m_19 sL sx e a b c d e f t u19
  refine ⟨u20, ?_⟩
  refine mx_ends_go he 8 (0, [(0, .ref 66), (1, .int a), (2, .int b), (3, .int c), (4, .int d), (5, .int e)], [], p1_H f t 0 u, 0, 0) (18, (6, .int 0) :: [(0, .ref 66), (1, .int a), (2, .int b), (3, .int c), (4, .int d), (5, .int e)], [], p1_H f t 0 u, 0, 0) rfl ?_
  refine mx_ends_go he _ _ _ h1 ?_
  refine mx_ends_go he _ _ _ h2 ?_
  refine mx_ends_go he _ _ _ h3 ?_
  refine mx_ends_go he _ _ _ h4 ?_
  refine mx_ends_go he _ _ _ h5 ?_
  refine mx_ends_go he _ _ _ h6 ?_
  refine mx_ends_go he _ _ _ h7 ?_
  refine mx_ends_go he _ _ _ h8 ?_
  refine mx_ends_go he _ _ _ h9 ?_
  refine mx_ends_go he _ _ _ h10 ?_
  refine mx_ends_go he _ _ _ h11 ?_
  refine mx_ends_go he _ _ _ h12 ?_
  refine mx_ends_go he _ _ _ h13 ?_
  refine mx_ends_go he _ _ _ h14 ?_
  refine mx_ends_go he _ _ _ h15 ?_
  refine mx_ends_go he _ _ _ h16 ?_
  refine mx_ends_go he _ _ _ h17 ?_
  refine mx_ends_go he _ _ _ h18 ?_
  refine mx_ends_go he _ _ _ h19 ?_
  refine mx_ends_go he _ _ _ h20 ?_
  refine mx_ends_go he 5 (18, (6, .int 20) :: (7, .int e) :: [(0, .ref 66), (1, .int a), (2, .int b), (3, .int c), (4, .int d), (5, .int e)], [], p1_H f t 20 u20, 0, 0) (119, (6, .int 20) :: (7, .int e) :: [(0, .ref 66), (1, .int a), (2, .int b), (3, .int c), (4, .int d), (5, .int e)], [.int 20], p1_H f t 20 u20, 0, 0) rfl ?_
  exact mx_ends_iret he rfl rfl
