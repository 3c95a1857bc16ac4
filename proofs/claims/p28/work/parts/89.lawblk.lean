/-! ===== layer 2: the law by blocks, written by a program ===== -/
def b_L_law_47 (d : Nat) (r_0 : Nat) (r_1 : Nat) (l2 : Int32) (l3 : Int32) (l4 : Int32) (l5 : Int32) (u6 : Option Value) (u7 : Option Value) (u8 : Option Value) (u9 : Option Value) (u10 : Option Value) (u11 : Option Int32) (u12 : Option Value) (u13 : Option Value) (u14 : Option Value) (h : XH) (K : XK) (E : XE) : Prop := Ex d [] tb_L_law (47, [some (.ref r_0), some (.ref r_1), some (.int l2), some (.int l3), some (.int l4), some (.int l5), u6, u7, u8, u9, u10, (xoi u11), u12, u13, u14], []) h (Po K E)
def b_L_law_58 (d : Nat) (r_0 : Nat) (r_1 : Nat) (l2 : Int32) (u3 : Option Value) (l4 : Int32) (l5 : Int32) (u6 : Option Value) (u7 : Option Value) (u8 : Option Value) (u9 : Option Value) (u10 : Option Value) (u11 : Option Int32) (u12 : Option Value) (u13 : Option Value) (u14 : Option Value) (h : XH) (K : XK) (E : XE) : Prop := Ex d [] tb_L_law (58, [some (.ref r_0), some (.ref r_1), some (.int l2), u3, some (.int l4), some (.int l5), u6, u7, u8, u9, u10, (xoi u11), u12, u13, u14], []) h (Po K E)
def b_L_law_99 (d : Nat) (r_0 : Nat) (r_1 : Nat) (l2 : Int32) (u3 : Option Value) (l4 : Int32) (l5 : Int32) (l6 : Int32) (l7 : Int32) (u8 : Option Value) (u9 : Option Value) (u10 : Option Value) (u11 : Option Int32) (u12 : Option Value) (u13 : Option Value) (u14 : Option Value) (s0 : Int32) (h : XH) (K : XK) (E : XE) : Prop := Ex d [] tb_L_law (99, [some (.ref r_0), some (.ref r_1), some (.int l2), u3, some (.int l4), some (.int l5), some (.int l6), some (.int l7), u8, u9, u10, (xoi u11), u12, u13, u14], [.int s0]) h (Po K E)
def b_L_law_149 (d : Nat) (r_0 : Nat) (r_1 : Nat) (l2 : Int32) (u3 : Option Value) (l4 : Int32) (l5 : Int32) (l6 : Int32) (l7 : Int32) (l8 : Int32) (l9 : Int32) (l10 : Int32) (u11 : Option Int32) (u12 : Option Value) (u13 : Option Value) (u14 : Option Value) (s0 : Int32) (h : XH) (K : XK) (E : XE) : Prop := Ex d [] tb_L_law (149, [some (.ref r_0), some (.ref r_1), some (.int l2), u3, some (.int l4), some (.int l5), some (.int l6), some (.int l7), some (.int l8), some (.int l9), some (.int l10), (xoi u11), u12, u13, u14], [.int s0]) h (Po K E)
def b_L_law_151 (d : Nat) (r_0 : Nat) (r_1 : Nat) (l2 : Int32) (u3 : Option Value) (l4 : Int32) (l5 : Int32) (l6 : Int32) (l7 : Int32) (l8 : Int32) (l9 : Int32) (l10 : Int32) (l11 : Int32) (u12 : Option Value) (u13 : Option Value) (u14 : Option Value) (h : XH) (K : XK) (E : XE) : Prop := Ex d [] tb_L_law (151, [some (.ref r_0), some (.ref r_1), some (.int l2), u3, some (.int l4), some (.int l5), some (.int l6), some (.int l7), some (.int l8), some (.int l9), some (.int l10), some (.int l11), u12, u13, u14], []) h (Po K E)
def b_L_law_156 (d : Nat) (r_0 : Nat) (r_1 : Nat) (l2 : Int32) (u3 : Option Value) (l4 : Int32) (l5 : Int32) (l6 : Int32) (u7 : Option Value) (l8 : Int32) (u9 : Option Value) (u10 : Option Value) (u11 : Option Int32) (u12 : Option Value) (u13 : Option Value) (u14 : Option Value) (h : XH) (K : XK) (E : XE) : Prop := Ex d [] tb_L_law (156, [some (.ref r_0), some (.ref r_1), some (.int l2), u3, some (.int l4), some (.int l5), some (.int l6), u7, some (.int l8), u9, u10, (xoi u11), u12, u13, u14], []) h (Po K E)
def b_L_law_189 (d : Nat) (r_0 : Nat) (r_1 : Nat) (l2 : Int32) (u3 : Option Value) (l4 : Int32) (l5 : Int32) (u6 : Option Value) (u7 : Option Value) (l8 : Int32) (u9 : Option Value) (u10 : Option Value) (u11 : Option Int32) (u12 : Option Value) (u13 : Option Value) (u14 : Option Value) (h : XH) (K : XK) (E : XE) : Prop := Ex d [] tb_L_law (189, [some (.ref r_0), some (.ref r_1), some (.int l2), u3, some (.int l4), some (.int l5), u6, u7, some (.int l8), u9, u10, (xoi u11), u12, u13, u14], []) h (Po K E)
def b_L_law_190 (d : Nat) (r_0 : Nat) (r_1 : Nat) (l2 : Int32) (u3 : Option Value) (l4 : Int32) (l5 : Int32) (u6 : Option Value) (u7 : Option Value) (l8 : Int32) (u9 : Option Value) (u10 : Option Value) (u11 : Option Int32) (u12 : Option Value) (u13 : Option Value) (u14 : Option Value) (s0 : Int32) (h : XH) (K : XK) (E : XE) : Prop := Ex d [] tb_L_law (190, [some (.ref r_0), some (.ref r_1), some (.int l2), u3, some (.int l4), some (.int l5), u6, u7, some (.int l8), u9, u10, (xoi u11), u12, u13, u14], [.int s0]) h (Po K E)
def b_L_law_194 (d : Nat) (r_0 : Nat) (r_1 : Nat) (l2 : Int32) (u3 : Option Value) (l4 : Int32) (l5 : Int32) (l6 : Int32) (l7 : Int32) (l8 : Int32) (l9 : Int32) (l10 : Int32) (l11 : Int32) (u12 : Option Value) (u13 : Option Value) (u14 : Option Value) (h : XH) (K : XK) (E : XE) : Prop := Ex d [] tb_L_law (194, [some (.ref r_0), some (.ref r_1), some (.int l2), u3, some (.int l4), some (.int l5), some (.int l6), some (.int l7), some (.int l8), some (.int l9), some (.int l10), some (.int l11), u12, u13, u14], []) h (Po K E)
def b_L_law_246 (d : Nat) (r_0 : Nat) (r_1 : Nat) (l2 : Int32) (u3 : Option Value) (l4 : Int32) (l5 : Int32) (u6 : Option Value) (u7 : Option Value) (l8 : Int32) (u9 : Option Value) (u10 : Option Value) (u11 : Option Int32) (u12 : Option Value) (u13 : Option Value) (u14 : Option Value) (h : XH) (K : XK) (E : XE) : Prop := Ex d [] tb_L_law (246, [some (.ref r_0), some (.ref r_1), some (.int l2), u3, some (.int l4), some (.int l5), u6, u7, some (.int l8), u9, u10, (xoi u11), u12, u13, u14], []) h (Po K E)
def b_L_law_247 (d : Nat) (r_0 : Nat) (r_1 : Nat) (l2 : Int32) (u3 : Option Value) (l4 : Int32) (l5 : Int32) (u6 : Option Value) (u7 : Option Value) (l8 : Int32) (u9 : Option Value) (u10 : Option Value) (u11 : Option Int32) (u12 : Option Value) (u13 : Option Value) (u14 : Option Value) (s0 : Int32) (h : XH) (K : XK) (E : XE) : Prop := Ex d [] tb_L_law (247, [some (.ref r_0), some (.ref r_1), some (.int l2), u3, some (.int l4), some (.int l5), u6, u7, some (.int l8), u9, u10, (xoi u11), u12, u13, u14], [.int s0]) h (Po K E)
def b_L_law_251 (d : Nat) (r_0 : Nat) (r_1 : Nat) (l2 : Int32) (u3 : Option Value) (l4 : Int32) (l5 : Int32) (l6 : Int32) (l7 : Int32) (l8 : Int32) (l9 : Int32) (l10 : Int32) (l11 : Int32) (u12 : Option Value) (u13 : Option Value) (u14 : Option Value) (h : XH) (K : XK) (E : XE) : Prop := Ex d [] tb_L_law (251, [some (.ref r_0), some (.ref r_1), some (.int l2), u3, some (.int l4), some (.int l5), some (.int l6), some (.int l7), some (.int l8), some (.int l9), some (.int l10), some (.int l11), u12, u13, u14], []) h (Po K E)
def b_L_law_325 (d : Nat) (r_0 : Nat) (r_1 : Nat) (l2 : Int32) (u3 : Option Value) (l4 : Int32) (l5 : Int32) (u6 : Option Value) (u7 : Option Value) (l8 : Int32) (u9 : Option Value) (u10 : Option Value) (u11 : Option Int32) (u12 : Option Value) (u13 : Option Value) (u14 : Option Value) (h : XH) (K : XK) (E : XE) : Prop := Ex d [] tb_L_law (325, [some (.ref r_0), some (.ref r_1), some (.int l2), u3, some (.int l4), some (.int l5), u6, u7, some (.int l8), u9, u10, (xoi u11), u12, u13, u14], []) h (Po K E)
def b_L_law_326 (d : Nat) (r_0 : Nat) (r_1 : Nat) (l2 : Int32) (u3 : Option Value) (l4 : Int32) (l5 : Int32) (u6 : Option Value) (u7 : Option Value) (l8 : Int32) (u9 : Option Value) (u10 : Option Value) (u11 : Option Int32) (u12 : Option Value) (u13 : Option Value) (u14 : Option Value) (s0 : Int32) (h : XH) (K : XK) (E : XE) : Prop := Ex d [] tb_L_law (326, [some (.ref r_0), some (.ref r_1), some (.int l2), u3, some (.int l4), some (.int l5), u6, u7, some (.int l8), u9, u10, (xoi u11), u12, u13, u14], [.int s0]) h (Po K E)
def b_L_law_330 (d : Nat) (r_0 : Nat) (r_1 : Nat) (l2 : Int32) (u3 : Option Value) (l4 : Int32) (l5 : Int32) (l6 : Int32) (l7 : Int32) (l8 : Int32) (l9 : Int32) (l10 : Int32) (u11 : Option Int32) (u12 : Option Value) (u13 : Option Value) (u14 : Option Value) (h : XH) (K : XK) (E : XE) : Prop := Ex d [] tb_L_law (330, [some (.ref r_0), some (.ref r_1), some (.int l2), u3, some (.int l4), some (.int l5), some (.int l6), some (.int l7), some (.int l8), some (.int l9), some (.int l10), (xoi u11), u12, u13, u14], []) h (Po K E)
def b_L_law_390 (d : Nat) (r_0 : Nat) (r_1 : Nat) (l2 : Int32) (u3 : Option Value) (l4 : Int32) (l5 : Int32) (u6 : Option Value) (u7 : Option Value) (l8 : Int32) (u9 : Option Value) (u10 : Option Value) (u11 : Option Int32) (u12 : Option Value) (u13 : Option Value) (u14 : Option Value) (h : XH) (K : XK) (E : XE) : Prop := Ex d [] tb_L_law (390, [some (.ref r_0), some (.ref r_1), some (.int l2), u3, some (.int l4), some (.int l5), u6, u7, some (.int l8), u9, u10, (xoi u11), u12, u13, u14], []) h (Po K E)
def b_L_law_407 (d : Nat) (r_0 : Nat) (r_1 : Nat) (l2 : Int32) (u3 : Option Value) (l4 : Int32) (l5 : Int32) (u6 : Option Value) (u7 : Option Value) (l8 : Int32) (u9 : Option Value) (u10 : Option Value) (u11 : Option Int32) (u12 : Option Value) (u13 : Option Value) (u14 : Option Value) (s0 : Int32) (h : XH) (K : XK) (E : XE) : Prop := Ex d [] tb_L_law (407, [some (.ref r_0), some (.ref r_1), some (.int l2), u3, some (.int l4), some (.int l5), u6, u7, some (.int l8), u9, u10, (xoi u11), u12, u13, u14], [.int s0]) h (Po K E)
def b_L_law_411 (d : Nat) (r_0 : Nat) (r_1 : Nat) (l2 : Int32) (u3 : Option Value) (l4 : Int32) (l5 : Int32) (l6 : Int32) (l7 : Int32) (l8 : Int32) (l9 : Int32) (l10 : Int32) (u11 : Option Int32) (u12 : Option Value) (u13 : Option Value) (u14 : Option Value) (h : XH) (K : XK) (E : XE) : Prop := Ex d [] tb_L_law (411, [some (.ref r_0), some (.ref r_1), some (.int l2), u3, some (.int l4), some (.int l5), some (.int l6), some (.int l7), some (.int l8), some (.int l9), some (.int l10), (xoi u11), u12, u13, u14], []) h (Po K E)
def b_L_law_446 (d : Nat) (r_0 : Nat) (r_1 : Nat) (l2 : Int32) (u3 : Option Value) (l4 : Int32) (l5 : Int32) (u6 : Option Value) (l7 : Int32) (l8 : Int32) (l9 : Int32) (l10 : Int32) (u11 : Option Int32) (u12 : Option Value) (u13 : Option Value) (u14 : Option Value) (h : XH) (K : XK) (E : XE) : Prop := Ex d [] tb_L_law (446, [some (.ref r_0), some (.ref r_1), some (.int l2), u3, some (.int l4), some (.int l5), u6, some (.int l7), some (.int l8), some (.int l9), some (.int l10), (xoi u11), u12, u13, u14], []) h (Po K E)
def b_L_law_447 (d : Nat) (r_0 : Nat) (r_1 : Nat) (l2 : Int32) (u3 : Option Value) (l4 : Int32) (l5 : Int32) (u6 : Option Value) (l7 : Int32) (l8 : Int32) (l9 : Int32) (l10 : Int32) (u11 : Option Int32) (u12 : Option Value) (u13 : Option Value) (u14 : Option Value) (s0 : Int32) (h : XH) (K : XK) (E : XE) : Prop := Ex d [] tb_L_law (447, [some (.ref r_0), some (.ref r_1), some (.int l2), u3, some (.int l4), some (.int l5), u6, some (.int l7), some (.int l8), some (.int l9), some (.int l10), (xoi u11), u12, u13, u14], [.int s0]) h (Po K E)
def b_L_law_484 (d : Nat) (r_0 : Nat) (r_1 : Nat) (l2 : Int32) (u3 : Option Value) (l4 : Int32) (l5 : Int32) (u6 : Option Value) (u7 : Option Value) (l8 : Int32) (l9 : Int32) (l10 : Int32) (u11 : Option Int32) (l12 : Int32) (l13 : Int32) (u14 : Option Value) (s0 : Int32) (r_16 : Nat) (h : XH) (K : XK) (E : XE) : Prop := Ex d [] tb_L_law (484, [some (.ref r_0), some (.ref r_1), some (.int l2), u3, some (.int l4), some (.int l5), u6, u7, some (.int l8), some (.int l9), some (.int l10), (xoi u11), some (.int l12), some (.int l13), u14], [.int s0, .ref r_16]) h (Po K E)
def b_L_law_526 (d : Nat) (r_0 : Nat) (r_1 : Nat) (l2 : Int32) (u3 : Option Value) (l4 : Int32) (l5 : Int32) (u6 : Option Value) (u7 : Option Value) (l8 : Int32) (u9 : Option Value) (u10 : Option Value) (u11 : Option Int32) (u12 : Option Value) (u13 : Option Value) (u14 : Option Value) (h : XH) (K : XK) (E : XE) : Prop := Ex d [] tb_L_law (526, [some (.ref r_0), some (.ref r_1), some (.int l2), u3, some (.int l4), some (.int l5), u6, u7, some (.int l8), u9, u10, (xoi u11), u12, u13, u14], []) h (Po K E)
def b_L_law_530 (d : Nat) (r_0 : Nat) (r_1 : Nat) (l2 : Int32) (u3 : Option Value) (l4 : Int32) (l5 : Int32) (u6 : Option Value) (u7 : Option Value) (l8 : Int32) (u9 : Option Value) (u10 : Option Value) (u11 : Option Int32) (u12 : Option Value) (u13 : Option Value) (u14 : Option Value) (h : XH) (K : XK) (E : XE) : Prop := Ex d [] tb_L_law (530, [some (.ref r_0), some (.ref r_1), some (.int l2), u3, some (.int l4), some (.int l5), u6, u7, some (.int l8), u9, u10, (xoi u11), u12, u13, u14], []) h (Po K E)
def b_L_law_531 (d : Nat) (r_0 : Nat) (r_1 : Nat) (l2 : Int32) (u3 : Option Value) (l4 : Int32) (l5 : Int32) (u6 : Option Value) (u7 : Option Value) (l8 : Int32) (u9 : Option Value) (u10 : Option Value) (u11 : Option Int32) (u12 : Option Value) (u13 : Option Value) (u14 : Option Value) (s0 : Int32) (h : XH) (K : XK) (E : XE) : Prop := Ex d [] tb_L_law (531, [some (.ref r_0), some (.ref r_1), some (.int l2), u3, some (.int l4), some (.int l5), u6, u7, some (.int l8), u9, u10, (xoi u11), u12, u13, u14], [.int s0]) h (Po K E)
def b_L_law_535 (d : Nat) (r_0 : Nat) (r_1 : Nat) (l2 : Int32) (u3 : Option Value) (l4 : Int32) (l5 : Int32) (l6 : Int32) (l7 : Int32) (l8 : Int32) (l9 : Int32) (l10 : Int32) (u11 : Option Int32) (u12 : Option Value) (u13 : Option Value) (u14 : Option Value) (h : XH) (K : XK) (E : XE) : Prop := Ex d [] tb_L_law (535, [some (.ref r_0), some (.ref r_1), some (.int l2), u3, some (.int l4), some (.int l5), some (.int l6), some (.int l7), some (.int l8), some (.int l9), some (.int l10), (xoi u11), u12, u13, u14], []) h (Po K E)
def b_L_law_582 (d : Nat) (r_0 : Nat) (r_1 : Nat) (l2 : Int32) (u3 : Option Value) (l4 : Int32) (l5 : Int32) (u6 : Option Value) (l7 : Int32) (l8 : Int32) (l9 : Int32) (l10 : Int32) (u11 : Option Int32) (l12 : Int32) (u13 : Option Value) (u14 : Option Value) (h : XH) (K : XK) (E : XE) : Prop := Ex d [] tb_L_law (582, [some (.ref r_0), some (.ref r_1), some (.int l2), u3, some (.int l4), some (.int l5), u6, some (.int l7), some (.int l8), some (.int l9), some (.int l10), (xoi u11), some (.int l12), u13, u14], []) h (Po K E)
def b_L_law_586 (d : Nat) (r_0 : Nat) (r_1 : Nat) (l2 : Int32) (u3 : Option Value) (l4 : Int32) (l5 : Int32) (u6 : Option Value) (l7 : Int32) (l8 : Int32) (l9 : Int32) (l10 : Int32) (u11 : Option Int32) (l12 : Int32) (u13 : Option Value) (u14 : Option Value) (h : XH) (K : XK) (E : XE) : Prop := Ex d [] tb_L_law (586, [some (.ref r_0), some (.ref r_1), some (.int l2), u3, some (.int l4), some (.int l5), u6, some (.int l7), some (.int l8), some (.int l9), some (.int l10), (xoi u11), some (.int l12), u13, u14], []) h (Po K E)
def b_L_law_587 (d : Nat) (r_0 : Nat) (r_1 : Nat) (l2 : Int32) (u3 : Option Value) (l4 : Int32) (l5 : Int32) (u6 : Option Value) (l7 : Int32) (l8 : Int32) (l9 : Int32) (l10 : Int32) (u11 : Option Int32) (l12 : Int32) (u13 : Option Value) (u14 : Option Value) (s0 : Int32) (h : XH) (K : XK) (E : XE) : Prop := Ex d [] tb_L_law (587, [some (.ref r_0), some (.ref r_1), some (.int l2), u3, some (.int l4), some (.int l5), u6, some (.int l7), some (.int l8), some (.int l9), some (.int l10), (xoi u11), some (.int l12), u13, u14], [.int s0]) h (Po K E)
def b_L_law_646 (d : Nat) (r_0 : Nat) (r_1 : Nat) (l2 : Int32) (u3 : Option Value) (l4 : Int32) (l5 : Int32) (u6 : Option Value) (u7 : Option Value) (l8 : Int32) (u9 : Option Value) (u10 : Option Value) (u11 : Option Int32) (u12 : Option Value) (u13 : Option Value) (u14 : Option Value) (h : XH) (K : XK) (E : XE) : Prop := Ex d [] tb_L_law (646, [some (.ref r_0), some (.ref r_1), some (.int l2), u3, some (.int l4), some (.int l5), u6, u7, some (.int l8), u9, u10, (xoi u11), u12, u13, u14], []) h (Po K E)
def b_L_law_650 (d : Nat) (r_0 : Nat) (r_1 : Nat) (l2 : Int32) (u3 : Option Value) (l4 : Int32) (l5 : Int32) (u6 : Option Value) (u7 : Option Value) (l8 : Int32) (u9 : Option Value) (u10 : Option Value) (u11 : Option Int32) (u12 : Option Value) (u13 : Option Value) (u14 : Option Value) (h : XH) (K : XK) (E : XE) : Prop := Ex d [] tb_L_law (650, [some (.ref r_0), some (.ref r_1), some (.int l2), u3, some (.int l4), some (.int l5), u6, u7, some (.int l8), u9, u10, (xoi u11), u12, u13, u14], []) h (Po K E)
def b_L_law_651 (d : Nat) (r_0 : Nat) (r_1 : Nat) (l2 : Int32) (u3 : Option Value) (l4 : Int32) (l5 : Int32) (u6 : Option Value) (u7 : Option Value) (l8 : Int32) (u9 : Option Value) (u10 : Option Value) (u11 : Option Int32) (u12 : Option Value) (u13 : Option Value) (u14 : Option Value) (s0 : Int32) (h : XH) (K : XK) (E : XE) : Prop := Ex d [] tb_L_law (651, [some (.ref r_0), some (.ref r_1), some (.int l2), u3, some (.int l4), some (.int l5), u6, u7, some (.int l8), u9, u10, (xoi u11), u12, u13, u14], [.int s0]) h (Po K E)
def b_L_law_655 (d : Nat) (r_0 : Nat) (r_1 : Nat) (l2 : Int32) (u3 : Option Value) (l4 : Int32) (l5 : Int32) (l6 : Int32) (l7 : Int32) (l8 : Int32) (l9 : Int32) (l10 : Int32) (u11 : Option Int32) (u12 : Option Value) (u13 : Option Value) (u14 : Option Value) (h : XH) (K : XK) (E : XE) : Prop := Ex d [] tb_L_law (655, [some (.ref r_0), some (.ref r_1), some (.int l2), u3, some (.int l4), some (.int l5), some (.int l6), some (.int l7), some (.int l8), some (.int l9), some (.int l10), (xoi u11), u12, u13, u14], []) h (Po K E)
def b_L_law_698 (d : Nat) (r_0 : Nat) (r_1 : Nat) (l2 : Int32) (u3 : Option Value) (l4 : Int32) (l5 : Int32) (u6 : Option Value) (u7 : Option Value) (l8 : Int32) (u9 : Option Value) (u10 : Option Value) (u11 : Option Int32) (u12 : Option Value) (u13 : Option Value) (u14 : Option Value) (h : XH) (K : XK) (E : XE) : Prop := Ex d [] tb_L_law (698, [some (.ref r_0), some (.ref r_1), some (.int l2), u3, some (.int l4), some (.int l5), u6, u7, some (.int l8), u9, u10, (xoi u11), u12, u13, u14], []) h (Po K E)
def b_L_law_702 (d : Nat) (r_0 : Nat) (r_1 : Nat) (l2 : Int32) (u3 : Option Value) (l4 : Int32) (l5 : Int32) (u6 : Option Value) (u7 : Option Value) (l8 : Int32) (u9 : Option Value) (u10 : Option Value) (u11 : Option Int32) (u12 : Option Value) (u13 : Option Value) (u14 : Option Value) (h : XH) (K : XK) (E : XE) : Prop := Ex d [] tb_L_law (702, [some (.ref r_0), some (.ref r_1), some (.int l2), u3, some (.int l4), some (.int l5), u6, u7, some (.int l8), u9, u10, (xoi u11), u12, u13, u14], []) h (Po K E)
def b_L_law_703 (d : Nat) (r_0 : Nat) (r_1 : Nat) (l2 : Int32) (u3 : Option Value) (l4 : Int32) (l5 : Int32) (u6 : Option Value) (u7 : Option Value) (l8 : Int32) (u9 : Option Value) (u10 : Option Value) (u11 : Option Int32) (u12 : Option Value) (u13 : Option Value) (u14 : Option Value) (s0 : Int32) (h : XH) (K : XK) (E : XE) : Prop := Ex d [] tb_L_law (703, [some (.ref r_0), some (.ref r_1), some (.int l2), u3, some (.int l4), some (.int l5), u6, u7, some (.int l8), u9, u10, (xoi u11), u12, u13, u14], [.int s0]) h (Po K E)
def b_L_law_707 (d : Nat) (r_0 : Nat) (r_1 : Nat) (l2 : Int32) (u3 : Option Value) (l4 : Int32) (l5 : Int32) (l6 : Int32) (l7 : Int32) (l8 : Int32) (l9 : Int32) (l10 : Int32) (u11 : Option Int32) (u12 : Option Value) (u13 : Option Value) (u14 : Option Value) (h : XH) (K : XK) (E : XE) : Prop := Ex d [] tb_L_law (707, [some (.ref r_0), some (.ref r_1), some (.int l2), u3, some (.int l4), some (.int l5), some (.int l6), some (.int l7), some (.int l8), some (.int l9), some (.int l10), (xoi u11), u12, u13, u14], []) h (Po K E)
def b_L_law_779 (d : Nat) (r_0 : Nat) (r_1 : Nat) (l2 : Int32) (u3 : Option Value) (l4 : Int32) (l5 : Int32) (l6 : Int32) (u7 : Option Value) (l8 : Int32) (l9 : Int32) (u10 : Option Value) (u11 : Option Int32) (l12 : Int32) (u13 : Option Value) (u14 : Option Value) (h : XH) (K : XK) (E : XE) : Prop := Ex d [] tb_L_law (779, [some (.ref r_0), some (.ref r_1), some (.int l2), u3, some (.int l4), some (.int l5), some (.int l6), u7, some (.int l8), some (.int l9), u10, (xoi u11), some (.int l12), u13, u14], []) h (Po K E)
def b_L_law_783 (d : Nat) (r_0 : Nat) (r_1 : Nat) (l2 : Int32) (u3 : Option Value) (l4 : Int32) (l5 : Int32) (l6 : Int32) (u7 : Option Value) (l8 : Int32) (l9 : Int32) (u10 : Option Value) (u11 : Option Int32) (l12 : Int32) (u13 : Option Value) (u14 : Option Value) (h : XH) (K : XK) (E : XE) : Prop := Ex d [] tb_L_law (783, [some (.ref r_0), some (.ref r_1), some (.int l2), u3, some (.int l4), some (.int l5), some (.int l6), u7, some (.int l8), some (.int l9), u10, (xoi u11), some (.int l12), u13, u14], []) h (Po K E)
def b_L_law_784 (d : Nat) (r_0 : Nat) (r_1 : Nat) (l2 : Int32) (u3 : Option Value) (l4 : Int32) (l5 : Int32) (l6 : Int32) (u7 : Option Value) (l8 : Int32) (l9 : Int32) (u10 : Option Value) (u11 : Option Int32) (l12 : Int32) (u13 : Option Value) (u14 : Option Value) (s0 : Int32) (h : XH) (K : XK) (E : XE) : Prop := Ex d [] tb_L_law (784, [some (.ref r_0), some (.ref r_1), some (.int l2), u3, some (.int l4), some (.int l5), some (.int l6), u7, some (.int l8), some (.int l9), u10, (xoi u11), some (.int l12), u13, u14], [.int s0]) h (Po K E)
def b_L_law_831 (d : Nat) (r_0 : Nat) (r_1 : Nat) (l2 : Int32) (u3 : Option Value) (l4 : Int32) (l5 : Int32) (u6 : Option Value) (u7 : Option Value) (l8 : Int32) (u9 : Option Value) (u10 : Option Value) (u11 : Option Int32) (u12 : Option Value) (u13 : Option Value) (u14 : Option Value) (h : XH) (K : XK) (E : XE) : Prop := Ex d [] tb_L_law (831, [some (.ref r_0), some (.ref r_1), some (.int l2), u3, some (.int l4), some (.int l5), u6, u7, some (.int l8), u9, u10, (xoi u11), u12, u13, u14], []) h (Po K E)
def b_L_law_835 (d : Nat) (r_0 : Nat) (r_1 : Nat) (l2 : Int32) (u3 : Option Value) (l4 : Int32) (l5 : Int32) (u6 : Option Value) (u7 : Option Value) (l8 : Int32) (u9 : Option Value) (u10 : Option Value) (u11 : Option Int32) (u12 : Option Value) (u13 : Option Value) (u14 : Option Value) (h : XH) (K : XK) (E : XE) : Prop := Ex d [] tb_L_law (835, [some (.ref r_0), some (.ref r_1), some (.int l2), u3, some (.int l4), some (.int l5), u6, u7, some (.int l8), u9, u10, (xoi u11), u12, u13, u14], []) h (Po K E)
def b_L_law_836 (d : Nat) (r_0 : Nat) (r_1 : Nat) (l2 : Int32) (u3 : Option Value) (l4 : Int32) (l5 : Int32) (u6 : Option Value) (u7 : Option Value) (l8 : Int32) (u9 : Option Value) (u10 : Option Value) (u11 : Option Int32) (u12 : Option Value) (u13 : Option Value) (u14 : Option Value) (s0 : Int32) (h : XH) (K : XK) (E : XE) : Prop := Ex d [] tb_L_law (836, [some (.ref r_0), some (.ref r_1), some (.int l2), u3, some (.int l4), some (.int l5), u6, u7, some (.int l8), u9, u10, (xoi u11), u12, u13, u14], [.int s0]) h (Po K E)
def b_L_law_840 (d : Nat) (r_0 : Nat) (r_1 : Nat) (l2 : Int32) (u3 : Option Value) (l4 : Int32) (l5 : Int32) (l6 : Int32) (l7 : Int32) (l8 : Int32) (l9 : Int32) (l10 : Int32) (u11 : Option Int32) (u12 : Option Value) (u13 : Option Value) (u14 : Option Value) (h : XH) (K : XK) (E : XE) : Prop := Ex d [] tb_L_law (840, [some (.ref r_0), some (.ref r_1), some (.int l2), u3, some (.int l4), some (.int l5), some (.int l6), some (.int l7), some (.int l8), some (.int l9), some (.int l10), (xoi u11), u12, u13, u14], []) h (Po K E)
def b_L_law_853 (d : Nat) (r_0 : Nat) (r_1 : Nat) (l2 : Int32) (u3 : Option Value) (l4 : Int32) (l5 : Int32) (l6 : Int32) (u7 : Option Value) (l8 : Int32) (l9 : Int32) (u10 : Option Value) (u11 : Option Int32) (u12 : Option Value) (u13 : Option Value) (u14 : Option Value) (h : XH) (K : XK) (E : XE) : Prop := Ex d [] tb_L_law (853, [some (.ref r_0), some (.ref r_1), some (.int l2), u3, some (.int l4), some (.int l5), some (.int l6), u7, some (.int l8), some (.int l9), u10, (xoi u11), u12, u13, u14], []) h (Po K E)
def b_L_law_912 (d : Nat) (r_0 : Nat) (r_1 : Nat) (l2 : Int32) (u3 : Option Value) (l4 : Int32) (l5 : Int32) (l6 : Int32) (u7 : Option Value) (l8 : Int32) (l9 : Int32) (u10 : Option Value) (u11 : Option Int32) (l12 : Int32) (u13 : Option Value) (u14 : Option Value) (h : XH) (K : XK) (E : XE) : Prop := Ex d [] tb_L_law (912, [some (.ref r_0), some (.ref r_1), some (.int l2), u3, some (.int l4), some (.int l5), some (.int l6), u7, some (.int l8), some (.int l9), u10, (xoi u11), some (.int l12), u13, u14], []) h (Po K E)
def b_L_law_967 (d : Nat) (r_0 : Nat) (r_1 : Nat) (l2 : Int32) (u3 : Option Value) (l4 : Int32) (l5 : Int32) (u6 : Option Value) (u7 : Option Value) (l8 : Int32) (u9 : Option Value) (u10 : Option Value) (u11 : Option Int32) (u12 : Option Value) (u13 : Option Value) (u14 : Option Value) (h : XH) (K : XK) (E : XE) : Prop := Ex d [] tb_L_law (967, [some (.ref r_0), some (.ref r_1), some (.int l2), u3, some (.int l4), some (.int l5), u6, u7, some (.int l8), u9, u10, (xoi u11), u12, u13, u14], []) h (Po K E)
def b_L_law_971 (d : Nat) (r_0 : Nat) (r_1 : Nat) (l2 : Int32) (u3 : Option Value) (l4 : Int32) (l5 : Int32) (u6 : Option Value) (u7 : Option Value) (l8 : Int32) (u9 : Option Value) (u10 : Option Value) (u11 : Option Int32) (u12 : Option Value) (u13 : Option Value) (u14 : Option Value) (h : XH) (K : XK) (E : XE) : Prop := Ex d [] tb_L_law (971, [some (.ref r_0), some (.ref r_1), some (.int l2), u3, some (.int l4), some (.int l5), u6, u7, some (.int l8), u9, u10, (xoi u11), u12, u13, u14], []) h (Po K E)
def b_L_law_972 (d : Nat) (r_0 : Nat) (r_1 : Nat) (l2 : Int32) (u3 : Option Value) (l4 : Int32) (l5 : Int32) (u6 : Option Value) (u7 : Option Value) (l8 : Int32) (u9 : Option Value) (u10 : Option Value) (u11 : Option Int32) (u12 : Option Value) (u13 : Option Value) (u14 : Option Value) (s0 : Int32) (h : XH) (K : XK) (E : XE) : Prop := Ex d [] tb_L_law (972, [some (.ref r_0), some (.ref r_1), some (.int l2), u3, some (.int l4), some (.int l5), u6, u7, some (.int l8), u9, u10, (xoi u11), u12, u13, u14], [.int s0]) h (Po K E)
def b_L_law_976 (d : Nat) (r_0 : Nat) (r_1 : Nat) (l2 : Int32) (u3 : Option Value) (l4 : Int32) (l5 : Int32) (u6 : Option Value) (l7 : Int32) (l8 : Int32) (l9 : Int32) (l10 : Int32) (u11 : Option Int32) (u12 : Option Value) (u13 : Option Value) (u14 : Option Value) (h : XH) (K : XK) (E : XE) : Prop := Ex d [] tb_L_law (976, [some (.ref r_0), some (.ref r_1), some (.int l2), u3, some (.int l4), some (.int l5), u6, some (.int l7), some (.int l8), some (.int l9), some (.int l10), (xoi u11), u12, u13, u14], []) h (Po K E)
def b_L_law_1055 (d : Nat) (r_0 : Nat) (r_1 : Nat) (l2 : Int32) (u3 : Option Value) (l4 : Int32) (l5 : Int32) (u6 : Option Value) (u7 : Option Value) (l8 : Int32) (l9 : Int32) (l10 : Int32) (u11 : Option Int32) (l12 : Int32) (u13 : Option Value) (u14 : Option Value) (h : XH) (K : XK) (E : XE) : Prop := Ex d [] tb_L_law (1055, [some (.ref r_0), some (.ref r_1), some (.int l2), u3, some (.int l4), some (.int l5), u6, u7, some (.int l8), some (.int l9), some (.int l10), (xoi u11), some (.int l12), u13, u14], []) h (Po K E)
def b_L_law_1059 (d : Nat) (r_0 : Nat) (r_1 : Nat) (l2 : Int32) (u3 : Option Value) (l4 : Int32) (l5 : Int32) (u6 : Option Value) (u7 : Option Value) (l8 : Int32) (l9 : Int32) (l10 : Int32) (u11 : Option Int32) (l12 : Int32) (u13 : Option Value) (u14 : Option Value) (h : XH) (K : XK) (E : XE) : Prop := Ex d [] tb_L_law (1059, [some (.ref r_0), some (.ref r_1), some (.int l2), u3, some (.int l4), some (.int l5), u6, u7, some (.int l8), some (.int l9), some (.int l10), (xoi u11), some (.int l12), u13, u14], []) h (Po K E)
def b_L_law_1060 (d : Nat) (r_0 : Nat) (r_1 : Nat) (l2 : Int32) (u3 : Option Value) (l4 : Int32) (l5 : Int32) (u6 : Option Value) (u7 : Option Value) (l8 : Int32) (l9 : Int32) (l10 : Int32) (u11 : Option Int32) (l12 : Int32) (u13 : Option Value) (u14 : Option Value) (s0 : Int32) (h : XH) (K : XK) (E : XE) : Prop := Ex d [] tb_L_law (1060, [some (.ref r_0), some (.ref r_1), some (.int l2), u3, some (.int l4), some (.int l5), u6, u7, some (.int l8), some (.int l9), some (.int l10), (xoi u11), some (.int l12), u13, u14], [.int s0]) h (Po K E)
def b_L_law_1107 (d : Nat) (r_0 : Nat) (r_1 : Nat) (l2 : Int32) (u3 : Option Value) (l4 : Int32) (l5 : Int32) (u6 : Option Value) (u7 : Option Value) (l8 : Int32) (l9 : Int32) (l10 : Int32) (u11 : Option Int32) (l12 : Int32) (u13 : Option Value) (u14 : Option Value) (h : XH) (K : XK) (E : XE) : Prop := Ex d [] tb_L_law (1107, [some (.ref r_0), some (.ref r_1), some (.int l2), u3, some (.int l4), some (.int l5), u6, u7, some (.int l8), some (.int l9), some (.int l10), (xoi u11), some (.int l12), u13, u14], []) h (Po K E)
def b_L_law_1111 (d : Nat) (r_0 : Nat) (r_1 : Nat) (l2 : Int32) (u3 : Option Value) (l4 : Int32) (l5 : Int32) (u6 : Option Value) (u7 : Option Value) (l8 : Int32) (l9 : Int32) (l10 : Int32) (u11 : Option Int32) (l12 : Int32) (u13 : Option Value) (u14 : Option Value) (h : XH) (K : XK) (E : XE) : Prop := Ex d [] tb_L_law (1111, [some (.ref r_0), some (.ref r_1), some (.int l2), u3, some (.int l4), some (.int l5), u6, u7, some (.int l8), some (.int l9), some (.int l10), (xoi u11), some (.int l12), u13, u14], []) h (Po K E)
def b_L_law_1112 (d : Nat) (r_0 : Nat) (r_1 : Nat) (l2 : Int32) (u3 : Option Value) (l4 : Int32) (l5 : Int32) (u6 : Option Value) (u7 : Option Value) (l8 : Int32) (l9 : Int32) (l10 : Int32) (u11 : Option Int32) (l12 : Int32) (u13 : Option Value) (u14 : Option Value) (s0 : Int32) (h : XH) (K : XK) (E : XE) : Prop := Ex d [] tb_L_law (1112, [some (.ref r_0), some (.ref r_1), some (.int l2), u3, some (.int l4), some (.int l5), u6, u7, some (.int l8), some (.int l9), some (.int l10), (xoi u11), some (.int l12), u13, u14], [.int s0]) h (Po K E)
def b_L_law_1157 (d : Nat) (r_0 : Nat) (r_1 : Nat) (l2 : Int32) (u3 : Option Value) (l4 : Int32) (l5 : Int32) (u6 : Option Value) (u7 : Option Value) (l8 : Int32) (u9 : Option Value) (u10 : Option Value) (u11 : Option Int32) (u12 : Option Value) (u13 : Option Value) (u14 : Option Value) (h : XH) (K : XK) (E : XE) : Prop := Ex d [] tb_L_law (1157, [some (.ref r_0), some (.ref r_1), some (.int l2), u3, some (.int l4), some (.int l5), u6, u7, some (.int l8), u9, u10, (xoi u11), u12, u13, u14], []) h (Po K E)
def b_L_law_1161 (d : Nat) (r_0 : Nat) (r_1 : Nat) (l2 : Int32) (u3 : Option Value) (l4 : Int32) (l5 : Int32) (u6 : Option Value) (u7 : Option Value) (l8 : Int32) (u9 : Option Value) (u10 : Option Value) (u11 : Option Int32) (u12 : Option Value) (u13 : Option Value) (u14 : Option Value) (h : XH) (K : XK) (E : XE) : Prop := Ex d [] tb_L_law (1161, [some (.ref r_0), some (.ref r_1), some (.int l2), u3, some (.int l4), some (.int l5), u6, u7, some (.int l8), u9, u10, (xoi u11), u12, u13, u14], []) h (Po K E)
def b_L_law_1162 (d : Nat) (r_0 : Nat) (r_1 : Nat) (l2 : Int32) (u3 : Option Value) (l4 : Int32) (l5 : Int32) (u6 : Option Value) (u7 : Option Value) (l8 : Int32) (u9 : Option Value) (u10 : Option Value) (u11 : Option Int32) (u12 : Option Value) (u13 : Option Value) (u14 : Option Value) (s0 : Int32) (h : XH) (K : XK) (E : XE) : Prop := Ex d [] tb_L_law (1162, [some (.ref r_0), some (.ref r_1), some (.int l2), u3, some (.int l4), some (.int l5), u6, u7, some (.int l8), u9, u10, (xoi u11), u12, u13, u14], [.int s0]) h (Po K E)
def b_L_law_1166 (d : Nat) (r_0 : Nat) (r_1 : Nat) (l2 : Int32) (u3 : Option Value) (l4 : Int32) (l5 : Int32) (u6 : Option Value) (u7 : Option Value) (l8 : Int32) (l9 : Int32) (l10 : Int32) (u11 : Option Int32) (u12 : Option Value) (u13 : Option Value) (u14 : Option Value) (h : XH) (K : XK) (E : XE) : Prop := Ex d [] tb_L_law (1166, [some (.ref r_0), some (.ref r_1), some (.int l2), u3, some (.int l4), some (.int l5), u6, u7, some (.int l8), some (.int l9), some (.int l10), (xoi u11), u12, u13, u14], []) h (Po K E)
def b_L_law_1211 (d : Nat) (r_0 : Nat) (r_1 : Nat) (l2 : Int32) (u3 : Option Value) (l4 : Int32) (l5 : Int32) (u6 : Option Value) (u7 : Option Value) (l8 : Int32) (u9 : Option Value) (u10 : Option Value) (u11 : Option Int32) (u12 : Option Value) (u13 : Option Value) (u14 : Option Value) (h : XH) (K : XK) (E : XE) : Prop := Ex d [] tb_L_law (1211, [some (.ref r_0), some (.ref r_1), some (.int l2), u3, some (.int l4), some (.int l5), u6, u7, some (.int l8), u9, u10, (xoi u11), u12, u13, u14], []) h (Po K E)
def b_L_law_1260 (d : Nat) (r_0 : Nat) (r_1 : Nat) (l2 : Int32) (u3 : Option Value) (l4 : Int32) (l5 : Int32) (u6 : Option Value) (u7 : Option Value) (l8 : Int32) (u9 : Option Value) (u10 : Option Value) (u11 : Option Int32) (u12 : Option Value) (u13 : Option Value) (u14 : Option Value) (h : XH) (K : XK) (E : XE) : Prop := Ex d [] tb_L_law (1260, [some (.ref r_0), some (.ref r_1), some (.int l2), u3, some (.int l4), some (.int l5), u6, u7, some (.int l8), u9, u10, (xoi u11), u12, u13, u14], []) h (Po K E)
def b_L_law_1264 (d : Nat) (r_0 : Nat) (r_1 : Nat) (l2 : Int32) (u3 : Option Value) (l4 : Int32) (l5 : Int32) (u6 : Option Value) (u7 : Option Value) (l8 : Int32) (u9 : Option Value) (u10 : Option Value) (u11 : Option Int32) (u12 : Option Value) (u13 : Option Value) (u14 : Option Value) (h : XH) (K : XK) (E : XE) : Prop := Ex d [] tb_L_law (1264, [some (.ref r_0), some (.ref r_1), some (.int l2), u3, some (.int l4), some (.int l5), u6, u7, some (.int l8), u9, u10, (xoi u11), u12, u13, u14], []) h (Po K E)
def b_L_law_1265 (d : Nat) (r_0 : Nat) (r_1 : Nat) (l2 : Int32) (u3 : Option Value) (l4 : Int32) (l5 : Int32) (u6 : Option Value) (u7 : Option Value) (l8 : Int32) (u9 : Option Value) (u10 : Option Value) (u11 : Option Int32) (u12 : Option Value) (u13 : Option Value) (u14 : Option Value) (s0 : Int32) (h : XH) (K : XK) (E : XE) : Prop := Ex d [] tb_L_law (1265, [some (.ref r_0), some (.ref r_1), some (.int l2), u3, some (.int l4), some (.int l5), u6, u7, some (.int l8), u9, u10, (xoi u11), u12, u13, u14], [.int s0]) h (Po K E)
def b_L_law_1266 (d : Nat) (r_0 : Nat) (r_1 : Nat) (l2 : Int32) (l3 : Int32) (l4 : Int32) (l5 : Int32) (u6 : Option Value) (u7 : Option Value) (l8 : Int32) (u9 : Option Value) (u10 : Option Value) (u11 : Option Int32) (u12 : Option Value) (u13 : Option Value) (u14 : Option Value) (h : XH) (K : XK) (E : XE) : Prop := Ex d [] tb_L_law (1266, [some (.ref r_0), some (.ref r_1), some (.int l2), some (.int l3), some (.int l4), some (.int l5), u6, u7, some (.int l8), u9, u10, (xoi u11), u12, u13, u14], []) h (Po K E)
def b_L_law_1270 (d : Nat) (r_0 : Nat) (r_1 : Nat) (l2 : Int32) (u3 : Option Value) (l4 : Int32) (l5 : Int32) (u6 : Option Value) (u7 : Option Value) (l8 : Int32) (u9 : Option Value) (u10 : Option Value) (u11 : Option Int32) (u12 : Option Value) (u13 : Option Value) (u14 : Option Value) (h : XH) (K : XK) (E : XE) : Prop := Ex d [] tb_L_law (1270, [some (.ref r_0), some (.ref r_1), some (.int l2), u3, some (.int l4), some (.int l5), u6, u7, some (.int l8), u9, u10, (xoi u11), u12, u13, u14], []) h (Po K E)
def b_L_law_1283 (d : Nat) (r_0 : Nat) (r_1 : Nat) (l2 : Int32) (u3 : Option Value) (l4 : Int32) (l5 : Int32) (u6 : Option Value) (u7 : Option Value) (u8 : Option Value) (u9 : Option Value) (u10 : Option Value) (u11 : Option Int32) (u12 : Option Value) (u13 : Option Value) (u14 : Option Value) (h : XH) (K : XK) (E : XE) : Prop := Ex d [] tb_L_law (1283, [some (.ref r_0), some (.ref r_1), some (.int l2), u3, some (.int l4), some (.int l5), u6, u7, u8, u9, u10, (xoi u11), u12, u13, u14], []) h (Po K E)
def b_L_law_1284 (d : Nat) (r_0 : Nat) (r_1 : Nat) (l2 : Int32) (u3 : Option Value) (l4 : Int32) (l5 : Int32) (u6 : Option Value) (u7 : Option Value) (u8 : Option Value) (u9 : Option Value) (u10 : Option Value) (u11 : Option Int32) (u12 : Option Value) (u13 : Option Value) (u14 : Option Value) (s0 : Int32) (h : XH) (K : XK) (E : XE) : Prop := Ex d [] tb_L_law (1284, [some (.ref r_0), some (.ref r_1), some (.int l2), u3, some (.int l4), some (.int l5), u6, u7, u8, u9, u10, (xoi u11), u12, u13, u14], [.int s0]) h (Po K E)
def b_L_law_1291 (d : Nat) (u0 : Option Value) (r_1 : Nat) (u2 : Option Int32) (l3 : Int32) (u4 : Option Int32) (u5 : Option Value) (u6 : Option Value) (u7 : Option Value) (u8 : Option Value) (u9 : Option Value) (u10 : Option Value) (u11 : Option Int32) (u12 : Option Value) (u13 : Option Value) (u14 : Option Value) (h : XH) (K : XK) (E : XE) : Prop := Ex d [] tb_L_law (1291, [u0, some (.ref r_1), (xoi u2), some (.int l3), (xoi u4), u5, u6, u7, u8, u9, u10, (xoi u11), u12, u13, u14], []) h (Po K E)
def b_L_law_1294 (d : Nat) (u0 : Option Value) (r_1 : Nat) (u2 : Option Int32) (l3 : Int32) (u4 : Option Int32) (l5 : Int32) (u6 : Option Value) (u7 : Option Value) (u8 : Option Value) (u9 : Option Value) (u10 : Option Value) (u11 : Option Int32) (u12 : Option Value) (u13 : Option Value) (u14 : Option Value) (h : XH) (K : XK) (E : XE) : Prop := Ex d [] tb_L_law (1294, [u0, some (.ref r_1), (xoi u2), some (.int l3), (xoi u4), some (.int l5), u6, u7, u8, u9, u10, (xoi u11), u12, u13, u14], []) h (Po K E)
set_option maxRecDepth 100000 in
theorem w_L_law_47 {d : Nat} {h : XH} {y : Nat → Nat} {K : XK} {E : XE} {l2 : Int32} {l3 : Int32} {l4 : Int32} {l5 : Int32} {u6 : Option Value} {u7 : Option Value} {u8 : Option Value} {u9 : Option Value} {u10 : Option Value} {u11 : Option Int32} {u12 : Option Value} {u13 : Option Value} {u14 : Option Value} (hd : 70 ≤ d) (hs : Sg h.1 y) (H : (l4 ≤ l5 → b_L_law_1291 d (some (.ref 0)) 1 (some l2) l3 (some l4) (some (.int l5)) (u6) (u7) (u8) (u9) (u10) u11 (u12) (u13) (u14) h K E) ∧ (¬ (l4 ≤ l5) → (l3 = 0 → b_L_law_1291 d (some (.ref 0)) 1 (some l2) l3 (some l4) (some (.int l5)) (u6) (u7) (u8) (u9) (u10) u11 (u12) (u13) (u14) h K E) ∧ (¬ (l3 = 0) → b_L_law_58 d 0 1 l2 (some (.int l3)) l4 l5 (u6) (u7) (u8) (u9) (u10) u11 (u12) (u13) (u14) h K E))) : b_L_law_47 d 0 1 l2 l3 l4 l5 u6 u7 u8 u9 u10 u11 u12 u13 u14 h K E := by
  cases u11 with
  | none =>
    show Ex d [] tb_L_law (47, [some (.ref 0), some (.ref 1), some (.int l2), some (.int l3), some (.int l4), some (.int l5), u6, u7, u8, u9, u10, (xoi none), u12, u13, u14], []) h _
    refine Ex.pure 2 (fr2 := (51, [some (.ref 0), some (.ref 1), some (.int l2), some (.int l3), some (.int l4), some (.int l5), u6, u7, u8, u9, u10, (xoi none), u12, u13, u14], [.int l4, .int l5])) rfl ?_
    refine Ex.br (x := (1291, [some (.ref 0), some (.ref 1), some (.int l2), some (.int l3), some (.int l4), some (.int l5), u6, u7, u8, u9, u10, (xoi none), u12, u13, u14], [])) (y := (54, [some (.ref 0), some (.ref 1), some (.int l2), some (.int l3), some (.int l4), some (.int l5), u6, u7, u8, u9, u10, (xoi none), u12, u13, u14], [])) (b := l4 ≤ l5) rfl (fun hb => ?_) (fun hb => ?_)
    · replace H := H.1 (hb)
      exact H
    · replace H := H.2 (hb)
      refine Ex.pure 1 (fr2 := (55, [some (.ref 0), some (.ref 1), some (.int l2), some (.int l3), some (.int l4), some (.int l5), u6, u7, u8, u9, u10, (xoi none), u12, u13, u14], [.int l3])) rfl ?_
      refine Ex.br (x := (1291, [some (.ref 0), some (.ref 1), some (.int l2), some (.int l3), some (.int l4), some (.int l5), u6, u7, u8, u9, u10, (xoi none), u12, u13, u14], [])) (y := (58, [some (.ref 0), some (.ref 1), some (.int l2), some (.int l3), some (.int l4), some (.int l5), u6, u7, u8, u9, u10, (xoi none), u12, u13, u14], [])) (b := l3 = 0) rfl (fun hb => ?_) (fun hb => ?_)
      · replace H := H.1 (hb)
        exact H
      · replace H := H.2 (hb)
        exact H
  | some v11 =>
    show Ex d [] tb_L_law (47, [some (.ref 0), some (.ref 1), some (.int l2), some (.int l3), some (.int l4), some (.int l5), u6, u7, u8, u9, u10, (xoi (some v11)), u12, u13, u14], []) h _
    refine Ex.pure 2 (fr2 := (51, [some (.ref 0), some (.ref 1), some (.int l2), some (.int l3), some (.int l4), some (.int l5), u6, u7, u8, u9, u10, (xoi (some v11)), u12, u13, u14], [.int l4, .int l5])) rfl ?_
    refine Ex.br (x := (1291, [some (.ref 0), some (.ref 1), some (.int l2), some (.int l3), some (.int l4), some (.int l5), u6, u7, u8, u9, u10, (xoi (some v11)), u12, u13, u14], [])) (y := (54, [some (.ref 0), some (.ref 1), some (.int l2), some (.int l3), some (.int l4), some (.int l5), u6, u7, u8, u9, u10, (xoi (some v11)), u12, u13, u14], [])) (b := l4 ≤ l5) rfl (fun hb => ?_) (fun hb => ?_)
    · replace H := H.1 (hb)
      exact H
    · replace H := H.2 (hb)
      refine Ex.pure 1 (fr2 := (55, [some (.ref 0), some (.ref 1), some (.int l2), some (.int l3), some (.int l4), some (.int l5), u6, u7, u8, u9, u10, (xoi (some v11)), u12, u13, u14], [.int l3])) rfl ?_
      refine Ex.br (x := (1291, [some (.ref 0), some (.ref 1), some (.int l2), some (.int l3), some (.int l4), some (.int l5), u6, u7, u8, u9, u10, (xoi (some v11)), u12, u13, u14], [])) (y := (58, [some (.ref 0), some (.ref 1), some (.int l2), some (.int l3), some (.int l4), some (.int l5), u6, u7, u8, u9, u10, (xoi (some v11)), u12, u13, u14], [])) (b := l3 = 0) rfl (fun hb => ?_) (fun hb => ?_)
      · replace H := H.1 (hb)
        exact H
      · replace H := H.2 (hb)
        exact H
set_option maxRecDepth 100000 in
theorem w_L_law_58 {d : Nat} {h : XH} {y : Nat → Nat} {K : XK} {E : XE} {l2 : Int32} {u3 : Option Value} {l4 : Int32} {l5 : Int32} {u6 : Option Value} {u7 : Option Value} {u8 : Option Value} {u9 : Option Value} {u10 : Option Value} {u11 : Option Int32} {u12 : Option Value} {u13 : Option Value} {u14 : Option Value} (hd : 70 ≤ d) (hs : Sg h.1 y) (H : (Ca d m_L_draw [.ref 0, .int l5] h (fun rv h1 => ∃ x2, rv = some (.int x2) ∧ Sg h1.1 y ∧ (Ca d m_L_draw [.ref 0, .int l5] h1 (fun rv h3 => ∃ x4, rv = some (.int x4) ∧ Sg h3.1 y ∧ (9 ≤ l5 → b_L_law_99 d 0 1 l2 (u3) l4 l5 ((x2 >>> ((5 : Int32) &&& 31)) &&& 134217727) (x4 &&& 31) (u8) (u9) (u10) u11 (u12) (u13) (u14) (((x2 >>> ((5 : Int32) &&& 31)) &&& 134217727) - ((x2 >>> ((5 : Int32) &&& 31)) &&& 134217727) / 9 * 9) h3 K E) ∧ (¬ (9 ≤ l5) → b_L_law_99 d 0 1 l2 (u3) l4 l5 ((x2 >>> ((5 : Int32) &&& 31)) &&& 134217727) (x4 &&& 31) (u8) (u9) (u10) u11 (u12) (u13) (u14) l5 h3 K E)) E)) E)) : b_L_law_58 d 0 1 l2 u3 l4 l5 u6 u7 u8 u9 u10 u11 u12 u13 u14 h K E := by
  cases u11 with
  | none =>
    show Ex d [] tb_L_law (58, [some (.ref 0), some (.ref 1), some (.int l2), u3, some (.int l4), some (.int l5), u6, u7, u8, u9, u10, (xoi none), u12, u13, u14], []) h _
    refine Ex.pure 2 (fr2 := (61, [some (.ref 0), some (.ref 1), some (.int l2), u3, some (.int l4), some (.int l5), u6, u7, u8, u9, u10, (xoi none), u12, u13, u14], [.int l5, .ref 0])) rfl ?_
    refine Ex.cal (rest := []) (j := m_L_draw) (as := [.ref 0, .int l5]) (fun c => rfl) (H.imp ?_)
    intro rv h1 H
    obtain ⟨x2, rfl, H⟩ := H
    obtain ⟨hs, H⟩ := H
    show Ex d [] tb_L_law (64, [some (.ref 0), some (.ref 1), some (.int l2), u3, some (.int l4), some (.int l5), u6, u7, u8, u9, u10, (xoi none), u12, u13, u14], [.int x2]) h1 _
    refine Ex.pure 7 (fr2 := (74, [some (.ref 0), some (.ref 1), some (.int l2), u3, some (.int l4), some (.int l5), some (.int ((x2 >>> ((5 : Int32) &&& 31)) &&& 134217727)), u7, u8, u9, u10, (xoi none), u12, u13, u14], [.int l5, .ref 0])) rfl ?_
    refine Ex.cal (rest := []) (j := m_L_draw) (as := [.ref 0, .int l5]) (fun c => rfl) (H.imp ?_)
    intro rv h3 H
    obtain ⟨x4, rfl, H⟩ := H
    obtain ⟨hs, H⟩ := H
    show Ex d [] tb_L_law (77, [some (.ref 0), some (.ref 1), some (.int l2), u3, some (.int l4), some (.int l5), some (.int ((x2 >>> ((5 : Int32) &&& 31)) &&& 134217727)), u7, u8, u9, u10, (xoi none), u12, u13, u14], [.int x4]) h3 _
    refine Ex.pure 5 (fr2 := (86, [some (.ref 0), some (.ref 1), some (.int l2), u3, some (.int l4), some (.int l5), some (.int ((x2 >>> ((5 : Int32) &&& 31)) &&& 134217727)), some (.int (x4 &&& 31)), u8, u9, u10, (xoi none), u12, u13, u14], [.int 9, .int l5])) rfl ?_
    refine Ex.br (x := (94, [some (.ref 0), some (.ref 1), some (.int l2), u3, some (.int l4), some (.int l5), some (.int ((x2 >>> ((5 : Int32) &&& 31)) &&& 134217727)), some (.int (x4 &&& 31)), u8, u9, u10, (xoi none), u12, u13, u14], [])) (y := (89, [some (.ref 0), some (.ref 1), some (.int l2), u3, some (.int l4), some (.int l5), some (.int ((x2 >>> ((5 : Int32) &&& 31)) &&& 134217727)), some (.int (x4 &&& 31)), u8, u9, u10, (xoi none), u12, u13, u14], [])) (b := 9 ≤ l5) rfl (fun hb => ?_) (fun hb => ?_)
    · replace H := H.1 (hb)
      refine Ex.pure 2 (fr2 := (98, [some (.ref 0), some (.ref 1), some (.int l2), u3, some (.int l4), some (.int l5), some (.int ((x2 >>> ((5 : Int32) &&& 31)) &&& 134217727)), some (.int (x4 &&& 31)), u8, u9, u10, (xoi none), u12, u13, u14], [.int 9, .int ((x2 >>> ((5 : Int32) &&& 31)) &&& 134217727)])) rfl ?_
      refine Ex.irem rfl (by decide) ?_
      exact H
    · replace H := H.2 (hb)
      refine Ex.pure 2 (fr2 := (99, [some (.ref 0), some (.ref 1), some (.int l2), u3, some (.int l4), some (.int l5), some (.int ((x2 >>> ((5 : Int32) &&& 31)) &&& 134217727)), some (.int (x4 &&& 31)), u8, u9, u10, (xoi none), u12, u13, u14], [.int l5])) rfl ?_
      exact H
  | some v11 =>
    show Ex d [] tb_L_law (58, [some (.ref 0), some (.ref 1), some (.int l2), u3, some (.int l4), some (.int l5), u6, u7, u8, u9, u10, (xoi (some v11)), u12, u13, u14], []) h _
    refine Ex.pure 2 (fr2 := (61, [some (.ref 0), some (.ref 1), some (.int l2), u3, some (.int l4), some (.int l5), u6, u7, u8, u9, u10, (xoi (some v11)), u12, u13, u14], [.int l5, .ref 0])) rfl ?_
    refine Ex.cal (rest := []) (j := m_L_draw) (as := [.ref 0, .int l5]) (fun c => rfl) (H.imp ?_)
    intro rv h1 H
    obtain ⟨x2, rfl, H⟩ := H
    obtain ⟨hs, H⟩ := H
    show Ex d [] tb_L_law (64, [some (.ref 0), some (.ref 1), some (.int l2), u3, some (.int l4), some (.int l5), u6, u7, u8, u9, u10, (xoi (some v11)), u12, u13, u14], [.int x2]) h1 _
    refine Ex.pure 7 (fr2 := (74, [some (.ref 0), some (.ref 1), some (.int l2), u3, some (.int l4), some (.int l5), some (.int ((x2 >>> ((5 : Int32) &&& 31)) &&& 134217727)), u7, u8, u9, u10, (xoi (some v11)), u12, u13, u14], [.int l5, .ref 0])) rfl ?_
    refine Ex.cal (rest := []) (j := m_L_draw) (as := [.ref 0, .int l5]) (fun c => rfl) (H.imp ?_)
    intro rv h3 H
    obtain ⟨x4, rfl, H⟩ := H
    obtain ⟨hs, H⟩ := H
    show Ex d [] tb_L_law (77, [some (.ref 0), some (.ref 1), some (.int l2), u3, some (.int l4), some (.int l5), some (.int ((x2 >>> ((5 : Int32) &&& 31)) &&& 134217727)), u7, u8, u9, u10, (xoi (some v11)), u12, u13, u14], [.int x4]) h3 _
    refine Ex.pure 5 (fr2 := (86, [some (.ref 0), some (.ref 1), some (.int l2), u3, some (.int l4), some (.int l5), some (.int ((x2 >>> ((5 : Int32) &&& 31)) &&& 134217727)), some (.int (x4 &&& 31)), u8, u9, u10, (xoi (some v11)), u12, u13, u14], [.int 9, .int l5])) rfl ?_
    refine Ex.br (x := (94, [some (.ref 0), some (.ref 1), some (.int l2), u3, some (.int l4), some (.int l5), some (.int ((x2 >>> ((5 : Int32) &&& 31)) &&& 134217727)), some (.int (x4 &&& 31)), u8, u9, u10, (xoi (some v11)), u12, u13, u14], [])) (y := (89, [some (.ref 0), some (.ref 1), some (.int l2), u3, some (.int l4), some (.int l5), some (.int ((x2 >>> ((5 : Int32) &&& 31)) &&& 134217727)), some (.int (x4 &&& 31)), u8, u9, u10, (xoi (some v11)), u12, u13, u14], [])) (b := 9 ≤ l5) rfl (fun hb => ?_) (fun hb => ?_)
    · replace H := H.1 (hb)
      refine Ex.pure 2 (fr2 := (98, [some (.ref 0), some (.ref 1), some (.int l2), u3, some (.int l4), some (.int l5), some (.int ((x2 >>> ((5 : Int32) &&& 31)) &&& 134217727)), some (.int (x4 &&& 31)), u8, u9, u10, (xoi (some v11)), u12, u13, u14], [.int 9, .int ((x2 >>> ((5 : Int32) &&& 31)) &&& 134217727)])) rfl ?_
      refine Ex.irem rfl (by decide) ?_
      exact H
    · replace H := H.2 (hb)
      refine Ex.pure 2 (fr2 := (99, [some (.ref 0), some (.ref 1), some (.int l2), u3, some (.int l4), some (.int l5), some (.int ((x2 >>> ((5 : Int32) &&& 31)) &&& 134217727)), some (.int (x4 &&& 31)), u8, u9, u10, (xoi (some v11)), u12, u13, u14], [.int l5])) rfl ?_
      exact H
set_option maxRecDepth 100000 in
theorem w_L_law_99 {d : Nat} {h : XH} {y : Nat → Nat} {K : XK} {E : XE} {l2 : Int32} {u3 : Option Value} {l4 : Int32} {l5 : Int32} {l6 : Int32} {l7 : Int32} {u8 : Option Value} {u9 : Option Value} {u10 : Option Value} {u11 : Option Int32} {u12 : Option Value} {u13 : Option Value} {u14 : Option Value} {s0 : Int32} (hd : 70 ≤ d) (hs : Sg h.1 y) (H : (9 ≤ l5 → (6 ≤ l7 → b_L_law_149 d 0 1 l2 (u3) l4 l5 l6 l7 s0 ((l6 >>> ((4 : Int32) &&& 31)) - (l6 >>> ((4 : Int32) &&& 31)) / 9 * 9) ((l6 >>> ((8 : Int32) &&& 31)) - (l6 >>> ((8 : Int32) &&& 31)) / 9 * 9) u11 (u12) (u13) (u14) 3 h K E) ∧ (¬ (6 ≤ l7) → b_L_law_149 d 0 1 l2 (u3) l4 l5 l6 l7 s0 ((l6 >>> ((4 : Int32) &&& 31)) - (l6 >>> ((4 : Int32) &&& 31)) / 9 * 9) ((l6 >>> ((8 : Int32) &&& 31)) - (l6 >>> ((8 : Int32) &&& 31)) / 9 * 9) u11 (u12) (u13) (u14) (l7 / 2) h K E)) ∧ (¬ (9 ≤ l5) → b_L_law_149 d 0 1 l2 (u3) l4 l5 l6 l7 s0 ((l6 >>> ((4 : Int32) &&& 31)) - (l6 >>> ((4 : Int32) &&& 31)) / 9 * 9) ((l6 >>> ((8 : Int32) &&& 31)) - (l6 >>> ((8 : Int32) &&& 31)) / 9 * 9) u11 (u12) (u13) (u14) (l5 - l5 / 3 * 3) h K E)) : b_L_law_99 d 0 1 l2 u3 l4 l5 l6 l7 u8 u9 u10 u11 u12 u13 u14 s0 h K E := by
  cases u11 with
  | none =>
    show Ex d [] tb_L_law (99, [some (.ref 0), some (.ref 1), some (.int l2), u3, some (.int l4), some (.int l5), some (.int l6), some (.int l7), u8, u9, u10, (xoi none), u12, u13, u14], [.int s0]) h _
    refine Ex.pure 5 (fr2 := (107, [some (.ref 0), some (.ref 1), some (.int l2), u3, some (.int l4), some (.int l5), some (.int l6), some (.int l7), some (.int s0), u9, u10, (xoi none), u12, u13, u14], [.int 9, .int (l6 >>> ((4 : Int32) &&& 31))])) rfl ?_
    refine Ex.irem rfl (by decide) ?_
    refine Ex.pure 5 (fr2 := (117, [some (.ref 0), some (.ref 1), some (.int l2), u3, some (.int l4), some (.int l5), some (.int l6), some (.int l7), some (.int s0), some (.int ((l6 >>> ((4 : Int32) &&& 31)) - (l6 >>> ((4 : Int32) &&& 31)) / 9 * 9)), u10, (xoi none), u12, u13, u14], [.int 9, .int (l6 >>> ((8 : Int32) &&& 31))])) rfl ?_
    refine Ex.irem rfl (by decide) ?_
    refine Ex.pure 3 (fr2 := (124, [some (.ref 0), some (.ref 1), some (.int l2), u3, some (.int l4), some (.int l5), some (.int l6), some (.int l7), some (.int s0), some (.int ((l6 >>> ((4 : Int32) &&& 31)) - (l6 >>> ((4 : Int32) &&& 31)) / 9 * 9)), some (.int ((l6 >>> ((8 : Int32) &&& 31)) - (l6 >>> ((8 : Int32) &&& 31)) / 9 * 9)), (xoi none), u12, u13, u14], [.int 9, .int l5])) rfl ?_
    refine Ex.br (x := (134, [some (.ref 0), some (.ref 1), some (.int l2), u3, some (.int l4), some (.int l5), some (.int l6), some (.int l7), some (.int s0), some (.int ((l6 >>> ((4 : Int32) &&& 31)) - (l6 >>> ((4 : Int32) &&& 31)) / 9 * 9)), some (.int ((l6 >>> ((8 : Int32) &&& 31)) - (l6 >>> ((8 : Int32) &&& 31)) / 9 * 9)), (xoi none), u12, u13, u14], [])) (y := (127, [some (.ref 0), some (.ref 1), some (.int l2), u3, some (.int l4), some (.int l5), some (.int l6), some (.int l7), some (.int s0), some (.int ((l6 >>> ((4 : Int32) &&& 31)) - (l6 >>> ((4 : Int32) &&& 31)) / 9 * 9)), some (.int ((l6 >>> ((8 : Int32) &&& 31)) - (l6 >>> ((8 : Int32) &&& 31)) / 9 * 9)), (xoi none), u12, u13, u14], [])) (b := 9 ≤ l5) rfl (fun hb => ?_) (fun hb => ?_)
    · replace H := H.1 (hb)
      refine Ex.pure 2 (fr2 := (138, [some (.ref 0), some (.ref 1), some (.int l2), u3, some (.int l4), some (.int l5), some (.int l6), some (.int l7), some (.int s0), some (.int ((l6 >>> ((4 : Int32) &&& 31)) - (l6 >>> ((4 : Int32) &&& 31)) / 9 * 9)), some (.int ((l6 >>> ((8 : Int32) &&& 31)) - (l6 >>> ((8 : Int32) &&& 31)) / 9 * 9)), (xoi none), u12, u13, u14], [.int 6, .int l7])) rfl ?_
      refine Ex.br (x := (148, [some (.ref 0), some (.ref 1), some (.int l2), u3, some (.int l4), some (.int l5), some (.int l6), some (.int l7), some (.int s0), some (.int ((l6 >>> ((4 : Int32) &&& 31)) - (l6 >>> ((4 : Int32) &&& 31)) / 9 * 9)), some (.int ((l6 >>> ((8 : Int32) &&& 31)) - (l6 >>> ((8 : Int32) &&& 31)) / 9 * 9)), (xoi none), u12, u13, u14], [])) (y := (141, [some (.ref 0), some (.ref 1), some (.int l2), u3, some (.int l4), some (.int l5), some (.int l6), some (.int l7), some (.int s0), some (.int ((l6 >>> ((4 : Int32) &&& 31)) - (l6 >>> ((4 : Int32) &&& 31)) / 9 * 9)), some (.int ((l6 >>> ((8 : Int32) &&& 31)) - (l6 >>> ((8 : Int32) &&& 31)) / 9 * 9)), (xoi none), u12, u13, u14], [])) (b := 6 ≤ l7) rfl (fun hb => ?_) (fun hb => ?_)
      · replace H := H.1 (hb)
        refine Ex.pure 1 (fr2 := (149, [some (.ref 0), some (.ref 1), some (.int l2), u3, some (.int l4), some (.int l5), some (.int l6), some (.int l7), some (.int s0), some (.int ((l6 >>> ((4 : Int32) &&& 31)) - (l6 >>> ((4 : Int32) &&& 31)) / 9 * 9)), some (.int ((l6 >>> ((8 : Int32) &&& 31)) - (l6 >>> ((8 : Int32) &&& 31)) / 9 * 9)), (xoi none), u12, u13, u14], [.int 3])) rfl ?_
        exact H
      · replace H := H.2 (hb)
        refine Ex.pure 2 (fr2 := (144, [some (.ref 0), some (.ref 1), some (.int l2), u3, some (.int l4), some (.int l5), some (.int l6), some (.int l7), some (.int s0), some (.int ((l6 >>> ((4 : Int32) &&& 31)) - (l6 >>> ((4 : Int32) &&& 31)) / 9 * 9)), some (.int ((l6 >>> ((8 : Int32) &&& 31)) - (l6 >>> ((8 : Int32) &&& 31)) / 9 * 9)), (xoi none), u12, u13, u14], [.int 2, .int l7])) rfl ?_
        refine Ex.idiv rfl (by decide) ?_
        refine Ex.pure 1 (fr2 := (149, [some (.ref 0), some (.ref 1), some (.int l2), u3, some (.int l4), some (.int l5), some (.int l6), some (.int l7), some (.int s0), some (.int ((l6 >>> ((4 : Int32) &&& 31)) - (l6 >>> ((4 : Int32) &&& 31)) / 9 * 9)), some (.int ((l6 >>> ((8 : Int32) &&& 31)) - (l6 >>> ((8 : Int32) &&& 31)) / 9 * 9)), (xoi none), u12, u13, u14], [.int (l7 / 2)])) rfl ?_
        exact H
    · replace H := H.2 (hb)
      refine Ex.pure 2 (fr2 := (130, [some (.ref 0), some (.ref 1), some (.int l2), u3, some (.int l4), some (.int l5), some (.int l6), some (.int l7), some (.int s0), some (.int ((l6 >>> ((4 : Int32) &&& 31)) - (l6 >>> ((4 : Int32) &&& 31)) / 9 * 9)), some (.int ((l6 >>> ((8 : Int32) &&& 31)) - (l6 >>> ((8 : Int32) &&& 31)) / 9 * 9)), (xoi none), u12, u13, u14], [.int 3, .int l5])) rfl ?_
      refine Ex.irem rfl (by decide) ?_
      refine Ex.pure 1 (fr2 := (149, [some (.ref 0), some (.ref 1), some (.int l2), u3, some (.int l4), some (.int l5), some (.int l6), some (.int l7), some (.int s0), some (.int ((l6 >>> ((4 : Int32) &&& 31)) - (l6 >>> ((4 : Int32) &&& 31)) / 9 * 9)), some (.int ((l6 >>> ((8 : Int32) &&& 31)) - (l6 >>> ((8 : Int32) &&& 31)) / 9 * 9)), (xoi none), u12, u13, u14], [.int (l5 - l5 / 3 * 3)])) rfl ?_
      exact H
  | some v11 =>
    show Ex d [] tb_L_law (99, [some (.ref 0), some (.ref 1), some (.int l2), u3, some (.int l4), some (.int l5), some (.int l6), some (.int l7), u8, u9, u10, (xoi (some v11)), u12, u13, u14], [.int s0]) h _
    refine Ex.pure 5 (fr2 := (107, [some (.ref 0), some (.ref 1), some (.int l2), u3, some (.int l4), some (.int l5), some (.int l6), some (.int l7), some (.int s0), u9, u10, (xoi (some v11)), u12, u13, u14], [.int 9, .int (l6 >>> ((4 : Int32) &&& 31))])) rfl ?_
    refine Ex.irem rfl (by decide) ?_
    refine Ex.pure 5 (fr2 := (117, [some (.ref 0), some (.ref 1), some (.int l2), u3, some (.int l4), some (.int l5), some (.int l6), some (.int l7), some (.int s0), some (.int ((l6 >>> ((4 : Int32) &&& 31)) - (l6 >>> ((4 : Int32) &&& 31)) / 9 * 9)), u10, (xoi (some v11)), u12, u13, u14], [.int 9, .int (l6 >>> ((8 : Int32) &&& 31))])) rfl ?_
    refine Ex.irem rfl (by decide) ?_
    refine Ex.pure 3 (fr2 := (124, [some (.ref 0), some (.ref 1), some (.int l2), u3, some (.int l4), some (.int l5), some (.int l6), some (.int l7), some (.int s0), some (.int ((l6 >>> ((4 : Int32) &&& 31)) - (l6 >>> ((4 : Int32) &&& 31)) / 9 * 9)), some (.int ((l6 >>> ((8 : Int32) &&& 31)) - (l6 >>> ((8 : Int32) &&& 31)) / 9 * 9)), (xoi (some v11)), u12, u13, u14], [.int 9, .int l5])) rfl ?_
    refine Ex.br (x := (134, [some (.ref 0), some (.ref 1), some (.int l2), u3, some (.int l4), some (.int l5), some (.int l6), some (.int l7), some (.int s0), some (.int ((l6 >>> ((4 : Int32) &&& 31)) - (l6 >>> ((4 : Int32) &&& 31)) / 9 * 9)), some (.int ((l6 >>> ((8 : Int32) &&& 31)) - (l6 >>> ((8 : Int32) &&& 31)) / 9 * 9)), (xoi (some v11)), u12, u13, u14], [])) (y := (127, [some (.ref 0), some (.ref 1), some (.int l2), u3, some (.int l4), some (.int l5), some (.int l6), some (.int l7), some (.int s0), some (.int ((l6 >>> ((4 : Int32) &&& 31)) - (l6 >>> ((4 : Int32) &&& 31)) / 9 * 9)), some (.int ((l6 >>> ((8 : Int32) &&& 31)) - (l6 >>> ((8 : Int32) &&& 31)) / 9 * 9)), (xoi (some v11)), u12, u13, u14], [])) (b := 9 ≤ l5) rfl (fun hb => ?_) (fun hb => ?_)
    · replace H := H.1 (hb)
      refine Ex.pure 2 (fr2 := (138, [some (.ref 0), some (.ref 1), some (.int l2), u3, some (.int l4), some (.int l5), some (.int l6), some (.int l7), some (.int s0), some (.int ((l6 >>> ((4 : Int32) &&& 31)) - (l6 >>> ((4 : Int32) &&& 31)) / 9 * 9)), some (.int ((l6 >>> ((8 : Int32) &&& 31)) - (l6 >>> ((8 : Int32) &&& 31)) / 9 * 9)), (xoi (some v11)), u12, u13, u14], [.int 6, .int l7])) rfl ?_
      refine Ex.br (x := (148, [some (.ref 0), some (.ref 1), some (.int l2), u3, some (.int l4), some (.int l5), some (.int l6), some (.int l7), some (.int s0), some (.int ((l6 >>> ((4 : Int32) &&& 31)) - (l6 >>> ((4 : Int32) &&& 31)) / 9 * 9)), some (.int ((l6 >>> ((8 : Int32) &&& 31)) - (l6 >>> ((8 : Int32) &&& 31)) / 9 * 9)), (xoi (some v11)), u12, u13, u14], [])) (y := (141, [some (.ref 0), some (.ref 1), some (.int l2), u3, some (.int l4), some (.int l5), some (.int l6), some (.int l7), some (.int s0), some (.int ((l6 >>> ((4 : Int32) &&& 31)) - (l6 >>> ((4 : Int32) &&& 31)) / 9 * 9)), some (.int ((l6 >>> ((8 : Int32) &&& 31)) - (l6 >>> ((8 : Int32) &&& 31)) / 9 * 9)), (xoi (some v11)), u12, u13, u14], [])) (b := 6 ≤ l7) rfl (fun hb => ?_) (fun hb => ?_)
      · replace H := H.1 (hb)
        refine Ex.pure 1 (fr2 := (149, [some (.ref 0), some (.ref 1), some (.int l2), u3, some (.int l4), some (.int l5), some (.int l6), some (.int l7), some (.int s0), some (.int ((l6 >>> ((4 : Int32) &&& 31)) - (l6 >>> ((4 : Int32) &&& 31)) / 9 * 9)), some (.int ((l6 >>> ((8 : Int32) &&& 31)) - (l6 >>> ((8 : Int32) &&& 31)) / 9 * 9)), (xoi (some v11)), u12, u13, u14], [.int 3])) rfl ?_
        exact H
      · replace H := H.2 (hb)
        refine Ex.pure 2 (fr2 := (144, [some (.ref 0), some (.ref 1), some (.int l2), u3, some (.int l4), some (.int l5), some (.int l6), some (.int l7), some (.int s0), some (.int ((l6 >>> ((4 : Int32) &&& 31)) - (l6 >>> ((4 : Int32) &&& 31)) / 9 * 9)), some (.int ((l6 >>> ((8 : Int32) &&& 31)) - (l6 >>> ((8 : Int32) &&& 31)) / 9 * 9)), (xoi (some v11)), u12, u13, u14], [.int 2, .int l7])) rfl ?_
        refine Ex.idiv rfl (by decide) ?_
        refine Ex.pure 1 (fr2 := (149, [some (.ref 0), some (.ref 1), some (.int l2), u3, some (.int l4), some (.int l5), some (.int l6), some (.int l7), some (.int s0), some (.int ((l6 >>> ((4 : Int32) &&& 31)) - (l6 >>> ((4 : Int32) &&& 31)) / 9 * 9)), some (.int ((l6 >>> ((8 : Int32) &&& 31)) - (l6 >>> ((8 : Int32) &&& 31)) / 9 * 9)), (xoi (some v11)), u12, u13, u14], [.int (l7 / 2)])) rfl ?_
        exact H
    · replace H := H.2 (hb)
      refine Ex.pure 2 (fr2 := (130, [some (.ref 0), some (.ref 1), some (.int l2), u3, some (.int l4), some (.int l5), some (.int l6), some (.int l7), some (.int s0), some (.int ((l6 >>> ((4 : Int32) &&& 31)) - (l6 >>> ((4 : Int32) &&& 31)) / 9 * 9)), some (.int ((l6 >>> ((8 : Int32) &&& 31)) - (l6 >>> ((8 : Int32) &&& 31)) / 9 * 9)), (xoi (some v11)), u12, u13, u14], [.int 3, .int l5])) rfl ?_
      refine Ex.irem rfl (by decide) ?_
      refine Ex.pure 1 (fr2 := (149, [some (.ref 0), some (.ref 1), some (.int l2), u3, some (.int l4), some (.int l5), some (.int l6), some (.int l7), some (.int s0), some (.int ((l6 >>> ((4 : Int32) &&& 31)) - (l6 >>> ((4 : Int32) &&& 31)) / 9 * 9)), some (.int ((l6 >>> ((8 : Int32) &&& 31)) - (l6 >>> ((8 : Int32) &&& 31)) / 9 * 9)), (xoi (some v11)), u12, u13, u14], [.int (l5 - l5 / 3 * 3)])) rfl ?_
      exact H
set_option maxRecDepth 100000 in
theorem w_L_law_149 {d : Nat} {h : XH} {y : Nat → Nat} {K : XK} {E : XE} {l2 : Int32} {u3 : Option Value} {l4 : Int32} {l5 : Int32} {l6 : Int32} {l7 : Int32} {l8 : Int32} {l9 : Int32} {l10 : Int32} {u11 : Option Int32} {u12 : Option Value} {u13 : Option Value} {u14 : Option Value} {s0 : Int32} (hd : 70 ≤ d) (hs : Sg h.1 y) (H : b_L_law_151 d 0 1 l2 (u3) l4 l5 l6 l7 l8 l9 l10 s0 (u12) (u13) (u14) h K E) : b_L_law_149 d 0 1 l2 u3 l4 l5 l6 l7 l8 l9 l10 u11 u12 u13 u14 s0 h K E := by
  cases u11 with
  | none =>
    show Ex d [] tb_L_law (149, [some (.ref 0), some (.ref 1), some (.int l2), u3, some (.int l4), some (.int l5), some (.int l6), some (.int l7), some (.int l8), some (.int l9), some (.int l10), (xoi none), u12, u13, u14], [.int s0]) h _
    refine Ex.pure 1 (fr2 := (151, [some (.ref 0), some (.ref 1), some (.int l2), u3, some (.int l4), some (.int l5), some (.int l6), some (.int l7), some (.int l8), some (.int l9), some (.int l10), some (.int s0), u12, u13, u14], [])) rfl ?_
    exact H
  | some v11 =>
    show Ex d [] tb_L_law (149, [some (.ref 0), some (.ref 1), some (.int l2), u3, some (.int l4), some (.int l5), some (.int l6), some (.int l7), some (.int l8), some (.int l9), some (.int l10), (xoi (some v11)), u12, u13, u14], [.int s0]) h _
    refine Ex.pure 1 (fr2 := (151, [some (.ref 0), some (.ref 1), some (.int l2), u3, some (.int l4), some (.int l5), some (.int l6), some (.int l7), some (.int l8), some (.int l9), some (.int l10), some (.int s0), u12, u13, u14], [])) rfl ?_
    exact H
set_option maxRecDepth 100000 in
theorem w_L_law_151 {d : Nat} {h : XH} {y : Nat → Nat} {K : XK} {E : XE} {l2 : Int32} {u3 : Option Value} {l4 : Int32} {l5 : Int32} {l6 : Int32} {l7 : Int32} {l8 : Int32} {l9 : Int32} {l10 : Int32} {l11 : Int32} {u12 : Option Value} {u13 : Option Value} {u14 : Option Value} (hd : 70 ≤ d) (hs : Sg h.1 y) (H : (¬ l11 = 0 → b_L_law_194 d 0 1 l2 (u3) l4 l5 l6 l7 l8 l9 l10 l11 (u12) (u13) (u14) h K E) ∧ (¬ (¬ l11 = 0) → b_L_law_156 d 0 1 l2 (u3) l4 l5 l6 (some (.int l7)) l8 (some (.int l9)) (some (.int l10)) (some l11) (u12) (u13) (u14) h K E)) : b_L_law_151 d 0 1 l2 u3 l4 l5 l6 l7 l8 l9 l10 l11 u12 u13 u14 h K E := by
  show Ex d [] tb_L_law (151, [some (.ref 0), some (.ref 1), some (.int l2), u3, some (.int l4), some (.int l5), some (.int l6), some (.int l7), some (.int l8), some (.int l9), some (.int l10), some (.int l11), u12, u13, u14], []) h _
  refine Ex.pure 1 (fr2 := (153, [some (.ref 0), some (.ref 1), some (.int l2), u3, some (.int l4), some (.int l5), some (.int l6), some (.int l7), some (.int l8), some (.int l9), some (.int l10), some (.int l11), u12, u13, u14], [.int l11])) rfl ?_
  refine Ex.br (x := (194, [some (.ref 0), some (.ref 1), some (.int l2), u3, some (.int l4), some (.int l5), some (.int l6), some (.int l7), some (.int l8), some (.int l9), some (.int l10), some (.int l11), u12, u13, u14], [])) (y := (156, [some (.ref 0), some (.ref 1), some (.int l2), u3, some (.int l4), some (.int l5), some (.int l6), some (.int l7), some (.int l8), some (.int l9), some (.int l10), some (.int l11), u12, u13, u14], [])) (b := ¬ l11 = 0) rfl (fun hb => ?_) (fun hb => ?_)
  · replace H := H.1 (hb)
    exact H
  · replace H := H.2 (hb)
    exact H
set_option maxRecDepth 100000 in
theorem w_L_law_156 {d : Nat} {h : XH} {y : Nat → Nat} {K : XK} {E : XE} {l2 : Int32} {u3 : Option Value} {l4 : Int32} {l5 : Int32} {l6 : Int32} {u7 : Option Value} {l8 : Int32} {u9 : Option Value} {u10 : Option Value} {u11 : Option Int32} {u12 : Option Value} {u13 : Option Value} {u14 : Option Value} (hd : 70 ≤ d) (hs : Sg h.1 y) (H : (Ca d m_L_ask [.ref 1, .int 0, .int l8, .int ((l6 >>> ((12 : Int32) &&& 31)) - (l6 >>> ((12 : Int32) &&& 31)) / 12 * 12), .int 0] h (fun rv h1 => ∃ x2, rv = some (.int x2) ∧ ∃ y3 : Nat → Nat, Sg h1.1 y3 ∧ (¬ x2 = 0 → b_L_law_189 d 0 1 l2 (u3) l4 l5 (some (.int l6)) (u7) l8 (u9) (u10) u11 (u12) (u13) (u14) h1 K E) ∧ (¬ (¬ x2 = 0) → (Ca d m_X6_kind [.ref 1, .int l8] h1 (fun rv h4 => ∃ x5, rv = some (.int x5) ∧ ∃ y6 : Nat → Nat, Sg h4.1 y6 ∧ (¬ x5 = 1 → b_L_law_189 d 0 1 l2 (u3) l4 l5 (some (.int l6)) (u7) l8 (u9) (u10) u11 (u12) (u13) (u14) h4 K E) ∧ (¬ (¬ x5 = 1) → b_L_law_190 d 0 1 l2 (u3) l4 l5 (some (.int l6)) (u7) l8 (u9) (u10) u11 (u12) (u13) (u14) 1 h4 K E)) E))) E)) : b_L_law_156 d 0 1 l2 u3 l4 l5 l6 u7 l8 u9 u10 u11 u12 u13 u14 h K E := by
  cases u11 with
  | none =>
    show Ex d [] tb_L_law (156, [some (.ref 0), some (.ref 1), some (.int l2), u3, some (.int l4), some (.int l5), some (.int l6), u7, some (.int l8), u9, u10, (xoi none), u12, u13, u14], []) h _
    refine Ex.pure 7 (fr2 := (167, [some (.ref 0), some (.ref 1), some (.int l2), u3, some (.int l4), some (.int l5), some (.int l6), u7, some (.int l8), u9, u10, (xoi none), u12, u13, u14], [.int 12, .int (l6 >>> ((12 : Int32) &&& 31)), .int l8, .int 0, .ref 1])) rfl ?_
    refine Ex.irem rfl (by decide) ?_
    refine Ex.pure 1 (fr2 := (169, [some (.ref 0), some (.ref 1), some (.int l2), u3, some (.int l4), some (.int l5), some (.int l6), u7, some (.int l8), u9, u10, (xoi none), u12, u13, u14], [.int 0, .int ((l6 >>> ((12 : Int32) &&& 31)) - (l6 >>> ((12 : Int32) &&& 31)) / 12 * 12), .int l8, .int 0, .ref 1])) rfl ?_
    refine Ex.cal (rest := []) (j := m_L_ask) (as := [.ref 1, .int 0, .int l8, .int ((l6 >>> ((12 : Int32) &&& 31)) - (l6 >>> ((12 : Int32) &&& 31)) / 12 * 12), .int 0]) (fun c => rfl) (H.imp ?_)
    intro rv h1 H
    obtain ⟨x2, rfl, H⟩ := H
    obtain ⟨y3, hs, H⟩ := H
    show Ex d [] tb_L_law (172, [some (.ref 0), some (.ref 1), some (.int l2), u3, some (.int l4), some (.int l5), some (.int l6), u7, some (.int l8), u9, u10, (xoi none), u12, u13, u14], [.int x2]) h1 _
    refine Ex.br (x := (189, [some (.ref 0), some (.ref 1), some (.int l2), u3, some (.int l4), some (.int l5), some (.int l6), u7, some (.int l8), u9, u10, (xoi none), u12, u13, u14], [])) (y := (175, [some (.ref 0), some (.ref 1), some (.int l2), u3, some (.int l4), some (.int l5), some (.int l6), u7, some (.int l8), u9, u10, (xoi none), u12, u13, u14], [])) (b := ¬ x2 = 0) rfl (fun hb => ?_) (fun hb => ?_)
    · replace H := H.1 (hb)
      exact H
    · replace H := H.2 (hb)
      refine Ex.pure 2 (fr2 := (178, [some (.ref 0), some (.ref 1), some (.int l2), u3, some (.int l4), some (.int l5), some (.int l6), u7, some (.int l8), u9, u10, (xoi none), u12, u13, u14], [.int l8, .ref 1])) rfl ?_
      refine Ex.cal (rest := []) (j := m_X6_kind) (as := [.ref 1, .int l8]) (vst (a := 68) (b := 2) (c := 5) (rest := []) (vs := [.int l8]) rfl ⟨Nat.le_of_ble_eq_true rfl, Nat.le_of_ble_eq_true rfl⟩ rfl rfl (sg_1 hs)) (H.imp ?_)
      intro rv h4 H
      obtain ⟨x5, rfl, H⟩ := H
      obtain ⟨y6, hs, H⟩ := H
      show Ex d [] tb_L_law (181, [some (.ref 0), some (.ref 1), some (.int l2), u3, some (.int l4), some (.int l5), some (.int l6), u7, some (.int l8), u9, u10, (xoi none), u12, u13, u14], [.int x5]) h4 _
      refine Ex.pure 1 (fr2 := (182, [some (.ref 0), some (.ref 1), some (.int l2), u3, some (.int l4), some (.int l5), some (.int l6), u7, some (.int l8), u9, u10, (xoi none), u12, u13, u14], [.int 1, .int x5])) rfl ?_
      refine Ex.br (x := (189, [some (.ref 0), some (.ref 1), some (.int l2), u3, some (.int l4), some (.int l5), some (.int l6), u7, some (.int l8), u9, u10, (xoi none), u12, u13, u14], [])) (y := (185, [some (.ref 0), some (.ref 1), some (.int l2), u3, some (.int l4), some (.int l5), some (.int l6), u7, some (.int l8), u9, u10, (xoi none), u12, u13, u14], [])) (b := ¬ x5 = 1) rfl (fun hb => ?_) (fun hb => ?_)
      · replace H := H.1 (hb)
        exact H
      · replace H := H.2 (hb)
        refine Ex.pure 2 (fr2 := (190, [some (.ref 0), some (.ref 1), some (.int l2), u3, some (.int l4), some (.int l5), some (.int l6), u7, some (.int l8), u9, u10, (xoi none), u12, u13, u14], [.int 1])) rfl ?_
        exact H
  | some v11 =>
    show Ex d [] tb_L_law (156, [some (.ref 0), some (.ref 1), some (.int l2), u3, some (.int l4), some (.int l5), some (.int l6), u7, some (.int l8), u9, u10, (xoi (some v11)), u12, u13, u14], []) h _
    refine Ex.pure 7 (fr2 := (167, [some (.ref 0), some (.ref 1), some (.int l2), u3, some (.int l4), some (.int l5), some (.int l6), u7, some (.int l8), u9, u10, (xoi (some v11)), u12, u13, u14], [.int 12, .int (l6 >>> ((12 : Int32) &&& 31)), .int l8, .int 0, .ref 1])) rfl ?_
    refine Ex.irem rfl (by decide) ?_
    refine Ex.pure 1 (fr2 := (169, [some (.ref 0), some (.ref 1), some (.int l2), u3, some (.int l4), some (.int l5), some (.int l6), u7, some (.int l8), u9, u10, (xoi (some v11)), u12, u13, u14], [.int 0, .int ((l6 >>> ((12 : Int32) &&& 31)) - (l6 >>> ((12 : Int32) &&& 31)) / 12 * 12), .int l8, .int 0, .ref 1])) rfl ?_
    refine Ex.cal (rest := []) (j := m_L_ask) (as := [.ref 1, .int 0, .int l8, .int ((l6 >>> ((12 : Int32) &&& 31)) - (l6 >>> ((12 : Int32) &&& 31)) / 12 * 12), .int 0]) (fun c => rfl) (H.imp ?_)
    intro rv h1 H
    obtain ⟨x2, rfl, H⟩ := H
    obtain ⟨y3, hs, H⟩ := H
    show Ex d [] tb_L_law (172, [some (.ref 0), some (.ref 1), some (.int l2), u3, some (.int l4), some (.int l5), some (.int l6), u7, some (.int l8), u9, u10, (xoi (some v11)), u12, u13, u14], [.int x2]) h1 _
    refine Ex.br (x := (189, [some (.ref 0), some (.ref 1), some (.int l2), u3, some (.int l4), some (.int l5), some (.int l6), u7, some (.int l8), u9, u10, (xoi (some v11)), u12, u13, u14], [])) (y := (175, [some (.ref 0), some (.ref 1), some (.int l2), u3, some (.int l4), some (.int l5), some (.int l6), u7, some (.int l8), u9, u10, (xoi (some v11)), u12, u13, u14], [])) (b := ¬ x2 = 0) rfl (fun hb => ?_) (fun hb => ?_)
    · replace H := H.1 (hb)
      exact H
    · replace H := H.2 (hb)
      refine Ex.pure 2 (fr2 := (178, [some (.ref 0), some (.ref 1), some (.int l2), u3, some (.int l4), some (.int l5), some (.int l6), u7, some (.int l8), u9, u10, (xoi (some v11)), u12, u13, u14], [.int l8, .ref 1])) rfl ?_
      refine Ex.cal (rest := []) (j := m_X6_kind) (as := [.ref 1, .int l8]) (vst (a := 68) (b := 2) (c := 5) (rest := []) (vs := [.int l8]) rfl ⟨Nat.le_of_ble_eq_true rfl, Nat.le_of_ble_eq_true rfl⟩ rfl rfl (sg_1 hs)) (H.imp ?_)
      intro rv h4 H
      obtain ⟨x5, rfl, H⟩ := H
      obtain ⟨y6, hs, H⟩ := H
      show Ex d [] tb_L_law (181, [some (.ref 0), some (.ref 1), some (.int l2), u3, some (.int l4), some (.int l5), some (.int l6), u7, some (.int l8), u9, u10, (xoi (some v11)), u12, u13, u14], [.int x5]) h4 _
      refine Ex.pure 1 (fr2 := (182, [some (.ref 0), some (.ref 1), some (.int l2), u3, some (.int l4), some (.int l5), some (.int l6), u7, some (.int l8), u9, u10, (xoi (some v11)), u12, u13, u14], [.int 1, .int x5])) rfl ?_
      refine Ex.br (x := (189, [some (.ref 0), some (.ref 1), some (.int l2), u3, some (.int l4), some (.int l5), some (.int l6), u7, some (.int l8), u9, u10, (xoi (some v11)), u12, u13, u14], [])) (y := (185, [some (.ref 0), some (.ref 1), some (.int l2), u3, some (.int l4), some (.int l5), some (.int l6), u7, some (.int l8), u9, u10, (xoi (some v11)), u12, u13, u14], [])) (b := ¬ x5 = 1) rfl (fun hb => ?_) (fun hb => ?_)
      · replace H := H.1 (hb)
        exact H
      · replace H := H.2 (hb)
        refine Ex.pure 2 (fr2 := (190, [some (.ref 0), some (.ref 1), some (.int l2), u3, some (.int l4), some (.int l5), some (.int l6), u7, some (.int l8), u9, u10, (xoi (some v11)), u12, u13, u14], [.int 1])) rfl ?_
        exact H
set_option maxRecDepth 100000 in
theorem w_L_law_189 {d : Nat} {h : XH} {y : Nat → Nat} {K : XK} {E : XE} {l2 : Int32} {u3 : Option Value} {l4 : Int32} {l5 : Int32} {u6 : Option Value} {u7 : Option Value} {l8 : Int32} {u9 : Option Value} {u10 : Option Value} {u11 : Option Int32} {u12 : Option Value} {u13 : Option Value} {u14 : Option Value} (hd : 70 ≤ d) (hs : Sg h.1 y) (H : b_L_law_190 d 0 1 l2 (u3) l4 l5 (u6) (u7) l8 (u9) (u10) u11 (u12) (u13) (u14) 0 h K E) : b_L_law_189 d 0 1 l2 u3 l4 l5 u6 u7 l8 u9 u10 u11 u12 u13 u14 h K E := by
  cases u11 with
  | none =>
    show Ex d [] tb_L_law (189, [some (.ref 0), some (.ref 1), some (.int l2), u3, some (.int l4), some (.int l5), u6, u7, some (.int l8), u9, u10, (xoi none), u12, u13, u14], []) h _
    refine Ex.pure 1 (fr2 := (190, [some (.ref 0), some (.ref 1), some (.int l2), u3, some (.int l4), some (.int l5), u6, u7, some (.int l8), u9, u10, (xoi none), u12, u13, u14], [.int 0])) rfl ?_
    exact H
  | some v11 =>
    show Ex d [] tb_L_law (189, [some (.ref 0), some (.ref 1), some (.int l2), u3, some (.int l4), some (.int l5), u6, u7, some (.int l8), u9, u10, (xoi (some v11)), u12, u13, u14], []) h _
    refine Ex.pure 1 (fr2 := (190, [some (.ref 0), some (.ref 1), some (.int l2), u3, some (.int l4), some (.int l5), u6, u7, some (.int l8), u9, u10, (xoi (some v11)), u12, u13, u14], [.int 0])) rfl ?_
    exact H
set_option maxRecDepth 100000 in
theorem w_L_law_190 {d : Nat} {h : XH} {y : Nat → Nat} {K : XK} {E : XE} {l2 : Int32} {u3 : Option Value} {l4 : Int32} {l5 : Int32} {u6 : Option Value} {u7 : Option Value} {l8 : Int32} {u9 : Option Value} {u10 : Option Value} {u11 : Option Int32} {u12 : Option Value} {u13 : Option Value} {u14 : Option Value} {s0 : Int32} (hd : 70 ≤ d) (hs : Sg h.1 y) (H : b_L_law_1266 d 0 1 l2 s0 l4 l5 (u6) (u7) l8 (u9) (u10) u11 (u12) (u13) (u14) h K E) : b_L_law_190 d 0 1 l2 u3 l4 l5 u6 u7 l8 u9 u10 u11 u12 u13 u14 s0 h K E := by
  cases u11 with
  | none =>
    show Ex d [] tb_L_law (190, [some (.ref 0), some (.ref 1), some (.int l2), u3, some (.int l4), some (.int l5), u6, u7, some (.int l8), u9, u10, (xoi none), u12, u13, u14], [.int s0]) h _
    refine Ex.pure 2 (fr2 := (1266, [some (.ref 0), some (.ref 1), some (.int l2), some (.int s0), some (.int l4), some (.int l5), u6, u7, some (.int l8), u9, u10, (xoi none), u12, u13, u14], [])) rfl ?_
    exact H
  | some v11 =>
    show Ex d [] tb_L_law (190, [some (.ref 0), some (.ref 1), some (.int l2), u3, some (.int l4), some (.int l5), u6, u7, some (.int l8), u9, u10, (xoi (some v11)), u12, u13, u14], [.int s0]) h _
    refine Ex.pure 2 (fr2 := (1266, [some (.ref 0), some (.ref 1), some (.int l2), some (.int s0), some (.int l4), some (.int l5), u6, u7, some (.int l8), u9, u10, (xoi (some v11)), u12, u13, u14], [])) rfl ?_
    exact H
set_option maxRecDepth 100000 in
theorem w_L_law_194 {d : Nat} {h : XH} {y : Nat → Nat} {K : XK} {E : XE} {l2 : Int32} {u3 : Option Value} {l4 : Int32} {l5 : Int32} {l6 : Int32} {l7 : Int32} {l8 : Int32} {l9 : Int32} {l10 : Int32} {l11 : Int32} {u12 : Option Value} {u13 : Option Value} {u14 : Option Value} (hd : 70 ≤ d) (hs : Sg h.1 y) (H : (¬ l11 = 1 → b_L_law_251 d 0 1 l2 (u3) l4 l5 l6 l7 l8 l9 l10 l11 (u12) (u13) (u14) h K E) ∧ (¬ (¬ l11 = 1) → (Ca d m_L_ask [.ref 1, .int 1, .int l8, .int (((l6 >>> ((12 : Int32) &&& 31)) - (l6 >>> ((12 : Int32) &&& 31)) / 4001 * 4001) - 2000), .int (((l6 >>> ((4 : Int32) &&& 31)) - (l6 >>> ((4 : Int32) &&& 31)) / 17 * 17) + 3)] h (fun rv h1 => ∃ x2, rv = some (.int x2) ∧ ∃ y3 : Nat → Nat, Sg h1.1 y3 ∧ (¬ x2 = 0 → b_L_law_246 d 0 1 l2 (u3) l4 l5 (some (.int l6)) (some (.int l7)) l8 (some (.int l9)) (some (.int l10)) (some l11) (u12) (u13) (u14) h1 K E) ∧ (¬ (¬ x2 = 0) → (Ca d m_X6_kind [.ref 1, .int l8] h1 (fun rv h4 => ∃ x5, rv = some (.int x5) ∧ ∃ y6 : Nat → Nat, Sg h4.1 y6 ∧ (¬ x5 = 2 → b_L_law_246 d 0 1 l2 (u3) l4 l5 (some (.int l6)) (some (.int l7)) l8 (some (.int l9)) (some (.int l10)) (some l11) (u12) (u13) (u14) h4 K E) ∧ (¬ (¬ x5 = 2) → b_L_law_247 d 0 1 l2 (u3) l4 l5 (some (.int l6)) (some (.int l7)) l8 (some (.int l9)) (some (.int l10)) (some l11) (u12) (u13) (u14) 1 h4 K E)) E))) E))) : b_L_law_194 d 0 1 l2 u3 l4 l5 l6 l7 l8 l9 l10 l11 u12 u13 u14 h K E := by
  show Ex d [] tb_L_law (194, [some (.ref 0), some (.ref 1), some (.int l2), u3, some (.int l4), some (.int l5), some (.int l6), some (.int l7), some (.int l8), some (.int l9), some (.int l10), some (.int l11), u12, u13, u14], []) h _
  refine Ex.pure 2 (fr2 := (197, [some (.ref 0), some (.ref 1), some (.int l2), u3, some (.int l4), some (.int l5), some (.int l6), some (.int l7), some (.int l8), some (.int l9), some (.int l10), some (.int l11), u12, u13, u14], [.int 1, .int l11])) rfl ?_
  refine Ex.br (x := (251, [some (.ref 0), some (.ref 1), some (.int l2), u3, some (.int l4), some (.int l5), some (.int l6), some (.int l7), some (.int l8), some (.int l9), some (.int l10), some (.int l11), u12, u13, u14], [])) (y := (200, [some (.ref 0), some (.ref 1), some (.int l2), u3, some (.int l4), some (.int l5), some (.int l6), some (.int l7), some (.int l8), some (.int l9), some (.int l10), some (.int l11), u12, u13, u14], [])) (b := ¬ l11 = 1) rfl (fun hb => ?_) (fun hb => ?_)
  · replace H := H.1 (hb)
    exact H
  · replace H := H.2 (hb)
    refine Ex.pure 7 (fr2 := (212, [some (.ref 0), some (.ref 1), some (.int l2), u3, some (.int l4), some (.int l5), some (.int l6), some (.int l7), some (.int l8), some (.int l9), some (.int l10), some (.int l11), u12, u13, u14], [.int 4001, .int (l6 >>> ((12 : Int32) &&& 31)), .int l8, .int 1, .ref 1])) rfl ?_
    refine Ex.irem rfl (by decide) ?_
    refine Ex.pure 6 (fr2 := (223, [some (.ref 0), some (.ref 1), some (.int l2), u3, some (.int l4), some (.int l5), some (.int l6), some (.int l7), some (.int l8), some (.int l9), some (.int l10), some (.int l11), u12, u13, u14], [.int 17, .int (l6 >>> ((4 : Int32) &&& 31)), .int (((l6 >>> ((12 : Int32) &&& 31)) - (l6 >>> ((12 : Int32) &&& 31)) / 4001 * 4001) - 2000), .int l8, .int 1, .ref 1])) rfl ?_
    refine Ex.irem rfl (by decide) ?_
    refine Ex.pure 2 (fr2 := (226, [some (.ref 0), some (.ref 1), some (.int l2), u3, some (.int l4), some (.int l5), some (.int l6), some (.int l7), some (.int l8), some (.int l9), some (.int l10), some (.int l11), u12, u13, u14], [.int (((l6 >>> ((4 : Int32) &&& 31)) - (l6 >>> ((4 : Int32) &&& 31)) / 17 * 17) + 3), .int (((l6 >>> ((12 : Int32) &&& 31)) - (l6 >>> ((12 : Int32) &&& 31)) / 4001 * 4001) - 2000), .int l8, .int 1, .ref 1])) rfl ?_
    refine Ex.cal (rest := []) (j := m_L_ask) (as := [.ref 1, .int 1, .int l8, .int (((l6 >>> ((12 : Int32) &&& 31)) - (l6 >>> ((12 : Int32) &&& 31)) / 4001 * 4001) - 2000), .int (((l6 >>> ((4 : Int32) &&& 31)) - (l6 >>> ((4 : Int32) &&& 31)) / 17 * 17) + 3)]) (fun c => rfl) (H.imp ?_)
    intro rv h1 H
    obtain ⟨x2, rfl, H⟩ := H
    obtain ⟨y3, hs, H⟩ := H
    show Ex d [] tb_L_law (229, [some (.ref 0), some (.ref 1), some (.int l2), u3, some (.int l4), some (.int l5), some (.int l6), some (.int l7), some (.int l8), some (.int l9), some (.int l10), some (.int l11), u12, u13, u14], [.int x2]) h1 _
    refine Ex.br (x := (246, [some (.ref 0), some (.ref 1), some (.int l2), u3, some (.int l4), some (.int l5), some (.int l6), some (.int l7), some (.int l8), some (.int l9), some (.int l10), some (.int l11), u12, u13, u14], [])) (y := (232, [some (.ref 0), some (.ref 1), some (.int l2), u3, some (.int l4), some (.int l5), some (.int l6), some (.int l7), some (.int l8), some (.int l9), some (.int l10), some (.int l11), u12, u13, u14], [])) (b := ¬ x2 = 0) rfl (fun hb => ?_) (fun hb => ?_)
    · replace H := H.1 (hb)
      exact H
    · replace H := H.2 (hb)
      refine Ex.pure 2 (fr2 := (235, [some (.ref 0), some (.ref 1), some (.int l2), u3, some (.int l4), some (.int l5), some (.int l6), some (.int l7), some (.int l8), some (.int l9), some (.int l10), some (.int l11), u12, u13, u14], [.int l8, .ref 1])) rfl ?_
      refine Ex.cal (rest := []) (j := m_X6_kind) (as := [.ref 1, .int l8]) (vst (a := 68) (b := 2) (c := 5) (rest := []) (vs := [.int l8]) rfl ⟨Nat.le_of_ble_eq_true rfl, Nat.le_of_ble_eq_true rfl⟩ rfl rfl (sg_1 hs)) (H.imp ?_)
      intro rv h4 H
      obtain ⟨x5, rfl, H⟩ := H
      obtain ⟨y6, hs, H⟩ := H
      show Ex d [] tb_L_law (238, [some (.ref 0), some (.ref 1), some (.int l2), u3, some (.int l4), some (.int l5), some (.int l6), some (.int l7), some (.int l8), some (.int l9), some (.int l10), some (.int l11), u12, u13, u14], [.int x5]) h4 _
      refine Ex.pure 1 (fr2 := (239, [some (.ref 0), some (.ref 1), some (.int l2), u3, some (.int l4), some (.int l5), some (.int l6), some (.int l7), some (.int l8), some (.int l9), some (.int l10), some (.int l11), u12, u13, u14], [.int 2, .int x5])) rfl ?_
      refine Ex.br (x := (246, [some (.ref 0), some (.ref 1), some (.int l2), u3, some (.int l4), some (.int l5), some (.int l6), some (.int l7), some (.int l8), some (.int l9), some (.int l10), some (.int l11), u12, u13, u14], [])) (y := (242, [some (.ref 0), some (.ref 1), some (.int l2), u3, some (.int l4), some (.int l5), some (.int l6), some (.int l7), some (.int l8), some (.int l9), some (.int l10), some (.int l11), u12, u13, u14], [])) (b := ¬ x5 = 2) rfl (fun hb => ?_) (fun hb => ?_)
      · replace H := H.1 (hb)
        exact H
      · replace H := H.2 (hb)
        refine Ex.pure 2 (fr2 := (247, [some (.ref 0), some (.ref 1), some (.int l2), u3, some (.int l4), some (.int l5), some (.int l6), some (.int l7), some (.int l8), some (.int l9), some (.int l10), some (.int l11), u12, u13, u14], [.int 1])) rfl ?_
        exact H
set_option maxRecDepth 100000 in
theorem w_L_law_246 {d : Nat} {h : XH} {y : Nat → Nat} {K : XK} {E : XE} {l2 : Int32} {u3 : Option Value} {l4 : Int32} {l5 : Int32} {u6 : Option Value} {u7 : Option Value} {l8 : Int32} {u9 : Option Value} {u10 : Option Value} {u11 : Option Int32} {u12 : Option Value} {u13 : Option Value} {u14 : Option Value} (hd : 70 ≤ d) (hs : Sg h.1 y) (H : b_L_law_247 d 0 1 l2 (u3) l4 l5 (u6) (u7) l8 (u9) (u10) u11 (u12) (u13) (u14) 0 h K E) : b_L_law_246 d 0 1 l2 u3 l4 l5 u6 u7 l8 u9 u10 u11 u12 u13 u14 h K E := by
  cases u11 with
  | none =>
    show Ex d [] tb_L_law (246, [some (.ref 0), some (.ref 1), some (.int l2), u3, some (.int l4), some (.int l5), u6, u7, some (.int l8), u9, u10, (xoi none), u12, u13, u14], []) h _
    refine Ex.pure 1 (fr2 := (247, [some (.ref 0), some (.ref 1), some (.int l2), u3, some (.int l4), some (.int l5), u6, u7, some (.int l8), u9, u10, (xoi none), u12, u13, u14], [.int 0])) rfl ?_
    exact H
  | some v11 =>
    show Ex d [] tb_L_law (246, [some (.ref 0), some (.ref 1), some (.int l2), u3, some (.int l4), some (.int l5), u6, u7, some (.int l8), u9, u10, (xoi (some v11)), u12, u13, u14], []) h _
    refine Ex.pure 1 (fr2 := (247, [some (.ref 0), some (.ref 1), some (.int l2), u3, some (.int l4), some (.int l5), u6, u7, some (.int l8), u9, u10, (xoi (some v11)), u12, u13, u14], [.int 0])) rfl ?_
    exact H
set_option maxRecDepth 100000 in
theorem w_L_law_247 {d : Nat} {h : XH} {y : Nat → Nat} {K : XK} {E : XE} {l2 : Int32} {u3 : Option Value} {l4 : Int32} {l5 : Int32} {u6 : Option Value} {u7 : Option Value} {l8 : Int32} {u9 : Option Value} {u10 : Option Value} {u11 : Option Int32} {u12 : Option Value} {u13 : Option Value} {u14 : Option Value} {s0 : Int32} (hd : 70 ≤ d) (hs : Sg h.1 y) (H : b_L_law_1266 d 0 1 l2 s0 l4 l5 (u6) (u7) l8 (u9) (u10) u11 (u12) (u13) (u14) h K E) : b_L_law_247 d 0 1 l2 u3 l4 l5 u6 u7 l8 u9 u10 u11 u12 u13 u14 s0 h K E := by
  cases u11 with
  | none =>
    show Ex d [] tb_L_law (247, [some (.ref 0), some (.ref 1), some (.int l2), u3, some (.int l4), some (.int l5), u6, u7, some (.int l8), u9, u10, (xoi none), u12, u13, u14], [.int s0]) h _
    refine Ex.pure 2 (fr2 := (1266, [some (.ref 0), some (.ref 1), some (.int l2), some (.int s0), some (.int l4), some (.int l5), u6, u7, some (.int l8), u9, u10, (xoi none), u12, u13, u14], [])) rfl ?_
    exact H
  | some v11 =>
    show Ex d [] tb_L_law (247, [some (.ref 0), some (.ref 1), some (.int l2), u3, some (.int l4), some (.int l5), u6, u7, some (.int l8), u9, u10, (xoi (some v11)), u12, u13, u14], [.int s0]) h _
    refine Ex.pure 2 (fr2 := (1266, [some (.ref 0), some (.ref 1), some (.int l2), some (.int s0), some (.int l4), some (.int l5), u6, u7, some (.int l8), u9, u10, (xoi (some v11)), u12, u13, u14], [])) rfl ?_
    exact H
set_option maxRecDepth 100000 in
theorem w_L_law_251 {d : Nat} {h : XH} {y : Nat → Nat} {K : XK} {E : XE} {l2 : Int32} {u3 : Option Value} {l4 : Int32} {l5 : Int32} {l6 : Int32} {l7 : Int32} {l8 : Int32} {l9 : Int32} {l10 : Int32} {l11 : Int32} {u12 : Option Value} {u13 : Option Value} {u14 : Option Value} (hd : 70 ≤ d) (hs : Sg h.1 y) (H : (¬ l11 = 2 → b_L_law_330 d 0 1 l2 (u3) l4 l5 l6 l7 l8 l9 l10 (some l11) (u12) (u13) (u14) h K E) ∧ (¬ (¬ l11 = 2) → (Ca d m_L_term [.ref 1, .int l8, .int (((l6 >>> ((12 : Int32) &&& 31)) - (l6 >>> ((12 : Int32) &&& 31)) / 7 * 7) - 3), .int (((l6 >>> ((4 : Int32) &&& 31)) - (l6 >>> ((4 : Int32) &&& 31)) / 3 * 3) - 1), .int (((l6 >>> ((8 : Int32) &&& 31)) - (l6 >>> ((8 : Int32) &&& 31)) / 5 * 5) - 2), .int (((l6 >>> ((15 : Int32) &&& 31)) - (l6 >>> ((15 : Int32) &&& 31)) / 3 * 3) - 1), .int (((l6 >>> ((17 : Int32) &&& 31)) - (l6 >>> ((17 : Int32) &&& 31)) / 3 * 3) - 1)] h (fun rv h1 => ∃ x2, rv = some (.int x2) ∧ ∃ y3 : Nat → Nat, Sg h1.1 y3 ∧ (¬ x2 = 0 → b_L_law_325 d 0 1 l2 (u3) l4 l5 (some (.int l6)) (some (.int l7)) l8 (some (.int l9)) (some (.int l10)) (some l11) (u12) (u13) (u14) h1 K E) ∧ (¬ (¬ x2 = 0) → (Ca d m_X6_kind [.ref 1, .int l8] h1 (fun rv h4 => ∃ x5, rv = some (.int x5) ∧ ∃ y6 : Nat → Nat, Sg h4.1 y6 ∧ (¬ x5 = 3 → b_L_law_325 d 0 1 l2 (u3) l4 l5 (some (.int l6)) (some (.int l7)) l8 (some (.int l9)) (some (.int l10)) (some l11) (u12) (u13) (u14) h4 K E) ∧ (¬ (¬ x5 = 3) → b_L_law_326 d 0 1 l2 (u3) l4 l5 (some (.int l6)) (some (.int l7)) l8 (some (.int l9)) (some (.int l10)) (some l11) (u12) (u13) (u14) 1 h4 K E)) E))) E))) : b_L_law_251 d 0 1 l2 u3 l4 l5 l6 l7 l8 l9 l10 l11 u12 u13 u14 h K E := by
  show Ex d [] tb_L_law (251, [some (.ref 0), some (.ref 1), some (.int l2), u3, some (.int l4), some (.int l5), some (.int l6), some (.int l7), some (.int l8), some (.int l9), some (.int l10), some (.int l11), u12, u13, u14], []) h _
  refine Ex.pure 2 (fr2 := (254, [some (.ref 0), some (.ref 1), some (.int l2), u3, some (.int l4), some (.int l5), some (.int l6), some (.int l7), some (.int l8), some (.int l9), some (.int l10), some (.int l11), u12, u13, u14], [.int 2, .int l11])) rfl ?_
  refine Ex.br (x := (330, [some (.ref 0), some (.ref 1), some (.int l2), u3, some (.int l4), some (.int l5), some (.int l6), some (.int l7), some (.int l8), some (.int l9), some (.int l10), some (.int l11), u12, u13, u14], [])) (y := (257, [some (.ref 0), some (.ref 1), some (.int l2), u3, some (.int l4), some (.int l5), some (.int l6), some (.int l7), some (.int l8), some (.int l9), some (.int l10), some (.int l11), u12, u13, u14], [])) (b := ¬ l11 = 2) rfl (fun hb => ?_) (fun hb => ?_)
  · replace H := H.1 (hb)
    exact H
  · replace H := H.2 (hb)
    refine Ex.pure 6 (fr2 := (267, [some (.ref 0), some (.ref 1), some (.int l2), u3, some (.int l4), some (.int l5), some (.int l6), some (.int l7), some (.int l8), some (.int l9), some (.int l10), some (.int l11), u12, u13, u14], [.int 7, .int (l6 >>> ((12 : Int32) &&& 31)), .int l8, .ref 1])) rfl ?_
    refine Ex.irem rfl (by decide) ?_
    refine Ex.pure 6 (fr2 := (275, [some (.ref 0), some (.ref 1), some (.int l2), u3, some (.int l4), some (.int l5), some (.int l6), some (.int l7), some (.int l8), some (.int l9), some (.int l10), some (.int l11), u12, u13, u14], [.int 3, .int (l6 >>> ((4 : Int32) &&& 31)), .int (((l6 >>> ((12 : Int32) &&& 31)) - (l6 >>> ((12 : Int32) &&& 31)) / 7 * 7) - 3), .int l8, .ref 1])) rfl ?_
    refine Ex.irem rfl (by decide) ?_
    refine Ex.pure 6 (fr2 := (284, [some (.ref 0), some (.ref 1), some (.int l2), u3, some (.int l4), some (.int l5), some (.int l6), some (.int l7), some (.int l8), some (.int l9), some (.int l10), some (.int l11), u12, u13, u14], [.int 5, .int (l6 >>> ((8 : Int32) &&& 31)), .int (((l6 >>> ((4 : Int32) &&& 31)) - (l6 >>> ((4 : Int32) &&& 31)) / 3 * 3) - 1), .int (((l6 >>> ((12 : Int32) &&& 31)) - (l6 >>> ((12 : Int32) &&& 31)) / 7 * 7) - 3), .int l8, .ref 1])) rfl ?_
    refine Ex.irem rfl (by decide) ?_
    refine Ex.pure 6 (fr2 := (293, [some (.ref 0), some (.ref 1), some (.int l2), u3, some (.int l4), some (.int l5), some (.int l6), some (.int l7), some (.int l8), some (.int l9), some (.int l10), some (.int l11), u12, u13, u14], [.int 3, .int (l6 >>> ((15 : Int32) &&& 31)), .int (((l6 >>> ((8 : Int32) &&& 31)) - (l6 >>> ((8 : Int32) &&& 31)) / 5 * 5) - 2), .int (((l6 >>> ((4 : Int32) &&& 31)) - (l6 >>> ((4 : Int32) &&& 31)) / 3 * 3) - 1), .int (((l6 >>> ((12 : Int32) &&& 31)) - (l6 >>> ((12 : Int32) &&& 31)) / 7 * 7) - 3), .int l8, .ref 1])) rfl ?_
    refine Ex.irem rfl (by decide) ?_
    refine Ex.pure 6 (fr2 := (302, [some (.ref 0), some (.ref 1), some (.int l2), u3, some (.int l4), some (.int l5), some (.int l6), some (.int l7), some (.int l8), some (.int l9), some (.int l10), some (.int l11), u12, u13, u14], [.int 3, .int (l6 >>> ((17 : Int32) &&& 31)), .int (((l6 >>> ((15 : Int32) &&& 31)) - (l6 >>> ((15 : Int32) &&& 31)) / 3 * 3) - 1), .int (((l6 >>> ((8 : Int32) &&& 31)) - (l6 >>> ((8 : Int32) &&& 31)) / 5 * 5) - 2), .int (((l6 >>> ((4 : Int32) &&& 31)) - (l6 >>> ((4 : Int32) &&& 31)) / 3 * 3) - 1), .int (((l6 >>> ((12 : Int32) &&& 31)) - (l6 >>> ((12 : Int32) &&& 31)) / 7 * 7) - 3), .int l8, .ref 1])) rfl ?_
    refine Ex.irem rfl (by decide) ?_
    refine Ex.pure 2 (fr2 := (305, [some (.ref 0), some (.ref 1), some (.int l2), u3, some (.int l4), some (.int l5), some (.int l6), some (.int l7), some (.int l8), some (.int l9), some (.int l10), some (.int l11), u12, u13, u14], [.int (((l6 >>> ((17 : Int32) &&& 31)) - (l6 >>> ((17 : Int32) &&& 31)) / 3 * 3) - 1), .int (((l6 >>> ((15 : Int32) &&& 31)) - (l6 >>> ((15 : Int32) &&& 31)) / 3 * 3) - 1), .int (((l6 >>> ((8 : Int32) &&& 31)) - (l6 >>> ((8 : Int32) &&& 31)) / 5 * 5) - 2), .int (((l6 >>> ((4 : Int32) &&& 31)) - (l6 >>> ((4 : Int32) &&& 31)) / 3 * 3) - 1), .int (((l6 >>> ((12 : Int32) &&& 31)) - (l6 >>> ((12 : Int32) &&& 31)) / 7 * 7) - 3), .int l8, .ref 1])) rfl ?_
    refine Ex.cal (rest := []) (j := m_L_term) (as := [.ref 1, .int l8, .int (((l6 >>> ((12 : Int32) &&& 31)) - (l6 >>> ((12 : Int32) &&& 31)) / 7 * 7) - 3), .int (((l6 >>> ((4 : Int32) &&& 31)) - (l6 >>> ((4 : Int32) &&& 31)) / 3 * 3) - 1), .int (((l6 >>> ((8 : Int32) &&& 31)) - (l6 >>> ((8 : Int32) &&& 31)) / 5 * 5) - 2), .int (((l6 >>> ((15 : Int32) &&& 31)) - (l6 >>> ((15 : Int32) &&& 31)) / 3 * 3) - 1), .int (((l6 >>> ((17 : Int32) &&& 31)) - (l6 >>> ((17 : Int32) &&& 31)) / 3 * 3) - 1)]) (fun c => rfl) (H.imp ?_)
    intro rv h1 H
    obtain ⟨x2, rfl, H⟩ := H
    obtain ⟨y3, hs, H⟩ := H
    show Ex d [] tb_L_law (308, [some (.ref 0), some (.ref 1), some (.int l2), u3, some (.int l4), some (.int l5), some (.int l6), some (.int l7), some (.int l8), some (.int l9), some (.int l10), some (.int l11), u12, u13, u14], [.int x2]) h1 _
    refine Ex.br (x := (325, [some (.ref 0), some (.ref 1), some (.int l2), u3, some (.int l4), some (.int l5), some (.int l6), some (.int l7), some (.int l8), some (.int l9), some (.int l10), some (.int l11), u12, u13, u14], [])) (y := (311, [some (.ref 0), some (.ref 1), some (.int l2), u3, some (.int l4), some (.int l5), some (.int l6), some (.int l7), some (.int l8), some (.int l9), some (.int l10), some (.int l11), u12, u13, u14], [])) (b := ¬ x2 = 0) rfl (fun hb => ?_) (fun hb => ?_)
    · replace H := H.1 (hb)
      exact H
    · replace H := H.2 (hb)
      refine Ex.pure 2 (fr2 := (314, [some (.ref 0), some (.ref 1), some (.int l2), u3, some (.int l4), some (.int l5), some (.int l6), some (.int l7), some (.int l8), some (.int l9), some (.int l10), some (.int l11), u12, u13, u14], [.int l8, .ref 1])) rfl ?_
      refine Ex.cal (rest := []) (j := m_X6_kind) (as := [.ref 1, .int l8]) (vst (a := 68) (b := 2) (c := 5) (rest := []) (vs := [.int l8]) rfl ⟨Nat.le_of_ble_eq_true rfl, Nat.le_of_ble_eq_true rfl⟩ rfl rfl (sg_1 hs)) (H.imp ?_)
      intro rv h4 H
      obtain ⟨x5, rfl, H⟩ := H
      obtain ⟨y6, hs, H⟩ := H
      show Ex d [] tb_L_law (317, [some (.ref 0), some (.ref 1), some (.int l2), u3, some (.int l4), some (.int l5), some (.int l6), some (.int l7), some (.int l8), some (.int l9), some (.int l10), some (.int l11), u12, u13, u14], [.int x5]) h4 _
      refine Ex.pure 1 (fr2 := (318, [some (.ref 0), some (.ref 1), some (.int l2), u3, some (.int l4), some (.int l5), some (.int l6), some (.int l7), some (.int l8), some (.int l9), some (.int l10), some (.int l11), u12, u13, u14], [.int 3, .int x5])) rfl ?_
      refine Ex.br (x := (325, [some (.ref 0), some (.ref 1), some (.int l2), u3, some (.int l4), some (.int l5), some (.int l6), some (.int l7), some (.int l8), some (.int l9), some (.int l10), some (.int l11), u12, u13, u14], [])) (y := (321, [some (.ref 0), some (.ref 1), some (.int l2), u3, some (.int l4), some (.int l5), some (.int l6), some (.int l7), some (.int l8), some (.int l9), some (.int l10), some (.int l11), u12, u13, u14], [])) (b := ¬ x5 = 3) rfl (fun hb => ?_) (fun hb => ?_)
      · replace H := H.1 (hb)
        exact H
      · replace H := H.2 (hb)
        refine Ex.pure 2 (fr2 := (326, [some (.ref 0), some (.ref 1), some (.int l2), u3, some (.int l4), some (.int l5), some (.int l6), some (.int l7), some (.int l8), some (.int l9), some (.int l10), some (.int l11), u12, u13, u14], [.int 1])) rfl ?_
        exact H
set_option maxRecDepth 100000 in
theorem w_L_law_325 {d : Nat} {h : XH} {y : Nat → Nat} {K : XK} {E : XE} {l2 : Int32} {u3 : Option Value} {l4 : Int32} {l5 : Int32} {u6 : Option Value} {u7 : Option Value} {l8 : Int32} {u9 : Option Value} {u10 : Option Value} {u11 : Option Int32} {u12 : Option Value} {u13 : Option Value} {u14 : Option Value} (hd : 70 ≤ d) (hs : Sg h.1 y) (H : b_L_law_326 d 0 1 l2 (u3) l4 l5 (u6) (u7) l8 (u9) (u10) u11 (u12) (u13) (u14) 0 h K E) : b_L_law_325 d 0 1 l2 u3 l4 l5 u6 u7 l8 u9 u10 u11 u12 u13 u14 h K E := by
  cases u11 with
  | none =>
    show Ex d [] tb_L_law (325, [some (.ref 0), some (.ref 1), some (.int l2), u3, some (.int l4), some (.int l5), u6, u7, some (.int l8), u9, u10, (xoi none), u12, u13, u14], []) h _
    refine Ex.pure 1 (fr2 := (326, [some (.ref 0), some (.ref 1), some (.int l2), u3, some (.int l4), some (.int l5), u6, u7, some (.int l8), u9, u10, (xoi none), u12, u13, u14], [.int 0])) rfl ?_
    exact H
  | some v11 =>
    show Ex d [] tb_L_law (325, [some (.ref 0), some (.ref 1), some (.int l2), u3, some (.int l4), some (.int l5), u6, u7, some (.int l8), u9, u10, (xoi (some v11)), u12, u13, u14], []) h _
    refine Ex.pure 1 (fr2 := (326, [some (.ref 0), some (.ref 1), some (.int l2), u3, some (.int l4), some (.int l5), u6, u7, some (.int l8), u9, u10, (xoi (some v11)), u12, u13, u14], [.int 0])) rfl ?_
    exact H
set_option maxRecDepth 100000 in
theorem w_L_law_326 {d : Nat} {h : XH} {y : Nat → Nat} {K : XK} {E : XE} {l2 : Int32} {u3 : Option Value} {l4 : Int32} {l5 : Int32} {u6 : Option Value} {u7 : Option Value} {l8 : Int32} {u9 : Option Value} {u10 : Option Value} {u11 : Option Int32} {u12 : Option Value} {u13 : Option Value} {u14 : Option Value} {s0 : Int32} (hd : 70 ≤ d) (hs : Sg h.1 y) (H : b_L_law_1266 d 0 1 l2 s0 l4 l5 (u6) (u7) l8 (u9) (u10) u11 (u12) (u13) (u14) h K E) : b_L_law_326 d 0 1 l2 u3 l4 l5 u6 u7 l8 u9 u10 u11 u12 u13 u14 s0 h K E := by
  cases u11 with
  | none =>
    show Ex d [] tb_L_law (326, [some (.ref 0), some (.ref 1), some (.int l2), u3, some (.int l4), some (.int l5), u6, u7, some (.int l8), u9, u10, (xoi none), u12, u13, u14], [.int s0]) h _
    refine Ex.pure 2 (fr2 := (1266, [some (.ref 0), some (.ref 1), some (.int l2), some (.int s0), some (.int l4), some (.int l5), u6, u7, some (.int l8), u9, u10, (xoi none), u12, u13, u14], [])) rfl ?_
    exact H
  | some v11 =>
    show Ex d [] tb_L_law (326, [some (.ref 0), some (.ref 1), some (.int l2), u3, some (.int l4), some (.int l5), u6, u7, some (.int l8), u9, u10, (xoi (some v11)), u12, u13, u14], [.int s0]) h _
    refine Ex.pure 2 (fr2 := (1266, [some (.ref 0), some (.ref 1), some (.int l2), some (.int s0), some (.int l4), some (.int l5), u6, u7, some (.int l8), u9, u10, (xoi (some v11)), u12, u13, u14], [])) rfl ?_
    exact H
set_option maxRecDepth 100000 in
theorem w_L_law_330 {d : Nat} {h : XH} {y : Nat → Nat} {K : XK} {E : XE} {l2 : Int32} {u3 : Option Value} {l4 : Int32} {l5 : Int32} {l6 : Int32} {l7 : Int32} {l8 : Int32} {l9 : Int32} {l10 : Int32} {u11 : Option Int32} {u12 : Option Value} {u13 : Option Value} {u14 : Option Value} (hd : 70 ≤ d) (hs : Sg h.1 y) (H : (8 ≤ l7 → b_L_law_411 d 0 1 l2 (u3) l4 l5 l6 l7 l8 l9 l10 u11 (u12) (u13) (u14) h K E) ∧ (¬ (8 ≤ l7) → (Ca d m_L_ask [.ref 1, .int 3, .int l8, .int l9, .int 0] h (fun rv h1 => ∃ x2, rv = some (.int x2) ∧ ∃ y3 : Nat → Nat, Sg h1.1 y3 ∧ (¬ x2 = 0 → (¬ x2 = (-1013) → b_L_law_407 d 0 1 l2 (u3) l4 l5 (some (.int l6)) (some (.int l7)) l8 (some (.int l9)) (some (.int l10)) u11 (some (.int x2)) (u13) (u14) 0 h1 K E) ∧ (¬ (¬ x2 = (-1013)) → b_L_law_407 d 0 1 l2 (u3) l4 l5 (some (.int l6)) (some (.int l7)) l8 (some (.int l9)) (some (.int l10)) u11 (some (.int x2)) (u13) (u14) 1 h1 K E)) ∧ (¬ (¬ x2 = 0) → (Ca d m_X6_kind [.ref 1, .int l8] h1 (fun rv h4 => ∃ x5, rv = some (.int x5) ∧ ∃ y6 : Nat → Nat, Sg h4.1 y6 ∧ (¬ x5 = 1 → b_L_law_390 d 0 1 l2 (u3) l4 l5 (some (.int l6)) (some (.int l7)) l8 (some (.int l9)) (some (.int l10)) u11 (some (.int x2)) (u13) (u14) h4 K E) ∧ (¬ (¬ x5 = 1) → (Ca d m_X6_powers [.ref 1, .int l8] h4 (fun rv h7 => ∃ x8, rv = some (.int x8) ∧ ∃ y9 : Nat → Nat, Sg h7.1 y9 ∧ (¬ x8 = 1 → b_L_law_390 d 0 1 l2 (u3) l4 l5 (some (.int l6)) (some (.int l7)) l8 (some (.int l9)) (some (.int l10)) u11 (some (.int x2)) (u13) (u14) h7 K E) ∧ (¬ (¬ x8 = 1) → (Ca d m_X6_times [.ref 1, .int l8, .int 0] h7 (fun rv h10 => ∃ x11, rv = some (.long x11) ∧ ∃ y12 : Nat → Nat, Sg h10.1 y12 ∧ (¬ x11 = 1 → b_L_law_390 d 0 1 l2 (u3) l4 l5 (some (.int l6)) (some (.int l7)) l8 (some (.int l9)) (some (.int l10)) u11 (some (.int x2)) (u13) (u14) h10 K E) ∧ (¬ (¬ x11 = 1) → b_L_law_407 d 0 1 l2 (u3) l4 l5 (some (.int l6)) (some (.int l7)) l8 (some (.int l9)) (some (.int l10)) u11 (some (.int x2)) (u13) (u14) 1 h10 K E)) E))) E))) E))) E))) : b_L_law_330 d 0 1 l2 u3 l4 l5 l6 l7 l8 l9 l10 u11 u12 u13 u14 h K E := by
  cases u11 with
  | none =>
    show Ex d [] tb_L_law (330, [some (.ref 0), some (.ref 1), some (.int l2), u3, some (.int l4), some (.int l5), some (.int l6), some (.int l7), some (.int l8), some (.int l9), some (.int l10), (xoi none), u12, u13, u14], []) h _
    refine Ex.pure 2 (fr2 := (334, [some (.ref 0), some (.ref 1), some (.int l2), u3, some (.int l4), some (.int l5), some (.int l6), some (.int l7), some (.int l8), some (.int l9), some (.int l10), (xoi none), u12, u13, u14], [.int 8, .int l7])) rfl ?_
    refine Ex.br (x := (411, [some (.ref 0), some (.ref 1), some (.int l2), u3, some (.int l4), some (.int l5), some (.int l6), some (.int l7), some (.int l8), some (.int l9), some (.int l10), (xoi none), u12, u13, u14], [])) (y := (337, [some (.ref 0), some (.ref 1), some (.int l2), u3, some (.int l4), some (.int l5), some (.int l6), some (.int l7), some (.int l8), some (.int l9), some (.int l10), (xoi none), u12, u13, u14], [])) (b := 8 ≤ l7) rfl (fun hb => ?_) (fun hb => ?_)
    · replace H := H.1 (hb)
      exact H
    · replace H := H.2 (hb)
      refine Ex.pure 5 (fr2 := (344, [some (.ref 0), some (.ref 1), some (.int l2), u3, some (.int l4), some (.int l5), some (.int l6), some (.int l7), some (.int l8), some (.int l9), some (.int l10), (xoi none), u12, u13, u14], [.int 0, .int l9, .int l8, .int 3, .ref 1])) rfl ?_
      refine Ex.cal (rest := []) (j := m_L_ask) (as := [.ref 1, .int 3, .int l8, .int l9, .int 0]) (fun c => rfl) (H.imp ?_)
      intro rv h1 H
      obtain ⟨x2, rfl, H⟩ := H
      obtain ⟨y3, hs, H⟩ := H
      show Ex d [] tb_L_law (347, [some (.ref 0), some (.ref 1), some (.int l2), u3, some (.int l4), some (.int l5), some (.int l6), some (.int l7), some (.int l8), some (.int l9), some (.int l10), (xoi none), u12, u13, u14], [.int x2]) h1 _
      refine Ex.pure 2 (fr2 := (351, [some (.ref 0), some (.ref 1), some (.int l2), u3, some (.int l4), some (.int l5), some (.int l6), some (.int l7), some (.int l8), some (.int l9), some (.int l10), (xoi none), some (.int x2), u13, u14], [.int x2])) rfl ?_
      refine Ex.br (x := (394, [some (.ref 0), some (.ref 1), some (.int l2), u3, some (.int l4), some (.int l5), some (.int l6), some (.int l7), some (.int l8), some (.int l9), some (.int l10), (xoi none), some (.int x2), u13, u14], [])) (y := (354, [some (.ref 0), some (.ref 1), some (.int l2), u3, some (.int l4), some (.int l5), some (.int l6), some (.int l7), some (.int l8), some (.int l9), some (.int l10), (xoi none), some (.int x2), u13, u14], [])) (b := ¬ x2 = 0) rfl (fun hb => ?_) (fun hb => ?_)
      · replace H := H.1 (hb)
        refine Ex.pure 2 (fr2 := (399, [some (.ref 0), some (.ref 1), some (.int l2), u3, some (.int l4), some (.int l5), some (.int l6), some (.int l7), some (.int l8), some (.int l9), some (.int l10), (xoi none), some (.int x2), u13, u14], [.int (-1013), .int x2])) rfl ?_
        refine Ex.br (x := (406, [some (.ref 0), some (.ref 1), some (.int l2), u3, some (.int l4), some (.int l5), some (.int l6), some (.int l7), some (.int l8), some (.int l9), some (.int l10), (xoi none), some (.int x2), u13, u14], [])) (y := (402, [some (.ref 0), some (.ref 1), some (.int l2), u3, some (.int l4), some (.int l5), some (.int l6), some (.int l7), some (.int l8), some (.int l9), some (.int l10), (xoi none), some (.int x2), u13, u14], [])) (b := ¬ x2 = (-1013)) rfl (fun hb => ?_) (fun hb => ?_)
        · replace H := H.1 (hb)
          refine Ex.pure 1 (fr2 := (407, [some (.ref 0), some (.ref 1), some (.int l2), u3, some (.int l4), some (.int l5), some (.int l6), some (.int l7), some (.int l8), some (.int l9), some (.int l10), (xoi none), some (.int x2), u13, u14], [.int 0])) rfl ?_
          exact H
        · replace H := H.2 (hb)
          refine Ex.pure 2 (fr2 := (407, [some (.ref 0), some (.ref 1), some (.int l2), u3, some (.int l4), some (.int l5), some (.int l6), some (.int l7), some (.int l8), some (.int l9), some (.int l10), (xoi none), some (.int x2), u13, u14], [.int 1])) rfl ?_
          exact H
      · replace H := H.2 (hb)
        refine Ex.pure 2 (fr2 := (357, [some (.ref 0), some (.ref 1), some (.int l2), u3, some (.int l4), some (.int l5), some (.int l6), some (.int l7), some (.int l8), some (.int l9), some (.int l10), (xoi none), some (.int x2), u13, u14], [.int l8, .ref 1])) rfl ?_
        refine Ex.cal (rest := []) (j := m_X6_kind) (as := [.ref 1, .int l8]) (vst (a := 68) (b := 2) (c := 5) (rest := []) (vs := [.int l8]) rfl ⟨Nat.le_of_ble_eq_true rfl, Nat.le_of_ble_eq_true rfl⟩ rfl rfl (sg_1 hs)) (H.imp ?_)
        intro rv h4 H
        obtain ⟨x5, rfl, H⟩ := H
        obtain ⟨y6, hs, H⟩ := H
        show Ex d [] tb_L_law (360, [some (.ref 0), some (.ref 1), some (.int l2), u3, some (.int l4), some (.int l5), some (.int l6), some (.int l7), some (.int l8), some (.int l9), some (.int l10), (xoi none), some (.int x2), u13, u14], [.int x5]) h4 _
        refine Ex.pure 1 (fr2 := (361, [some (.ref 0), some (.ref 1), some (.int l2), u3, some (.int l4), some (.int l5), some (.int l6), some (.int l7), some (.int l8), some (.int l9), some (.int l10), (xoi none), some (.int x2), u13, u14], [.int 1, .int x5])) rfl ?_
        refine Ex.br (x := (390, [some (.ref 0), some (.ref 1), some (.int l2), u3, some (.int l4), some (.int l5), some (.int l6), some (.int l7), some (.int l8), some (.int l9), some (.int l10), (xoi none), some (.int x2), u13, u14], [])) (y := (364, [some (.ref 0), some (.ref 1), some (.int l2), u3, some (.int l4), some (.int l5), some (.int l6), some (.int l7), some (.int l8), some (.int l9), some (.int l10), (xoi none), some (.int x2), u13, u14], [])) (b := ¬ x5 = 1) rfl (fun hb => ?_) (fun hb => ?_)
        · replace H := H.1 (hb)
          exact H
        · replace H := H.2 (hb)
          refine Ex.pure 2 (fr2 := (367, [some (.ref 0), some (.ref 1), some (.int l2), u3, some (.int l4), some (.int l5), some (.int l6), some (.int l7), some (.int l8), some (.int l9), some (.int l10), (xoi none), some (.int x2), u13, u14], [.int l8, .ref 1])) rfl ?_
          refine Ex.cal (rest := []) (j := m_X6_powers) (as := [.ref 1, .int l8]) (vst (a := 82) (b := 2) (c := 5) (rest := []) (vs := [.int l8]) rfl ⟨Nat.le_of_ble_eq_true rfl, Nat.le_of_ble_eq_true rfl⟩ rfl rfl (sg_1 hs)) (H.imp ?_)
          intro rv h7 H
          obtain ⟨x8, rfl, H⟩ := H
          obtain ⟨y9, hs, H⟩ := H
          show Ex d [] tb_L_law (370, [some (.ref 0), some (.ref 1), some (.int l2), u3, some (.int l4), some (.int l5), some (.int l6), some (.int l7), some (.int l8), some (.int l9), some (.int l10), (xoi none), some (.int x2), u13, u14], [.int x8]) h7 _
          refine Ex.pure 1 (fr2 := (371, [some (.ref 0), some (.ref 1), some (.int l2), u3, some (.int l4), some (.int l5), some (.int l6), some (.int l7), some (.int l8), some (.int l9), some (.int l10), (xoi none), some (.int x2), u13, u14], [.int 1, .int x8])) rfl ?_
          refine Ex.br (x := (390, [some (.ref 0), some (.ref 1), some (.int l2), u3, some (.int l4), some (.int l5), some (.int l6), some (.int l7), some (.int l8), some (.int l9), some (.int l10), (xoi none), some (.int x2), u13, u14], [])) (y := (374, [some (.ref 0), some (.ref 1), some (.int l2), u3, some (.int l4), some (.int l5), some (.int l6), some (.int l7), some (.int l8), some (.int l9), some (.int l10), (xoi none), some (.int x2), u13, u14], [])) (b := ¬ x8 = 1) rfl (fun hb => ?_) (fun hb => ?_)
          · replace H := H.1 (hb)
            exact H
          · replace H := H.2 (hb)
            refine Ex.pure 3 (fr2 := (378, [some (.ref 0), some (.ref 1), some (.int l2), u3, some (.int l4), some (.int l5), some (.int l6), some (.int l7), some (.int l8), some (.int l9), some (.int l10), (xoi none), some (.int x2), u13, u14], [.int 0, .int l8, .ref 1])) rfl ?_
            refine Ex.cal (rest := []) (j := m_X6_times) (as := [.ref 1, .int l8, .int 0]) (vst (a := 83) (b := 3) (c := 5) (rest := []) (vs := [.int l8, .int 0]) rfl ⟨Nat.le_of_ble_eq_true rfl, Nat.le_of_ble_eq_true rfl⟩ rfl rfl (sg_1 hs)) (H.imp ?_)
            intro rv h10 H
            obtain ⟨x11, rfl, H⟩ := H
            obtain ⟨y12, hs, H⟩ := H
            show Ex d [] tb_L_law (381, [some (.ref 0), some (.ref 1), some (.int l2), u3, some (.int l4), some (.int l5), some (.int l6), some (.int l7), some (.int l8), some (.int l9), some (.int l10), (xoi none), some (.int x2), u13, u14], [.long x11]) h10 _
            refine Ex.pure 2 (fr2 := (383, [some (.ref 0), some (.ref 1), some (.int l2), u3, some (.int l4), some (.int l5), some (.int l6), some (.int l7), some (.int l8), some (.int l9), some (.int l10), (xoi none), some (.int x2), u13, u14], [.int (lg_cmp x11 1)])) rfl ?_
            refine Ex.br (x := (390, [some (.ref 0), some (.ref 1), some (.int l2), u3, some (.int l4), some (.int l5), some (.int l6), some (.int l7), some (.int l8), some (.int l9), some (.int l10), (xoi none), some (.int x2), u13, u14], [])) (y := (386, [some (.ref 0), some (.ref 1), some (.int l2), u3, some (.int l4), some (.int l5), some (.int l6), some (.int l7), some (.int l8), some (.int l9), some (.int l10), (xoi none), some (.int x2), u13, u14], [])) (b := ¬ (lg_cmp x11 1) = 0) rfl (fun hb => ?_) (fun hb => ?_)
            · replace H := H.1 (fun z => hb ((lg_cmp_eq _ _).mpr z))
              exact H
            · replace H := H.2 (fun z => hb (fun w => z ((lg_cmp_eq _ _).mp w)))
              refine Ex.pure 2 (fr2 := (407, [some (.ref 0), some (.ref 1), some (.int l2), u3, some (.int l4), some (.int l5), some (.int l6), some (.int l7), some (.int l8), some (.int l9), some (.int l10), (xoi none), some (.int x2), u13, u14], [.int 1])) rfl ?_
              exact H
  | some v11 =>
    show Ex d [] tb_L_law (330, [some (.ref 0), some (.ref 1), some (.int l2), u3, some (.int l4), some (.int l5), some (.int l6), some (.int l7), some (.int l8), some (.int l9), some (.int l10), (xoi (some v11)), u12, u13, u14], []) h _
    refine Ex.pure 2 (fr2 := (334, [some (.ref 0), some (.ref 1), some (.int l2), u3, some (.int l4), some (.int l5), some (.int l6), some (.int l7), some (.int l8), some (.int l9), some (.int l10), (xoi (some v11)), u12, u13, u14], [.int 8, .int l7])) rfl ?_
    refine Ex.br (x := (411, [some (.ref 0), some (.ref 1), some (.int l2), u3, some (.int l4), some (.int l5), some (.int l6), some (.int l7), some (.int l8), some (.int l9), some (.int l10), (xoi (some v11)), u12, u13, u14], [])) (y := (337, [some (.ref 0), some (.ref 1), some (.int l2), u3, some (.int l4), some (.int l5), some (.int l6), some (.int l7), some (.int l8), some (.int l9), some (.int l10), (xoi (some v11)), u12, u13, u14], [])) (b := 8 ≤ l7) rfl (fun hb => ?_) (fun hb => ?_)
    · replace H := H.1 (hb)
      exact H
    · replace H := H.2 (hb)
      refine Ex.pure 5 (fr2 := (344, [some (.ref 0), some (.ref 1), some (.int l2), u3, some (.int l4), some (.int l5), some (.int l6), some (.int l7), some (.int l8), some (.int l9), some (.int l10), (xoi (some v11)), u12, u13, u14], [.int 0, .int l9, .int l8, .int 3, .ref 1])) rfl ?_
      refine Ex.cal (rest := []) (j := m_L_ask) (as := [.ref 1, .int 3, .int l8, .int l9, .int 0]) (fun c => rfl) (H.imp ?_)
      intro rv h1 H
      obtain ⟨x2, rfl, H⟩ := H
      obtain ⟨y3, hs, H⟩ := H
      show Ex d [] tb_L_law (347, [some (.ref 0), some (.ref 1), some (.int l2), u3, some (.int l4), some (.int l5), some (.int l6), some (.int l7), some (.int l8), some (.int l9), some (.int l10), (xoi (some v11)), u12, u13, u14], [.int x2]) h1 _
      refine Ex.pure 2 (fr2 := (351, [some (.ref 0), some (.ref 1), some (.int l2), u3, some (.int l4), some (.int l5), some (.int l6), some (.int l7), some (.int l8), some (.int l9), some (.int l10), (xoi (some v11)), some (.int x2), u13, u14], [.int x2])) rfl ?_
      refine Ex.br (x := (394, [some (.ref 0), some (.ref 1), some (.int l2), u3, some (.int l4), some (.int l5), some (.int l6), some (.int l7), some (.int l8), some (.int l9), some (.int l10), (xoi (some v11)), some (.int x2), u13, u14], [])) (y := (354, [some (.ref 0), some (.ref 1), some (.int l2), u3, some (.int l4), some (.int l5), some (.int l6), some (.int l7), some (.int l8), some (.int l9), some (.int l10), (xoi (some v11)), some (.int x2), u13, u14], [])) (b := ¬ x2 = 0) rfl (fun hb => ?_) (fun hb => ?_)
      · replace H := H.1 (hb)
        refine Ex.pure 2 (fr2 := (399, [some (.ref 0), some (.ref 1), some (.int l2), u3, some (.int l4), some (.int l5), some (.int l6), some (.int l7), some (.int l8), some (.int l9), some (.int l10), (xoi (some v11)), some (.int x2), u13, u14], [.int (-1013), .int x2])) rfl ?_
        refine Ex.br (x := (406, [some (.ref 0), some (.ref 1), some (.int l2), u3, some (.int l4), some (.int l5), some (.int l6), some (.int l7), some (.int l8), some (.int l9), some (.int l10), (xoi (some v11)), some (.int x2), u13, u14], [])) (y := (402, [some (.ref 0), some (.ref 1), some (.int l2), u3, some (.int l4), some (.int l5), some (.int l6), some (.int l7), some (.int l8), some (.int l9), some (.int l10), (xoi (some v11)), some (.int x2), u13, u14], [])) (b := ¬ x2 = (-1013)) rfl (fun hb => ?_) (fun hb => ?_)
        · replace H := H.1 (hb)
          refine Ex.pure 1 (fr2 := (407, [some (.ref 0), some (.ref 1), some (.int l2), u3, some (.int l4), some (.int l5), some (.int l6), some (.int l7), some (.int l8), some (.int l9), some (.int l10), (xoi (some v11)), some (.int x2), u13, u14], [.int 0])) rfl ?_
          exact H
        · replace H := H.2 (hb)
          refine Ex.pure 2 (fr2 := (407, [some (.ref 0), some (.ref 1), some (.int l2), u3, some (.int l4), some (.int l5), some (.int l6), some (.int l7), some (.int l8), some (.int l9), some (.int l10), (xoi (some v11)), some (.int x2), u13, u14], [.int 1])) rfl ?_
          exact H
      · replace H := H.2 (hb)
        refine Ex.pure 2 (fr2 := (357, [some (.ref 0), some (.ref 1), some (.int l2), u3, some (.int l4), some (.int l5), some (.int l6), some (.int l7), some (.int l8), some (.int l9), some (.int l10), (xoi (some v11)), some (.int x2), u13, u14], [.int l8, .ref 1])) rfl ?_
        refine Ex.cal (rest := []) (j := m_X6_kind) (as := [.ref 1, .int l8]) (vst (a := 68) (b := 2) (c := 5) (rest := []) (vs := [.int l8]) rfl ⟨Nat.le_of_ble_eq_true rfl, Nat.le_of_ble_eq_true rfl⟩ rfl rfl (sg_1 hs)) (H.imp ?_)
        intro rv h4 H
        obtain ⟨x5, rfl, H⟩ := H
        obtain ⟨y6, hs, H⟩ := H
        show Ex d [] tb_L_law (360, [some (.ref 0), some (.ref 1), some (.int l2), u3, some (.int l4), some (.int l5), some (.int l6), some (.int l7), some (.int l8), some (.int l9), some (.int l10), (xoi (some v11)), some (.int x2), u13, u14], [.int x5]) h4 _
        refine Ex.pure 1 (fr2 := (361, [some (.ref 0), some (.ref 1), some (.int l2), u3, some (.int l4), some (.int l5), some (.int l6), some (.int l7), some (.int l8), some (.int l9), some (.int l10), (xoi (some v11)), some (.int x2), u13, u14], [.int 1, .int x5])) rfl ?_
        refine Ex.br (x := (390, [some (.ref 0), some (.ref 1), some (.int l2), u3, some (.int l4), some (.int l5), some (.int l6), some (.int l7), some (.int l8), some (.int l9), some (.int l10), (xoi (some v11)), some (.int x2), u13, u14], [])) (y := (364, [some (.ref 0), some (.ref 1), some (.int l2), u3, some (.int l4), some (.int l5), some (.int l6), some (.int l7), some (.int l8), some (.int l9), some (.int l10), (xoi (some v11)), some (.int x2), u13, u14], [])) (b := ¬ x5 = 1) rfl (fun hb => ?_) (fun hb => ?_)
        · replace H := H.1 (hb)
          exact H
        · replace H := H.2 (hb)
          refine Ex.pure 2 (fr2 := (367, [some (.ref 0), some (.ref 1), some (.int l2), u3, some (.int l4), some (.int l5), some (.int l6), some (.int l7), some (.int l8), some (.int l9), some (.int l10), (xoi (some v11)), some (.int x2), u13, u14], [.int l8, .ref 1])) rfl ?_
          refine Ex.cal (rest := []) (j := m_X6_powers) (as := [.ref 1, .int l8]) (vst (a := 82) (b := 2) (c := 5) (rest := []) (vs := [.int l8]) rfl ⟨Nat.le_of_ble_eq_true rfl, Nat.le_of_ble_eq_true rfl⟩ rfl rfl (sg_1 hs)) (H.imp ?_)
          intro rv h7 H
          obtain ⟨x8, rfl, H⟩ := H
          obtain ⟨y9, hs, H⟩ := H
          show Ex d [] tb_L_law (370, [some (.ref 0), some (.ref 1), some (.int l2), u3, some (.int l4), some (.int l5), some (.int l6), some (.int l7), some (.int l8), some (.int l9), some (.int l10), (xoi (some v11)), some (.int x2), u13, u14], [.int x8]) h7 _
          refine Ex.pure 1 (fr2 := (371, [some (.ref 0), some (.ref 1), some (.int l2), u3, some (.int l4), some (.int l5), some (.int l6), some (.int l7), some (.int l8), some (.int l9), some (.int l10), (xoi (some v11)), some (.int x2), u13, u14], [.int 1, .int x8])) rfl ?_
          refine Ex.br (x := (390, [some (.ref 0), some (.ref 1), some (.int l2), u3, some (.int l4), some (.int l5), some (.int l6), some (.int l7), some (.int l8), some (.int l9), some (.int l10), (xoi (some v11)), some (.int x2), u13, u14], [])) (y := (374, [some (.ref 0), some (.ref 1), some (.int l2), u3, some (.int l4), some (.int l5), some (.int l6), some (.int l7), some (.int l8), some (.int l9), some (.int l10), (xoi (some v11)), some (.int x2), u13, u14], [])) (b := ¬ x8 = 1) rfl (fun hb => ?_) (fun hb => ?_)
          · replace H := H.1 (hb)
            exact H
          · replace H := H.2 (hb)
            refine Ex.pure 3 (fr2 := (378, [some (.ref 0), some (.ref 1), some (.int l2), u3, some (.int l4), some (.int l5), some (.int l6), some (.int l7), some (.int l8), some (.int l9), some (.int l10), (xoi (some v11)), some (.int x2), u13, u14], [.int 0, .int l8, .ref 1])) rfl ?_
            refine Ex.cal (rest := []) (j := m_X6_times) (as := [.ref 1, .int l8, .int 0]) (vst (a := 83) (b := 3) (c := 5) (rest := []) (vs := [.int l8, .int 0]) rfl ⟨Nat.le_of_ble_eq_true rfl, Nat.le_of_ble_eq_true rfl⟩ rfl rfl (sg_1 hs)) (H.imp ?_)
            intro rv h10 H
            obtain ⟨x11, rfl, H⟩ := H
            obtain ⟨y12, hs, H⟩ := H
            show Ex d [] tb_L_law (381, [some (.ref 0), some (.ref 1), some (.int l2), u3, some (.int l4), some (.int l5), some (.int l6), some (.int l7), some (.int l8), some (.int l9), some (.int l10), (xoi (some v11)), some (.int x2), u13, u14], [.long x11]) h10 _
            refine Ex.pure 2 (fr2 := (383, [some (.ref 0), some (.ref 1), some (.int l2), u3, some (.int l4), some (.int l5), some (.int l6), some (.int l7), some (.int l8), some (.int l9), some (.int l10), (xoi (some v11)), some (.int x2), u13, u14], [.int (lg_cmp x11 1)])) rfl ?_
            refine Ex.br (x := (390, [some (.ref 0), some (.ref 1), some (.int l2), u3, some (.int l4), some (.int l5), some (.int l6), some (.int l7), some (.int l8), some (.int l9), some (.int l10), (xoi (some v11)), some (.int x2), u13, u14], [])) (y := (386, [some (.ref 0), some (.ref 1), some (.int l2), u3, some (.int l4), some (.int l5), some (.int l6), some (.int l7), some (.int l8), some (.int l9), some (.int l10), (xoi (some v11)), some (.int x2), u13, u14], [])) (b := ¬ (lg_cmp x11 1) = 0) rfl (fun hb => ?_) (fun hb => ?_)
            · replace H := H.1 (fun z => hb ((lg_cmp_eq _ _).mpr z))
              exact H
            · replace H := H.2 (fun z => hb (fun w => z ((lg_cmp_eq _ _).mp w)))
              refine Ex.pure 2 (fr2 := (407, [some (.ref 0), some (.ref 1), some (.int l2), u3, some (.int l4), some (.int l5), some (.int l6), some (.int l7), some (.int l8), some (.int l9), some (.int l10), (xoi (some v11)), some (.int x2), u13, u14], [.int 1])) rfl ?_
              exact H
set_option maxRecDepth 100000 in
theorem w_L_law_390 {d : Nat} {h : XH} {y : Nat → Nat} {K : XK} {E : XE} {l2 : Int32} {u3 : Option Value} {l4 : Int32} {l5 : Int32} {u6 : Option Value} {u7 : Option Value} {l8 : Int32} {u9 : Option Value} {u10 : Option Value} {u11 : Option Int32} {u12 : Option Value} {u13 : Option Value} {u14 : Option Value} (hd : 70 ≤ d) (hs : Sg h.1 y) (H : b_L_law_407 d 0 1 l2 (u3) l4 l5 (u6) (u7) l8 (u9) (u10) u11 (u12) (u13) (u14) 0 h K E) : b_L_law_390 d 0 1 l2 u3 l4 l5 u6 u7 l8 u9 u10 u11 u12 u13 u14 h K E := by
  cases u11 with
  | none =>
    show Ex d [] tb_L_law (390, [some (.ref 0), some (.ref 1), some (.int l2), u3, some (.int l4), some (.int l5), u6, u7, some (.int l8), u9, u10, (xoi none), u12, u13, u14], []) h _
    refine Ex.pure 2 (fr2 := (407, [some (.ref 0), some (.ref 1), some (.int l2), u3, some (.int l4), some (.int l5), u6, u7, some (.int l8), u9, u10, (xoi none), u12, u13, u14], [.int 0])) rfl ?_
    exact H
  | some v11 =>
    show Ex d [] tb_L_law (390, [some (.ref 0), some (.ref 1), some (.int l2), u3, some (.int l4), some (.int l5), u6, u7, some (.int l8), u9, u10, (xoi (some v11)), u12, u13, u14], []) h _
    refine Ex.pure 2 (fr2 := (407, [some (.ref 0), some (.ref 1), some (.int l2), u3, some (.int l4), some (.int l5), u6, u7, some (.int l8), u9, u10, (xoi (some v11)), u12, u13, u14], [.int 0])) rfl ?_
    exact H
set_option maxRecDepth 100000 in
theorem w_L_law_407 {d : Nat} {h : XH} {y : Nat → Nat} {K : XK} {E : XE} {l2 : Int32} {u3 : Option Value} {l4 : Int32} {l5 : Int32} {u6 : Option Value} {u7 : Option Value} {l8 : Int32} {u9 : Option Value} {u10 : Option Value} {u11 : Option Int32} {u12 : Option Value} {u13 : Option Value} {u14 : Option Value} {s0 : Int32} (hd : 70 ≤ d) (hs : Sg h.1 y) (H : b_L_law_1266 d 0 1 l2 s0 l4 l5 (u6) (u7) l8 (u9) (u10) u11 (u12) (u13) (u14) h K E) : b_L_law_407 d 0 1 l2 u3 l4 l5 u6 u7 l8 u9 u10 u11 u12 u13 u14 s0 h K E := by
  cases u11 with
  | none =>
    show Ex d [] tb_L_law (407, [some (.ref 0), some (.ref 1), some (.int l2), u3, some (.int l4), some (.int l5), u6, u7, some (.int l8), u9, u10, (xoi none), u12, u13, u14], [.int s0]) h _
    refine Ex.pure 2 (fr2 := (1266, [some (.ref 0), some (.ref 1), some (.int l2), some (.int s0), some (.int l4), some (.int l5), u6, u7, some (.int l8), u9, u10, (xoi none), u12, u13, u14], [])) rfl ?_
    exact H
  | some v11 =>
    show Ex d [] tb_L_law (407, [some (.ref 0), some (.ref 1), some (.int l2), u3, some (.int l4), some (.int l5), u6, u7, some (.int l8), u9, u10, (xoi (some v11)), u12, u13, u14], [.int s0]) h _
    refine Ex.pure 2 (fr2 := (1266, [some (.ref 0), some (.ref 1), some (.int l2), some (.int s0), some (.int l4), some (.int l5), u6, u7, some (.int l8), u9, u10, (xoi (some v11)), u12, u13, u14], [])) rfl ?_
    exact H
set_option maxRecDepth 100000 in
theorem w_L_law_411 {d : Nat} {h : XH} {y : Nat → Nat} {K : XK} {E : XE} {l2 : Int32} {u3 : Option Value} {l4 : Int32} {l5 : Int32} {l6 : Int32} {l7 : Int32} {l8 : Int32} {l9 : Int32} {l10 : Int32} {u11 : Option Int32} {u12 : Option Value} {u13 : Option Value} {u14 : Option Value} (hd : 70 ≤ d) (hs : Sg h.1 y) (H : (17 ≤ l7 → b_L_law_535 d 0 1 l2 (u3) l4 l5 l6 l7 l8 l9 l10 u11 (u12) (u13) (u14) h K E) ∧ (¬ (17 ≤ l7) → (Ca d m_X6_kind [.ref 1, .int l9] h (fun rv h1 => ∃ x2, rv = some (.int x2) ∧ ∃ y3 : Nat → Nat, Sg h1.1 y3 ∧ (Ca d m_X6_kind [.ref 1, .int l10] h1 (fun rv h4 => ∃ x5, rv = some (.int x5) ∧ ∃ y6 : Nat → Nat, Sg h4.1 y6 ∧ (¬ x2 = x5 → b_L_law_446 d 0 1 l2 (u3) l4 l5 (some (.int l6)) l7 l8 l9 l10 u11 (u12) (u13) (u14) h4 K E) ∧ (¬ (¬ x2 = x5) → (Ca d m_X6_kind [.ref 1, .int l9] h4 (fun rv h7 => ∃ x8, rv = some (.int x8) ∧ ∃ y9 : Nat → Nat, Sg h7.1 y9 ∧ (x8 ≤ 0 → b_L_law_446 d 0 1 l2 (u3) l4 l5 (some (.int l6)) l7 l8 l9 l10 u11 (u12) (u13) (u14) h7 K E) ∧ (¬ (x8 ≤ 0) → b_L_law_447 d 0 1 l2 (u3) l4 l5 (some (.int l6)) l7 l8 l9 l10 u11 (u12) (u13) (u14) 1 h7 K E)) E))) E)) E))) : b_L_law_411 d 0 1 l2 u3 l4 l5 l6 l7 l8 l9 l10 u11 u12 u13 u14 h K E := by
  cases u11 with
  | none =>
    show Ex d [] tb_L_law (411, [some (.ref 0), some (.ref 1), some (.int l2), u3, some (.int l4), some (.int l5), some (.int l6), some (.int l7), some (.int l8), some (.int l9), some (.int l10), (xoi none), u12, u13, u14], []) h _
    refine Ex.pure 2 (fr2 := (415, [some (.ref 0), some (.ref 1), some (.int l2), u3, some (.int l4), some (.int l5), some (.int l6), some (.int l7), some (.int l8), some (.int l9), some (.int l10), (xoi none), u12, u13, u14], [.int 17, .int l7])) rfl ?_
    refine Ex.br (x := (535, [some (.ref 0), some (.ref 1), some (.int l2), u3, some (.int l4), some (.int l5), some (.int l6), some (.int l7), some (.int l8), some (.int l9), some (.int l10), (xoi none), u12, u13, u14], [])) (y := (418, [some (.ref 0), some (.ref 1), some (.int l2), u3, some (.int l4), some (.int l5), some (.int l6), some (.int l7), some (.int l8), some (.int l9), some (.int l10), (xoi none), u12, u13, u14], [])) (b := 17 ≤ l7) rfl (fun hb => ?_) (fun hb => ?_)
    · replace H := H.1 (hb)
      exact H
    · replace H := H.2 (hb)
      refine Ex.pure 2 (fr2 := (421, [some (.ref 0), some (.ref 1), some (.int l2), u3, some (.int l4), some (.int l5), some (.int l6), some (.int l7), some (.int l8), some (.int l9), some (.int l10), (xoi none), u12, u13, u14], [.int l9, .ref 1])) rfl ?_
      refine Ex.cal (rest := []) (j := m_X6_kind) (as := [.ref 1, .int l9]) (vst (a := 68) (b := 2) (c := 5) (rest := []) (vs := [.int l9]) rfl ⟨Nat.le_of_ble_eq_true rfl, Nat.le_of_ble_eq_true rfl⟩ rfl rfl (sg_1 hs)) (H.imp ?_)
      intro rv h1 H
      obtain ⟨x2, rfl, H⟩ := H
      obtain ⟨y3, hs, H⟩ := H
      show Ex d [] tb_L_law (424, [some (.ref 0), some (.ref 1), some (.int l2), u3, some (.int l4), some (.int l5), some (.int l6), some (.int l7), some (.int l8), some (.int l9), some (.int l10), (xoi none), u12, u13, u14], [.int x2]) h1 _
      refine Ex.pure 2 (fr2 := (427, [some (.ref 0), some (.ref 1), some (.int l2), u3, some (.int l4), some (.int l5), some (.int l6), some (.int l7), some (.int l8), some (.int l9), some (.int l10), (xoi none), u12, u13, u14], [.int l10, .ref 1, .int x2])) rfl ?_
      refine Ex.cal (rest := [.int x2]) (j := m_X6_kind) (as := [.ref 1, .int l10]) (vst (a := 68) (b := 2) (c := 5) (rest := [.int x2]) (vs := [.int l10]) rfl ⟨Nat.le_of_ble_eq_true rfl, Nat.le_of_ble_eq_true rfl⟩ rfl rfl (sg_1 hs)) (H.imp ?_)
      intro rv h4 H
      obtain ⟨x5, rfl, H⟩ := H
      obtain ⟨y6, hs, H⟩ := H
      show Ex d [] tb_L_law (430, [some (.ref 0), some (.ref 1), some (.int l2), u3, some (.int l4), some (.int l5), some (.int l6), some (.int l7), some (.int l8), some (.int l9), some (.int l10), (xoi none), u12, u13, u14], [.int x5, .int x2]) h4 _
      refine Ex.br (x := (446, [some (.ref 0), some (.ref 1), some (.int l2), u3, some (.int l4), some (.int l5), some (.int l6), some (.int l7), some (.int l8), some (.int l9), some (.int l10), (xoi none), u12, u13, u14], [])) (y := (433, [some (.ref 0), some (.ref 1), some (.int l2), u3, some (.int l4), some (.int l5), some (.int l6), some (.int l7), some (.int l8), some (.int l9), some (.int l10), (xoi none), u12, u13, u14], [])) (b := ¬ x2 = x5) rfl (fun hb => ?_) (fun hb => ?_)
      · replace H := H.1 (hb)
        exact H
      · replace H := H.2 (hb)
        refine Ex.pure 2 (fr2 := (436, [some (.ref 0), some (.ref 1), some (.int l2), u3, some (.int l4), some (.int l5), some (.int l6), some (.int l7), some (.int l8), some (.int l9), some (.int l10), (xoi none), u12, u13, u14], [.int l9, .ref 1])) rfl ?_
        refine Ex.cal (rest := []) (j := m_X6_kind) (as := [.ref 1, .int l9]) (vst (a := 68) (b := 2) (c := 5) (rest := []) (vs := [.int l9]) rfl ⟨Nat.le_of_ble_eq_true rfl, Nat.le_of_ble_eq_true rfl⟩ rfl rfl (sg_1 hs)) (H.imp ?_)
        intro rv h7 H
        obtain ⟨x8, rfl, H⟩ := H
        obtain ⟨y9, hs, H⟩ := H
        show Ex d [] tb_L_law (439, [some (.ref 0), some (.ref 1), some (.int l2), u3, some (.int l4), some (.int l5), some (.int l6), some (.int l7), some (.int l8), some (.int l9), some (.int l10), (xoi none), u12, u13, u14], [.int x8]) h7 _
        refine Ex.br (x := (446, [some (.ref 0), some (.ref 1), some (.int l2), u3, some (.int l4), some (.int l5), some (.int l6), some (.int l7), some (.int l8), some (.int l9), some (.int l10), (xoi none), u12, u13, u14], [])) (y := (442, [some (.ref 0), some (.ref 1), some (.int l2), u3, some (.int l4), some (.int l5), some (.int l6), some (.int l7), some (.int l8), some (.int l9), some (.int l10), (xoi none), u12, u13, u14], [])) (b := x8 ≤ 0) rfl (fun hb => ?_) (fun hb => ?_)
        · replace H := H.1 (hb)
          exact H
        · replace H := H.2 (hb)
          refine Ex.pure 2 (fr2 := (447, [some (.ref 0), some (.ref 1), some (.int l2), u3, some (.int l4), some (.int l5), some (.int l6), some (.int l7), some (.int l8), some (.int l9), some (.int l10), (xoi none), u12, u13, u14], [.int 1])) rfl ?_
          exact H
  | some v11 =>
    show Ex d [] tb_L_law (411, [some (.ref 0), some (.ref 1), some (.int l2), u3, some (.int l4), some (.int l5), some (.int l6), some (.int l7), some (.int l8), some (.int l9), some (.int l10), (xoi (some v11)), u12, u13, u14], []) h _
    refine Ex.pure 2 (fr2 := (415, [some (.ref 0), some (.ref 1), some (.int l2), u3, some (.int l4), some (.int l5), some (.int l6), some (.int l7), some (.int l8), some (.int l9), some (.int l10), (xoi (some v11)), u12, u13, u14], [.int 17, .int l7])) rfl ?_
    refine Ex.br (x := (535, [some (.ref 0), some (.ref 1), some (.int l2), u3, some (.int l4), some (.int l5), some (.int l6), some (.int l7), some (.int l8), some (.int l9), some (.int l10), (xoi (some v11)), u12, u13, u14], [])) (y := (418, [some (.ref 0), some (.ref 1), some (.int l2), u3, some (.int l4), some (.int l5), some (.int l6), some (.int l7), some (.int l8), some (.int l9), some (.int l10), (xoi (some v11)), u12, u13, u14], [])) (b := 17 ≤ l7) rfl (fun hb => ?_) (fun hb => ?_)
    · replace H := H.1 (hb)
      exact H
    · replace H := H.2 (hb)
      refine Ex.pure 2 (fr2 := (421, [some (.ref 0), some (.ref 1), some (.int l2), u3, some (.int l4), some (.int l5), some (.int l6), some (.int l7), some (.int l8), some (.int l9), some (.int l10), (xoi (some v11)), u12, u13, u14], [.int l9, .ref 1])) rfl ?_
      refine Ex.cal (rest := []) (j := m_X6_kind) (as := [.ref 1, .int l9]) (vst (a := 68) (b := 2) (c := 5) (rest := []) (vs := [.int l9]) rfl ⟨Nat.le_of_ble_eq_true rfl, Nat.le_of_ble_eq_true rfl⟩ rfl rfl (sg_1 hs)) (H.imp ?_)
      intro rv h1 H
      obtain ⟨x2, rfl, H⟩ := H
      obtain ⟨y3, hs, H⟩ := H
      show Ex d [] tb_L_law (424, [some (.ref 0), some (.ref 1), some (.int l2), u3, some (.int l4), some (.int l5), some (.int l6), some (.int l7), some (.int l8), some (.int l9), some (.int l10), (xoi (some v11)), u12, u13, u14], [.int x2]) h1 _
      refine Ex.pure 2 (fr2 := (427, [some (.ref 0), some (.ref 1), some (.int l2), u3, some (.int l4), some (.int l5), some (.int l6), some (.int l7), some (.int l8), some (.int l9), some (.int l10), (xoi (some v11)), u12, u13, u14], [.int l10, .ref 1, .int x2])) rfl ?_
      refine Ex.cal (rest := [.int x2]) (j := m_X6_kind) (as := [.ref 1, .int l10]) (vst (a := 68) (b := 2) (c := 5) (rest := [.int x2]) (vs := [.int l10]) rfl ⟨Nat.le_of_ble_eq_true rfl, Nat.le_of_ble_eq_true rfl⟩ rfl rfl (sg_1 hs)) (H.imp ?_)
      intro rv h4 H
      obtain ⟨x5, rfl, H⟩ := H
      obtain ⟨y6, hs, H⟩ := H
      show Ex d [] tb_L_law (430, [some (.ref 0), some (.ref 1), some (.int l2), u3, some (.int l4), some (.int l5), some (.int l6), some (.int l7), some (.int l8), some (.int l9), some (.int l10), (xoi (some v11)), u12, u13, u14], [.int x5, .int x2]) h4 _
      refine Ex.br (x := (446, [some (.ref 0), some (.ref 1), some (.int l2), u3, some (.int l4), some (.int l5), some (.int l6), some (.int l7), some (.int l8), some (.int l9), some (.int l10), (xoi (some v11)), u12, u13, u14], [])) (y := (433, [some (.ref 0), some (.ref 1), some (.int l2), u3, some (.int l4), some (.int l5), some (.int l6), some (.int l7), some (.int l8), some (.int l9), some (.int l10), (xoi (some v11)), u12, u13, u14], [])) (b := ¬ x2 = x5) rfl (fun hb => ?_) (fun hb => ?_)
      · replace H := H.1 (hb)
        exact H
      · replace H := H.2 (hb)
        refine Ex.pure 2 (fr2 := (436, [some (.ref 0), some (.ref 1), some (.int l2), u3, some (.int l4), some (.int l5), some (.int l6), some (.int l7), some (.int l8), some (.int l9), some (.int l10), (xoi (some v11)), u12, u13, u14], [.int l9, .ref 1])) rfl ?_
        refine Ex.cal (rest := []) (j := m_X6_kind) (as := [.ref 1, .int l9]) (vst (a := 68) (b := 2) (c := 5) (rest := []) (vs := [.int l9]) rfl ⟨Nat.le_of_ble_eq_true rfl, Nat.le_of_ble_eq_true rfl⟩ rfl rfl (sg_1 hs)) (H.imp ?_)
        intro rv h7 H
        obtain ⟨x8, rfl, H⟩ := H
        obtain ⟨y9, hs, H⟩ := H
        show Ex d [] tb_L_law (439, [some (.ref 0), some (.ref 1), some (.int l2), u3, some (.int l4), some (.int l5), some (.int l6), some (.int l7), some (.int l8), some (.int l9), some (.int l10), (xoi (some v11)), u12, u13, u14], [.int x8]) h7 _
        refine Ex.br (x := (446, [some (.ref 0), some (.ref 1), some (.int l2), u3, some (.int l4), some (.int l5), some (.int l6), some (.int l7), some (.int l8), some (.int l9), some (.int l10), (xoi (some v11)), u12, u13, u14], [])) (y := (442, [some (.ref 0), some (.ref 1), some (.int l2), u3, some (.int l4), some (.int l5), some (.int l6), some (.int l7), some (.int l8), some (.int l9), some (.int l10), (xoi (some v11)), u12, u13, u14], [])) (b := x8 ≤ 0) rfl (fun hb => ?_) (fun hb => ?_)
        · replace H := H.1 (hb)
          exact H
        · replace H := H.2 (hb)
          refine Ex.pure 2 (fr2 := (447, [some (.ref 0), some (.ref 1), some (.int l2), u3, some (.int l4), some (.int l5), some (.int l6), some (.int l7), some (.int l8), some (.int l9), some (.int l10), (xoi (some v11)), u12, u13, u14], [.int 1])) rfl ?_
          exact H
set_option maxRecDepth 100000 in
theorem w_L_law_446 {d : Nat} {h : XH} {y : Nat → Nat} {K : XK} {E : XE} {l2 : Int32} {u3 : Option Value} {l4 : Int32} {l5 : Int32} {u6 : Option Value} {l7 : Int32} {l8 : Int32} {l9 : Int32} {l10 : Int32} {u11 : Option Int32} {u12 : Option Value} {u13 : Option Value} {u14 : Option Value} (hd : 70 ≤ d) (hs : Sg h.1 y) (H : b_L_law_447 d 0 1 l2 (u3) l4 l5 (u6) l7 l8 l9 l10 u11 (u12) (u13) (u14) 0 h K E) : b_L_law_446 d 0 1 l2 u3 l4 l5 u6 l7 l8 l9 l10 u11 u12 u13 u14 h K E := by
  cases u11 with
  | none =>
    show Ex d [] tb_L_law (446, [some (.ref 0), some (.ref 1), some (.int l2), u3, some (.int l4), some (.int l5), u6, some (.int l7), some (.int l8), some (.int l9), some (.int l10), (xoi none), u12, u13, u14], []) h _
    refine Ex.pure 1 (fr2 := (447, [some (.ref 0), some (.ref 1), some (.int l2), u3, some (.int l4), some (.int l5), u6, some (.int l7), some (.int l8), some (.int l9), some (.int l10), (xoi none), u12, u13, u14], [.int 0])) rfl ?_
    exact H
  | some v11 =>
    show Ex d [] tb_L_law (446, [some (.ref 0), some (.ref 1), some (.int l2), u3, some (.int l4), some (.int l5), u6, some (.int l7), some (.int l8), some (.int l9), some (.int l10), (xoi (some v11)), u12, u13, u14], []) h _
    refine Ex.pure 1 (fr2 := (447, [some (.ref 0), some (.ref 1), some (.int l2), u3, some (.int l4), some (.int l5), u6, some (.int l7), some (.int l8), some (.int l9), some (.int l10), (xoi (some v11)), u12, u13, u14], [.int 0])) rfl ?_
    exact H
set_option maxRecDepth 100000 in
theorem w_L_law_447 {d : Nat} {h : XH} {y : Nat → Nat} {K : XK} {E : XE} {l2 : Int32} {u3 : Option Value} {l4 : Int32} {l5 : Int32} {u6 : Option Value} {l7 : Int32} {l8 : Int32} {l9 : Int32} {l10 : Int32} {u11 : Option Int32} {u12 : Option Value} {u13 : Option Value} {u14 : Option Value} {s0 : Int32} (hd : 70 ≤ d) (hs : Sg h.1 y) (H : (Ca d m_X6_kind [.ref 1, .int l9] h (fun rv h1 => ∃ x2, rv = some (.int x2) ∧ ∃ y3 : Nat → Nat, Sg h1.1 y3 ∧ (12 ≤ l7 → (15 ≤ l7 → b_L_law_484 d 0 1 l2 (u3) l4 l5 (u6) (some (.int l7)) l8 l9 l10 u11 s0 x2 (u14) 11 1 h1 K E) ∧ (¬ (15 ≤ l7) → b_L_law_484 d 0 1 l2 (u3) l4 l5 (u6) (some (.int l7)) l8 l9 l10 u11 s0 x2 (u14) 10 1 h1 K E)) ∧ (¬ (12 ≤ l7) → b_L_law_484 d 0 1 l2 (u3) l4 l5 (u6) (some (.int l7)) l8 l9 l10 u11 s0 x2 (u14) 9 1 h1 K E)) E)) : b_L_law_447 d 0 1 l2 u3 l4 l5 u6 l7 l8 l9 l10 u11 u12 u13 u14 s0 h K E := by
  cases u11 with
  | none =>
    show Ex d [] tb_L_law (447, [some (.ref 0), some (.ref 1), some (.int l2), u3, some (.int l4), some (.int l5), u6, some (.int l7), some (.int l8), some (.int l9), some (.int l10), (xoi none), u12, u13, u14], [.int s0]) h _
    refine Ex.pure 3 (fr2 := (452, [some (.ref 0), some (.ref 1), some (.int l2), u3, some (.int l4), some (.int l5), u6, some (.int l7), some (.int l8), some (.int l9), some (.int l10), (xoi none), some (.int s0), u13, u14], [.int l9, .ref 1])) rfl ?_
    refine Ex.cal (rest := []) (j := m_X6_kind) (as := [.ref 1, .int l9]) (vst (a := 68) (b := 2) (c := 5) (rest := []) (vs := [.int l9]) rfl ⟨Nat.le_of_ble_eq_true rfl, Nat.le_of_ble_eq_true rfl⟩ rfl rfl (sg_1 hs)) (H.imp ?_)
    intro rv h1 H
    obtain ⟨x2, rfl, H⟩ := H
    obtain ⟨y3, hs, H⟩ := H
    show Ex d [] tb_L_law (455, [some (.ref 0), some (.ref 1), some (.int l2), u3, some (.int l4), some (.int l5), u6, some (.int l7), some (.int l8), some (.int l9), some (.int l10), (xoi none), some (.int s0), u13, u14], [.int x2]) h1 _
    refine Ex.pure 4 (fr2 := (462, [some (.ref 0), some (.ref 1), some (.int l2), u3, some (.int l4), some (.int l5), u6, some (.int l7), some (.int l8), some (.int l9), some (.int l10), (xoi none), some (.int s0), some (.int x2), u14], [.int 12, .int l7, .ref 1])) rfl ?_
    refine Ex.br (x := (470, [some (.ref 0), some (.ref 1), some (.int l2), u3, some (.int l4), some (.int l5), u6, some (.int l7), some (.int l8), some (.int l9), some (.int l10), (xoi none), some (.int s0), some (.int x2), u14], [.ref 1])) (y := (465, [some (.ref 0), some (.ref 1), some (.int l2), u3, some (.int l4), some (.int l5), u6, some (.int l7), some (.int l8), some (.int l9), some (.int l10), (xoi none), some (.int s0), some (.int x2), u14], [.ref 1])) (b := 12 ≤ l7) rfl (fun hb => ?_) (fun hb => ?_)
    · replace H := H.1 (hb)
      refine Ex.pure 2 (fr2 := (474, [some (.ref 0), some (.ref 1), some (.int l2), u3, some (.int l4), some (.int l5), u6, some (.int l7), some (.int l8), some (.int l9), some (.int l10), (xoi none), some (.int s0), some (.int x2), u14], [.int 15, .int l7, .ref 1])) rfl ?_
      refine Ex.br (x := (482, [some (.ref 0), some (.ref 1), some (.int l2), u3, some (.int l4), some (.int l5), u6, some (.int l7), some (.int l8), some (.int l9), some (.int l10), (xoi none), some (.int s0), some (.int x2), u14], [.ref 1])) (y := (477, [some (.ref 0), some (.ref 1), some (.int l2), u3, some (.int l4), some (.int l5), u6, some (.int l7), some (.int l8), some (.int l9), some (.int l10), (xoi none), some (.int s0), some (.int x2), u14], [.ref 1])) (b := 15 ≤ l7) rfl (fun hb => ?_) (fun hb => ?_)
      · replace H := H.1 (hb)
        refine Ex.pure 1 (fr2 := (484, [some (.ref 0), some (.ref 1), some (.int l2), u3, some (.int l4), some (.int l5), u6, some (.int l7), some (.int l8), some (.int l9), some (.int l10), (xoi none), some (.int s0), some (.int x2), u14], [.int 11, .ref 1])) rfl ?_
        exact H
      · replace H := H.2 (hb)
        refine Ex.pure 2 (fr2 := (484, [some (.ref 0), some (.ref 1), some (.int l2), u3, some (.int l4), some (.int l5), u6, some (.int l7), some (.int l8), some (.int l9), some (.int l10), (xoi none), some (.int s0), some (.int x2), u14], [.int 10, .ref 1])) rfl ?_
        exact H
    · replace H := H.2 (hb)
      refine Ex.pure 2 (fr2 := (484, [some (.ref 0), some (.ref 1), some (.int l2), u3, some (.int l4), some (.int l5), u6, some (.int l7), some (.int l8), some (.int l9), some (.int l10), (xoi none), some (.int s0), some (.int x2), u14], [.int 9, .ref 1])) rfl ?_
      exact H
  | some v11 =>
    show Ex d [] tb_L_law (447, [some (.ref 0), some (.ref 1), some (.int l2), u3, some (.int l4), some (.int l5), u6, some (.int l7), some (.int l8), some (.int l9), some (.int l10), (xoi (some v11)), u12, u13, u14], [.int s0]) h _
    refine Ex.pure 3 (fr2 := (452, [some (.ref 0), some (.ref 1), some (.int l2), u3, some (.int l4), some (.int l5), u6, some (.int l7), some (.int l8), some (.int l9), some (.int l10), (xoi (some v11)), some (.int s0), u13, u14], [.int l9, .ref 1])) rfl ?_
    refine Ex.cal (rest := []) (j := m_X6_kind) (as := [.ref 1, .int l9]) (vst (a := 68) (b := 2) (c := 5) (rest := []) (vs := [.int l9]) rfl ⟨Nat.le_of_ble_eq_true rfl, Nat.le_of_ble_eq_true rfl⟩ rfl rfl (sg_1 hs)) (H.imp ?_)
    intro rv h1 H
    obtain ⟨x2, rfl, H⟩ := H
    obtain ⟨y3, hs, H⟩ := H
    show Ex d [] tb_L_law (455, [some (.ref 0), some (.ref 1), some (.int l2), u3, some (.int l4), some (.int l5), u6, some (.int l7), some (.int l8), some (.int l9), some (.int l10), (xoi (some v11)), some (.int s0), u13, u14], [.int x2]) h1 _
    refine Ex.pure 4 (fr2 := (462, [some (.ref 0), some (.ref 1), some (.int l2), u3, some (.int l4), some (.int l5), u6, some (.int l7), some (.int l8), some (.int l9), some (.int l10), (xoi (some v11)), some (.int s0), some (.int x2), u14], [.int 12, .int l7, .ref 1])) rfl ?_
    refine Ex.br (x := (470, [some (.ref 0), some (.ref 1), some (.int l2), u3, some (.int l4), some (.int l5), u6, some (.int l7), some (.int l8), some (.int l9), some (.int l10), (xoi (some v11)), some (.int s0), some (.int x2), u14], [.ref 1])) (y := (465, [some (.ref 0), some (.ref 1), some (.int l2), u3, some (.int l4), some (.int l5), u6, some (.int l7), some (.int l8), some (.int l9), some (.int l10), (xoi (some v11)), some (.int s0), some (.int x2), u14], [.ref 1])) (b := 12 ≤ l7) rfl (fun hb => ?_) (fun hb => ?_)
    · replace H := H.1 (hb)
      refine Ex.pure 2 (fr2 := (474, [some (.ref 0), some (.ref 1), some (.int l2), u3, some (.int l4), some (.int l5), u6, some (.int l7), some (.int l8), some (.int l9), some (.int l10), (xoi (some v11)), some (.int s0), some (.int x2), u14], [.int 15, .int l7, .ref 1])) rfl ?_
      refine Ex.br (x := (482, [some (.ref 0), some (.ref 1), some (.int l2), u3, some (.int l4), some (.int l5), u6, some (.int l7), some (.int l8), some (.int l9), some (.int l10), (xoi (some v11)), some (.int s0), some (.int x2), u14], [.ref 1])) (y := (477, [some (.ref 0), some (.ref 1), some (.int l2), u3, some (.int l4), some (.int l5), u6, some (.int l7), some (.int l8), some (.int l9), some (.int l10), (xoi (some v11)), some (.int s0), some (.int x2), u14], [.ref 1])) (b := 15 ≤ l7) rfl (fun hb => ?_) (fun hb => ?_)
      · replace H := H.1 (hb)
        refine Ex.pure 1 (fr2 := (484, [some (.ref 0), some (.ref 1), some (.int l2), u3, some (.int l4), some (.int l5), u6, some (.int l7), some (.int l8), some (.int l9), some (.int l10), (xoi (some v11)), some (.int s0), some (.int x2), u14], [.int 11, .ref 1])) rfl ?_
        exact H
      · replace H := H.2 (hb)
        refine Ex.pure 2 (fr2 := (484, [some (.ref 0), some (.ref 1), some (.int l2), u3, some (.int l4), some (.int l5), u6, some (.int l7), some (.int l8), some (.int l9), some (.int l10), (xoi (some v11)), some (.int s0), some (.int x2), u14], [.int 10, .ref 1])) rfl ?_
        exact H
    · replace H := H.2 (hb)
      refine Ex.pure 2 (fr2 := (484, [some (.ref 0), some (.ref 1), some (.int l2), u3, some (.int l4), some (.int l5), u6, some (.int l7), some (.int l8), some (.int l9), some (.int l10), (xoi (some v11)), some (.int s0), some (.int x2), u14], [.int 9, .ref 1])) rfl ?_
      exact H
set_option maxRecDepth 100000 in
theorem w_L_law_484 {d : Nat} {h : XH} {y : Nat → Nat} {K : XK} {E : XE} {l2 : Int32} {u3 : Option Value} {l4 : Int32} {l5 : Int32} {u6 : Option Value} {u7 : Option Value} {l8 : Int32} {l9 : Int32} {l10 : Int32} {u11 : Option Int32} {l12 : Int32} {l13 : Int32} {u14 : Option Value} {s0 : Int32} (hd : 70 ≤ d) (hs : Sg h.1 y) (H : (Ca d m_L_ask [.ref 1, .int s0, .int l8, .int l9, .int l10] h (fun rv h1 => ∃ x2, rv = some (.int x2) ∧ ∃ y3 : Nat → Nat, Sg h1.1 y3 ∧ (x2 = (-1013) → b_L_law_526 d 0 1 l2 (u3) l4 l5 (u6) (u7) l8 (some (.int l9)) (some (.int l10)) u11 (some (.int l12)) (some (.int l13)) (some (.int x2)) h1 K E) ∧ (¬ (x2 = (-1013)) → (l12 = 0 → b_L_law_530 d 0 1 l2 (u3) l4 l5 (u6) (u7) l8 (some (.int l9)) (some (.int l10)) u11 (some (.int l12)) (some (.int l13)) (some (.int x2)) h1 K E) ∧ (¬ (l12 = 0) → (¬ x2 = l13 → b_L_law_530 d 0 1 l2 (u3) l4 l5 (u6) (u7) l8 (some (.int l9)) (some (.int l10)) u11 (some (.int l12)) (some (.int l13)) (some (.int x2)) h1 K E) ∧ (¬ (¬ x2 = l13) → (Ca d m_X6_kind [.ref 1, .int l8] h1 (fun rv h4 => ∃ x5, rv = some (.int x5) ∧ ∃ y6 : Nat → Nat, Sg h4.1 y6 ∧ (¬ x5 = l13 → b_L_law_530 d 0 1 l2 (u3) l4 l5 (u6) (u7) l8 (some (.int l9)) (some (.int l10)) u11 (some (.int l12)) (some (.int l13)) (some (.int x2)) h4 K E) ∧ (¬ (¬ x5 = l13) → b_L_law_526 d 0 1 l2 (u3) l4 l5 (u6) (u7) l8 (some (.int l9)) (some (.int l10)) u11 (some (.int l12)) (some (.int l13)) (some (.int x2)) h4 K E)) E))))) E)) : b_L_law_484 d 0 1 l2 u3 l4 l5 u6 u7 l8 l9 l10 u11 l12 l13 u14 s0 1 h K E := by
  cases u11 with
  | none =>
    show Ex d [] tb_L_law (484, [some (.ref 0), some (.ref 1), some (.int l2), u3, some (.int l4), some (.int l5), u6, u7, some (.int l8), some (.int l9), some (.int l10), (xoi none), some (.int l12), some (.int l13), u14], [.int s0, .ref 1]) h _
    refine Ex.pure 3 (fr2 := (490, [some (.ref 0), some (.ref 1), some (.int l2), u3, some (.int l4), some (.int l5), u6, u7, some (.int l8), some (.int l9), some (.int l10), (xoi none), some (.int l12), some (.int l13), u14], [.int l10, .int l9, .int l8, .int s0, .ref 1])) rfl ?_
    refine Ex.cal (rest := []) (j := m_L_ask) (as := [.ref 1, .int s0, .int l8, .int l9, .int l10]) (fun c => rfl) (H.imp ?_)
    intro rv h1 H
    obtain ⟨x2, rfl, H⟩ := H
    obtain ⟨y3, hs, H⟩ := H
    show Ex d [] tb_L_law (493, [some (.ref 0), some (.ref 1), some (.int l2), u3, some (.int l4), some (.int l5), u6, u7, some (.int l8), some (.int l9), some (.int l10), (xoi none), some (.int l12), some (.int l13), u14], [.int x2]) h1 _
    refine Ex.pure 3 (fr2 := (500, [some (.ref 0), some (.ref 1), some (.int l2), u3, some (.int l4), some (.int l5), u6, u7, some (.int l8), some (.int l9), some (.int l10), (xoi none), some (.int l12), some (.int l13), some (.int x2)], [.int (-1013), .int x2])) rfl ?_
    refine Ex.br (x := (526, [some (.ref 0), some (.ref 1), some (.int l2), u3, some (.int l4), some (.int l5), u6, u7, some (.int l8), some (.int l9), some (.int l10), (xoi none), some (.int l12), some (.int l13), some (.int x2)], [])) (y := (503, [some (.ref 0), some (.ref 1), some (.int l2), u3, some (.int l4), some (.int l5), u6, u7, some (.int l8), some (.int l9), some (.int l10), (xoi none), some (.int l12), some (.int l13), some (.int x2)], [])) (b := x2 = (-1013)) rfl (fun hb => ?_) (fun hb => ?_)
    · replace H := H.1 (hb)
      exact H
    · replace H := H.2 (hb)
      refine Ex.pure 1 (fr2 := (505, [some (.ref 0), some (.ref 1), some (.int l2), u3, some (.int l4), some (.int l5), u6, u7, some (.int l8), some (.int l9), some (.int l10), (xoi none), some (.int l12), some (.int l13), some (.int x2)], [.int l12])) rfl ?_
      refine Ex.br (x := (530, [some (.ref 0), some (.ref 1), some (.int l2), u3, some (.int l4), some (.int l5), u6, u7, some (.int l8), some (.int l9), some (.int l10), (xoi none), some (.int l12), some (.int l13), some (.int x2)], [])) (y := (508, [some (.ref 0), some (.ref 1), some (.int l2), u3, some (.int l4), some (.int l5), u6, u7, some (.int l8), some (.int l9), some (.int l10), (xoi none), some (.int l12), some (.int l13), some (.int x2)], [])) (b := l12 = 0) rfl (fun hb => ?_) (fun hb => ?_)
      · replace H := H.1 (hb)
        exact H
      · replace H := H.2 (hb)
        refine Ex.pure 2 (fr2 := (512, [some (.ref 0), some (.ref 1), some (.int l2), u3, some (.int l4), some (.int l5), u6, u7, some (.int l8), some (.int l9), some (.int l10), (xoi none), some (.int l12), some (.int l13), some (.int x2)], [.int l13, .int x2])) rfl ?_
        refine Ex.br (x := (530, [some (.ref 0), some (.ref 1), some (.int l2), u3, some (.int l4), some (.int l5), u6, u7, some (.int l8), some (.int l9), some (.int l10), (xoi none), some (.int l12), some (.int l13), some (.int x2)], [])) (y := (515, [some (.ref 0), some (.ref 1), some (.int l2), u3, some (.int l4), some (.int l5), u6, u7, some (.int l8), some (.int l9), some (.int l10), (xoi none), some (.int l12), some (.int l13), some (.int x2)], [])) (b := ¬ x2 = l13) rfl (fun hb => ?_) (fun hb => ?_)
        · replace H := H.1 (hb)
          exact H
        · replace H := H.2 (hb)
          refine Ex.pure 2 (fr2 := (518, [some (.ref 0), some (.ref 1), some (.int l2), u3, some (.int l4), some (.int l5), u6, u7, some (.int l8), some (.int l9), some (.int l10), (xoi none), some (.int l12), some (.int l13), some (.int x2)], [.int l8, .ref 1])) rfl ?_
          refine Ex.cal (rest := []) (j := m_X6_kind) (as := [.ref 1, .int l8]) (vst (a := 68) (b := 2) (c := 5) (rest := []) (vs := [.int l8]) rfl ⟨Nat.le_of_ble_eq_true rfl, Nat.le_of_ble_eq_true rfl⟩ rfl rfl (sg_1 hs)) (H.imp ?_)
          intro rv h4 H
          obtain ⟨x5, rfl, H⟩ := H
          obtain ⟨y6, hs, H⟩ := H
          show Ex d [] tb_L_law (521, [some (.ref 0), some (.ref 1), some (.int l2), u3, some (.int l4), some (.int l5), u6, u7, some (.int l8), some (.int l9), some (.int l10), (xoi none), some (.int l12), some (.int l13), some (.int x2)], [.int x5]) h4 _
          refine Ex.pure 1 (fr2 := (523, [some (.ref 0), some (.ref 1), some (.int l2), u3, some (.int l4), some (.int l5), u6, u7, some (.int l8), some (.int l9), some (.int l10), (xoi none), some (.int l12), some (.int l13), some (.int x2)], [.int l13, .int x5])) rfl ?_
          refine Ex.br (x := (530, [some (.ref 0), some (.ref 1), some (.int l2), u3, some (.int l4), some (.int l5), u6, u7, some (.int l8), some (.int l9), some (.int l10), (xoi none), some (.int l12), some (.int l13), some (.int x2)], [])) (y := (526, [some (.ref 0), some (.ref 1), some (.int l2), u3, some (.int l4), some (.int l5), u6, u7, some (.int l8), some (.int l9), some (.int l10), (xoi none), some (.int l12), some (.int l13), some (.int x2)], [])) (b := ¬ x5 = l13) rfl (fun hb => ?_) (fun hb => ?_)
          · replace H := H.1 (hb)
            exact H
          · replace H := H.2 (hb)
            exact H
  | some v11 =>
    show Ex d [] tb_L_law (484, [some (.ref 0), some (.ref 1), some (.int l2), u3, some (.int l4), some (.int l5), u6, u7, some (.int l8), some (.int l9), some (.int l10), (xoi (some v11)), some (.int l12), some (.int l13), u14], [.int s0, .ref 1]) h _
    refine Ex.pure 3 (fr2 := (490, [some (.ref 0), some (.ref 1), some (.int l2), u3, some (.int l4), some (.int l5), u6, u7, some (.int l8), some (.int l9), some (.int l10), (xoi (some v11)), some (.int l12), some (.int l13), u14], [.int l10, .int l9, .int l8, .int s0, .ref 1])) rfl ?_
    refine Ex.cal (rest := []) (j := m_L_ask) (as := [.ref 1, .int s0, .int l8, .int l9, .int l10]) (fun c => rfl) (H.imp ?_)
    intro rv h1 H
    obtain ⟨x2, rfl, H⟩ := H
    obtain ⟨y3, hs, H⟩ := H
    show Ex d [] tb_L_law (493, [some (.ref 0), some (.ref 1), some (.int l2), u3, some (.int l4), some (.int l5), u6, u7, some (.int l8), some (.int l9), some (.int l10), (xoi (some v11)), some (.int l12), some (.int l13), u14], [.int x2]) h1 _
    refine Ex.pure 3 (fr2 := (500, [some (.ref 0), some (.ref 1), some (.int l2), u3, some (.int l4), some (.int l5), u6, u7, some (.int l8), some (.int l9), some (.int l10), (xoi (some v11)), some (.int l12), some (.int l13), some (.int x2)], [.int (-1013), .int x2])) rfl ?_
    refine Ex.br (x := (526, [some (.ref 0), some (.ref 1), some (.int l2), u3, some (.int l4), some (.int l5), u6, u7, some (.int l8), some (.int l9), some (.int l10), (xoi (some v11)), some (.int l12), some (.int l13), some (.int x2)], [])) (y := (503, [some (.ref 0), some (.ref 1), some (.int l2), u3, some (.int l4), some (.int l5), u6, u7, some (.int l8), some (.int l9), some (.int l10), (xoi (some v11)), some (.int l12), some (.int l13), some (.int x2)], [])) (b := x2 = (-1013)) rfl (fun hb => ?_) (fun hb => ?_)
    · replace H := H.1 (hb)
      exact H
    · replace H := H.2 (hb)
      refine Ex.pure 1 (fr2 := (505, [some (.ref 0), some (.ref 1), some (.int l2), u3, some (.int l4), some (.int l5), u6, u7, some (.int l8), some (.int l9), some (.int l10), (xoi (some v11)), some (.int l12), some (.int l13), some (.int x2)], [.int l12])) rfl ?_
      refine Ex.br (x := (530, [some (.ref 0), some (.ref 1), some (.int l2), u3, some (.int l4), some (.int l5), u6, u7, some (.int l8), some (.int l9), some (.int l10), (xoi (some v11)), some (.int l12), some (.int l13), some (.int x2)], [])) (y := (508, [some (.ref 0), some (.ref 1), some (.int l2), u3, some (.int l4), some (.int l5), u6, u7, some (.int l8), some (.int l9), some (.int l10), (xoi (some v11)), some (.int l12), some (.int l13), some (.int x2)], [])) (b := l12 = 0) rfl (fun hb => ?_) (fun hb => ?_)
      · replace H := H.1 (hb)
        exact H
      · replace H := H.2 (hb)
        refine Ex.pure 2 (fr2 := (512, [some (.ref 0), some (.ref 1), some (.int l2), u3, some (.int l4), some (.int l5), u6, u7, some (.int l8), some (.int l9), some (.int l10), (xoi (some v11)), some (.int l12), some (.int l13), some (.int x2)], [.int l13, .int x2])) rfl ?_
        refine Ex.br (x := (530, [some (.ref 0), some (.ref 1), some (.int l2), u3, some (.int l4), some (.int l5), u6, u7, some (.int l8), some (.int l9), some (.int l10), (xoi (some v11)), some (.int l12), some (.int l13), some (.int x2)], [])) (y := (515, [some (.ref 0), some (.ref 1), some (.int l2), u3, some (.int l4), some (.int l5), u6, u7, some (.int l8), some (.int l9), some (.int l10), (xoi (some v11)), some (.int l12), some (.int l13), some (.int x2)], [])) (b := ¬ x2 = l13) rfl (fun hb => ?_) (fun hb => ?_)
        · replace H := H.1 (hb)
          exact H
        · replace H := H.2 (hb)
          refine Ex.pure 2 (fr2 := (518, [some (.ref 0), some (.ref 1), some (.int l2), u3, some (.int l4), some (.int l5), u6, u7, some (.int l8), some (.int l9), some (.int l10), (xoi (some v11)), some (.int l12), some (.int l13), some (.int x2)], [.int l8, .ref 1])) rfl ?_
          refine Ex.cal (rest := []) (j := m_X6_kind) (as := [.ref 1, .int l8]) (vst (a := 68) (b := 2) (c := 5) (rest := []) (vs := [.int l8]) rfl ⟨Nat.le_of_ble_eq_true rfl, Nat.le_of_ble_eq_true rfl⟩ rfl rfl (sg_1 hs)) (H.imp ?_)
          intro rv h4 H
          obtain ⟨x5, rfl, H⟩ := H
          obtain ⟨y6, hs, H⟩ := H
          show Ex d [] tb_L_law (521, [some (.ref 0), some (.ref 1), some (.int l2), u3, some (.int l4), some (.int l5), u6, u7, some (.int l8), some (.int l9), some (.int l10), (xoi (some v11)), some (.int l12), some (.int l13), some (.int x2)], [.int x5]) h4 _
          refine Ex.pure 1 (fr2 := (523, [some (.ref 0), some (.ref 1), some (.int l2), u3, some (.int l4), some (.int l5), u6, u7, some (.int l8), some (.int l9), some (.int l10), (xoi (some v11)), some (.int l12), some (.int l13), some (.int x2)], [.int l13, .int x5])) rfl ?_
          refine Ex.br (x := (530, [some (.ref 0), some (.ref 1), some (.int l2), u3, some (.int l4), some (.int l5), u6, u7, some (.int l8), some (.int l9), some (.int l10), (xoi (some v11)), some (.int l12), some (.int l13), some (.int x2)], [])) (y := (526, [some (.ref 0), some (.ref 1), some (.int l2), u3, some (.int l4), some (.int l5), u6, u7, some (.int l8), some (.int l9), some (.int l10), (xoi (some v11)), some (.int l12), some (.int l13), some (.int x2)], [])) (b := ¬ x5 = l13) rfl (fun hb => ?_) (fun hb => ?_)
          · replace H := H.1 (hb)
            exact H
          · replace H := H.2 (hb)
            exact H
set_option maxRecDepth 100000 in
theorem w_L_law_526 {d : Nat} {h : XH} {y : Nat → Nat} {K : XK} {E : XE} {l2 : Int32} {u3 : Option Value} {l4 : Int32} {l5 : Int32} {u6 : Option Value} {u7 : Option Value} {l8 : Int32} {u9 : Option Value} {u10 : Option Value} {u11 : Option Int32} {u12 : Option Value} {u13 : Option Value} {u14 : Option Value} (hd : 70 ≤ d) (hs : Sg h.1 y) (H : b_L_law_531 d 0 1 l2 (u3) l4 l5 (u6) (u7) l8 (u9) (u10) u11 (u12) (u13) (u14) 1 h K E) : b_L_law_526 d 0 1 l2 u3 l4 l5 u6 u7 l8 u9 u10 u11 u12 u13 u14 h K E := by
  cases u11 with
  | none =>
    show Ex d [] tb_L_law (526, [some (.ref 0), some (.ref 1), some (.int l2), u3, some (.int l4), some (.int l5), u6, u7, some (.int l8), u9, u10, (xoi none), u12, u13, u14], []) h _
    refine Ex.pure 2 (fr2 := (531, [some (.ref 0), some (.ref 1), some (.int l2), u3, some (.int l4), some (.int l5), u6, u7, some (.int l8), u9, u10, (xoi none), u12, u13, u14], [.int 1])) rfl ?_
    exact H
  | some v11 =>
    show Ex d [] tb_L_law (526, [some (.ref 0), some (.ref 1), some (.int l2), u3, some (.int l4), some (.int l5), u6, u7, some (.int l8), u9, u10, (xoi (some v11)), u12, u13, u14], []) h _
    refine Ex.pure 2 (fr2 := (531, [some (.ref 0), some (.ref 1), some (.int l2), u3, some (.int l4), some (.int l5), u6, u7, some (.int l8), u9, u10, (xoi (some v11)), u12, u13, u14], [.int 1])) rfl ?_
    exact H
set_option maxRecDepth 100000 in
theorem w_L_law_530 {d : Nat} {h : XH} {y : Nat → Nat} {K : XK} {E : XE} {l2 : Int32} {u3 : Option Value} {l4 : Int32} {l5 : Int32} {u6 : Option Value} {u7 : Option Value} {l8 : Int32} {u9 : Option Value} {u10 : Option Value} {u11 : Option Int32} {u12 : Option Value} {u13 : Option Value} {u14 : Option Value} (hd : 70 ≤ d) (hs : Sg h.1 y) (H : b_L_law_531 d 0 1 l2 (u3) l4 l5 (u6) (u7) l8 (u9) (u10) u11 (u12) (u13) (u14) 0 h K E) : b_L_law_530 d 0 1 l2 u3 l4 l5 u6 u7 l8 u9 u10 u11 u12 u13 u14 h K E := by
  cases u11 with
  | none =>
    show Ex d [] tb_L_law (530, [some (.ref 0), some (.ref 1), some (.int l2), u3, some (.int l4), some (.int l5), u6, u7, some (.int l8), u9, u10, (xoi none), u12, u13, u14], []) h _
    refine Ex.pure 1 (fr2 := (531, [some (.ref 0), some (.ref 1), some (.int l2), u3, some (.int l4), some (.int l5), u6, u7, some (.int l8), u9, u10, (xoi none), u12, u13, u14], [.int 0])) rfl ?_
    exact H
  | some v11 =>
    show Ex d [] tb_L_law (530, [some (.ref 0), some (.ref 1), some (.int l2), u3, some (.int l4), some (.int l5), u6, u7, some (.int l8), u9, u10, (xoi (some v11)), u12, u13, u14], []) h _
    refine Ex.pure 1 (fr2 := (531, [some (.ref 0), some (.ref 1), some (.int l2), u3, some (.int l4), some (.int l5), u6, u7, some (.int l8), u9, u10, (xoi (some v11)), u12, u13, u14], [.int 0])) rfl ?_
    exact H
set_option maxRecDepth 100000 in
theorem w_L_law_531 {d : Nat} {h : XH} {y : Nat → Nat} {K : XK} {E : XE} {l2 : Int32} {u3 : Option Value} {l4 : Int32} {l5 : Int32} {u6 : Option Value} {u7 : Option Value} {l8 : Int32} {u9 : Option Value} {u10 : Option Value} {u11 : Option Int32} {u12 : Option Value} {u13 : Option Value} {u14 : Option Value} {s0 : Int32} (hd : 70 ≤ d) (hs : Sg h.1 y) (H : b_L_law_1266 d 0 1 l2 s0 l4 l5 (u6) (u7) l8 (u9) (u10) u11 (u12) (u13) (u14) h K E) : b_L_law_531 d 0 1 l2 u3 l4 l5 u6 u7 l8 u9 u10 u11 u12 u13 u14 s0 h K E := by
  cases u11 with
  | none =>
    show Ex d [] tb_L_law (531, [some (.ref 0), some (.ref 1), some (.int l2), u3, some (.int l4), some (.int l5), u6, u7, some (.int l8), u9, u10, (xoi none), u12, u13, u14], [.int s0]) h _
    refine Ex.pure 2 (fr2 := (1266, [some (.ref 0), some (.ref 1), some (.int l2), some (.int s0), some (.int l4), some (.int l5), u6, u7, some (.int l8), u9, u10, (xoi none), u12, u13, u14], [])) rfl ?_
    exact H
  | some v11 =>
    show Ex d [] tb_L_law (531, [some (.ref 0), some (.ref 1), some (.int l2), u3, some (.int l4), some (.int l5), u6, u7, some (.int l8), u9, u10, (xoi (some v11)), u12, u13, u14], [.int s0]) h _
    refine Ex.pure 2 (fr2 := (1266, [some (.ref 0), some (.ref 1), some (.int l2), some (.int s0), some (.int l4), some (.int l5), u6, u7, some (.int l8), u9, u10, (xoi (some v11)), u12, u13, u14], [])) rfl ?_
    exact H
set_option maxRecDepth 100000 in
theorem w_L_law_535 {d : Nat} {h : XH} {y : Nat → Nat} {K : XK} {E : XE} {l2 : Int32} {u3 : Option Value} {l4 : Int32} {l5 : Int32} {l6 : Int32} {l7 : Int32} {l8 : Int32} {l9 : Int32} {l10 : Int32} {u11 : Option Int32} {u12 : Option Value} {u13 : Option Value} {u14 : Option Value} (hd : 70 ≤ d) (hs : Sg h.1 y) (H : (19 ≤ l7 → b_L_law_655 d 0 1 l2 (u3) l4 l5 l6 l7 l8 l9 l10 u11 (u12) (u13) (u14) h K E) ∧ (¬ (19 ≤ l7) → (Ca d m_L_ask [.ref 1, .int (l7 - 13), .int l8, .int l9, .int l10] h (fun rv h1 => ∃ x2, rv = some (.int x2) ∧ ∃ y3 : Nat → Nat, Sg h1.1 y3 ∧ (x2 = (-1013) → b_L_law_582 d 0 1 l2 (u3) l4 l5 (some (.int l6)) l7 l8 l9 l10 u11 x2 (u13) (u14) h1 K E) ∧ (¬ (x2 = (-1013)) → (¬ x2 = 0 → b_L_law_586 d 0 1 l2 (u3) l4 l5 (some (.int l6)) l7 l8 l9 l10 u11 x2 (u13) (u14) h1 K E) ∧ (¬ (¬ x2 = 0) → (Ca d m_X6_kind [.ref 1, .int l8] h1 (fun rv h4 => ∃ x5, rv = some (.int x5) ∧ ∃ y6 : Nat → Nat, Sg h4.1 y6 ∧ (¬ x5 = 1 → b_L_law_586 d 0 1 l2 (u3) l4 l5 (some (.int l6)) l7 l8 l9 l10 u11 x2 (u13) (u14) h4 K E) ∧ (¬ (¬ x5 = 1) → b_L_law_582 d 0 1 l2 (u3) l4 l5 (some (.int l6)) l7 l8 l9 l10 u11 x2 (u13) (u14) h4 K E)) E)))) E))) : b_L_law_535 d 0 1 l2 u3 l4 l5 l6 l7 l8 l9 l10 u11 u12 u13 u14 h K E := by
  cases u11 with
  | none =>
    show Ex d [] tb_L_law (535, [some (.ref 0), some (.ref 1), some (.int l2), u3, some (.int l4), some (.int l5), some (.int l6), some (.int l7), some (.int l8), some (.int l9), some (.int l10), (xoi none), u12, u13, u14], []) h _
    refine Ex.pure 2 (fr2 := (539, [some (.ref 0), some (.ref 1), some (.int l2), u3, some (.int l4), some (.int l5), some (.int l6), some (.int l7), some (.int l8), some (.int l9), some (.int l10), (xoi none), u12, u13, u14], [.int 19, .int l7])) rfl ?_
    refine Ex.br (x := (655, [some (.ref 0), some (.ref 1), some (.int l2), u3, some (.int l4), some (.int l5), some (.int l6), some (.int l7), some (.int l8), some (.int l9), some (.int l10), (xoi none), u12, u13, u14], [])) (y := (542, [some (.ref 0), some (.ref 1), some (.int l2), u3, some (.int l4), some (.int l5), some (.int l6), some (.int l7), some (.int l8), some (.int l9), some (.int l10), (xoi none), u12, u13, u14], [])) (b := 19 ≤ l7) rfl (fun hb => ?_) (fun hb => ?_)
    · replace H := H.1 (hb)
      exact H
    · replace H := H.2 (hb)
      refine Ex.pure 7 (fr2 := (554, [some (.ref 0), some (.ref 1), some (.int l2), u3, some (.int l4), some (.int l5), some (.int l6), some (.int l7), some (.int l8), some (.int l9), some (.int l10), (xoi none), u12, u13, u14], [.int l10, .int l9, .int l8, .int (l7 - 13), .ref 1])) rfl ?_
      refine Ex.cal (rest := []) (j := m_L_ask) (as := [.ref 1, .int (l7 - 13), .int l8, .int l9, .int l10]) (fun c => rfl) (H.imp ?_)
      intro rv h1 H
      obtain ⟨x2, rfl, H⟩ := H
      obtain ⟨y3, hs, H⟩ := H
      show Ex d [] tb_L_law (557, [some (.ref 0), some (.ref 1), some (.int l2), u3, some (.int l4), some (.int l5), some (.int l6), some (.int l7), some (.int l8), some (.int l9), some (.int l10), (xoi none), u12, u13, u14], [.int x2]) h1 _
      refine Ex.pure 3 (fr2 := (564, [some (.ref 0), some (.ref 1), some (.int l2), u3, some (.int l4), some (.int l5), some (.int l6), some (.int l7), some (.int l8), some (.int l9), some (.int l10), (xoi none), some (.int x2), u13, u14], [.int (-1013), .int x2])) rfl ?_
      refine Ex.br (x := (582, [some (.ref 0), some (.ref 1), some (.int l2), u3, some (.int l4), some (.int l5), some (.int l6), some (.int l7), some (.int l8), some (.int l9), some (.int l10), (xoi none), some (.int x2), u13, u14], [])) (y := (567, [some (.ref 0), some (.ref 1), some (.int l2), u3, some (.int l4), some (.int l5), some (.int l6), some (.int l7), some (.int l8), some (.int l9), some (.int l10), (xoi none), some (.int x2), u13, u14], [])) (b := x2 = (-1013)) rfl (fun hb => ?_) (fun hb => ?_)
      · replace H := H.1 (hb)
        exact H
      · replace H := H.2 (hb)
        refine Ex.pure 1 (fr2 := (569, [some (.ref 0), some (.ref 1), some (.int l2), u3, some (.int l4), some (.int l5), some (.int l6), some (.int l7), some (.int l8), some (.int l9), some (.int l10), (xoi none), some (.int x2), u13, u14], [.int x2])) rfl ?_
        refine Ex.br (x := (586, [some (.ref 0), some (.ref 1), some (.int l2), u3, some (.int l4), some (.int l5), some (.int l6), some (.int l7), some (.int l8), some (.int l9), some (.int l10), (xoi none), some (.int x2), u13, u14], [])) (y := (572, [some (.ref 0), some (.ref 1), some (.int l2), u3, some (.int l4), some (.int l5), some (.int l6), some (.int l7), some (.int l8), some (.int l9), some (.int l10), (xoi none), some (.int x2), u13, u14], [])) (b := ¬ x2 = 0) rfl (fun hb => ?_) (fun hb => ?_)
        · replace H := H.1 (hb)
          exact H
        · replace H := H.2 (hb)
          refine Ex.pure 2 (fr2 := (575, [some (.ref 0), some (.ref 1), some (.int l2), u3, some (.int l4), some (.int l5), some (.int l6), some (.int l7), some (.int l8), some (.int l9), some (.int l10), (xoi none), some (.int x2), u13, u14], [.int l8, .ref 1])) rfl ?_
          refine Ex.cal (rest := []) (j := m_X6_kind) (as := [.ref 1, .int l8]) (vst (a := 68) (b := 2) (c := 5) (rest := []) (vs := [.int l8]) rfl ⟨Nat.le_of_ble_eq_true rfl, Nat.le_of_ble_eq_true rfl⟩ rfl rfl (sg_1 hs)) (H.imp ?_)
          intro rv h4 H
          obtain ⟨x5, rfl, H⟩ := H
          obtain ⟨y6, hs, H⟩ := H
          show Ex d [] tb_L_law (578, [some (.ref 0), some (.ref 1), some (.int l2), u3, some (.int l4), some (.int l5), some (.int l6), some (.int l7), some (.int l8), some (.int l9), some (.int l10), (xoi none), some (.int x2), u13, u14], [.int x5]) h4 _
          refine Ex.pure 1 (fr2 := (579, [some (.ref 0), some (.ref 1), some (.int l2), u3, some (.int l4), some (.int l5), some (.int l6), some (.int l7), some (.int l8), some (.int l9), some (.int l10), (xoi none), some (.int x2), u13, u14], [.int 1, .int x5])) rfl ?_
          refine Ex.br (x := (586, [some (.ref 0), some (.ref 1), some (.int l2), u3, some (.int l4), some (.int l5), some (.int l6), some (.int l7), some (.int l8), some (.int l9), some (.int l10), (xoi none), some (.int x2), u13, u14], [])) (y := (582, [some (.ref 0), some (.ref 1), some (.int l2), u3, some (.int l4), some (.int l5), some (.int l6), some (.int l7), some (.int l8), some (.int l9), some (.int l10), (xoi none), some (.int x2), u13, u14], [])) (b := ¬ x5 = 1) rfl (fun hb => ?_) (fun hb => ?_)
          · replace H := H.1 (hb)
            exact H
          · replace H := H.2 (hb)
            exact H
  | some v11 =>
    show Ex d [] tb_L_law (535, [some (.ref 0), some (.ref 1), some (.int l2), u3, some (.int l4), some (.int l5), some (.int l6), some (.int l7), some (.int l8), some (.int l9), some (.int l10), (xoi (some v11)), u12, u13, u14], []) h _
    refine Ex.pure 2 (fr2 := (539, [some (.ref 0), some (.ref 1), some (.int l2), u3, some (.int l4), some (.int l5), some (.int l6), some (.int l7), some (.int l8), some (.int l9), some (.int l10), (xoi (some v11)), u12, u13, u14], [.int 19, .int l7])) rfl ?_
    refine Ex.br (x := (655, [some (.ref 0), some (.ref 1), some (.int l2), u3, some (.int l4), some (.int l5), some (.int l6), some (.int l7), some (.int l8), some (.int l9), some (.int l10), (xoi (some v11)), u12, u13, u14], [])) (y := (542, [some (.ref 0), some (.ref 1), some (.int l2), u3, some (.int l4), some (.int l5), some (.int l6), some (.int l7), some (.int l8), some (.int l9), some (.int l10), (xoi (some v11)), u12, u13, u14], [])) (b := 19 ≤ l7) rfl (fun hb => ?_) (fun hb => ?_)
    · replace H := H.1 (hb)
      exact H
    · replace H := H.2 (hb)
      refine Ex.pure 7 (fr2 := (554, [some (.ref 0), some (.ref 1), some (.int l2), u3, some (.int l4), some (.int l5), some (.int l6), some (.int l7), some (.int l8), some (.int l9), some (.int l10), (xoi (some v11)), u12, u13, u14], [.int l10, .int l9, .int l8, .int (l7 - 13), .ref 1])) rfl ?_
      refine Ex.cal (rest := []) (j := m_L_ask) (as := [.ref 1, .int (l7 - 13), .int l8, .int l9, .int l10]) (fun c => rfl) (H.imp ?_)
      intro rv h1 H
      obtain ⟨x2, rfl, H⟩ := H
      obtain ⟨y3, hs, H⟩ := H
      show Ex d [] tb_L_law (557, [some (.ref 0), some (.ref 1), some (.int l2), u3, some (.int l4), some (.int l5), some (.int l6), some (.int l7), some (.int l8), some (.int l9), some (.int l10), (xoi (some v11)), u12, u13, u14], [.int x2]) h1 _
      refine Ex.pure 3 (fr2 := (564, [some (.ref 0), some (.ref 1), some (.int l2), u3, some (.int l4), some (.int l5), some (.int l6), some (.int l7), some (.int l8), some (.int l9), some (.int l10), (xoi (some v11)), some (.int x2), u13, u14], [.int (-1013), .int x2])) rfl ?_
      refine Ex.br (x := (582, [some (.ref 0), some (.ref 1), some (.int l2), u3, some (.int l4), some (.int l5), some (.int l6), some (.int l7), some (.int l8), some (.int l9), some (.int l10), (xoi (some v11)), some (.int x2), u13, u14], [])) (y := (567, [some (.ref 0), some (.ref 1), some (.int l2), u3, some (.int l4), some (.int l5), some (.int l6), some (.int l7), some (.int l8), some (.int l9), some (.int l10), (xoi (some v11)), some (.int x2), u13, u14], [])) (b := x2 = (-1013)) rfl (fun hb => ?_) (fun hb => ?_)
      · replace H := H.1 (hb)
        exact H
      · replace H := H.2 (hb)
        refine Ex.pure 1 (fr2 := (569, [some (.ref 0), some (.ref 1), some (.int l2), u3, some (.int l4), some (.int l5), some (.int l6), some (.int l7), some (.int l8), some (.int l9), some (.int l10), (xoi (some v11)), some (.int x2), u13, u14], [.int x2])) rfl ?_
        refine Ex.br (x := (586, [some (.ref 0), some (.ref 1), some (.int l2), u3, some (.int l4), some (.int l5), some (.int l6), some (.int l7), some (.int l8), some (.int l9), some (.int l10), (xoi (some v11)), some (.int x2), u13, u14], [])) (y := (572, [some (.ref 0), some (.ref 1), some (.int l2), u3, some (.int l4), some (.int l5), some (.int l6), some (.int l7), some (.int l8), some (.int l9), some (.int l10), (xoi (some v11)), some (.int x2), u13, u14], [])) (b := ¬ x2 = 0) rfl (fun hb => ?_) (fun hb => ?_)
        · replace H := H.1 (hb)
          exact H
        · replace H := H.2 (hb)
          refine Ex.pure 2 (fr2 := (575, [some (.ref 0), some (.ref 1), some (.int l2), u3, some (.int l4), some (.int l5), some (.int l6), some (.int l7), some (.int l8), some (.int l9), some (.int l10), (xoi (some v11)), some (.int x2), u13, u14], [.int l8, .ref 1])) rfl ?_
          refine Ex.cal (rest := []) (j := m_X6_kind) (as := [.ref 1, .int l8]) (vst (a := 68) (b := 2) (c := 5) (rest := []) (vs := [.int l8]) rfl ⟨Nat.le_of_ble_eq_true rfl, Nat.le_of_ble_eq_true rfl⟩ rfl rfl (sg_1 hs)) (H.imp ?_)
          intro rv h4 H
          obtain ⟨x5, rfl, H⟩ := H
          obtain ⟨y6, hs, H⟩ := H
          show Ex d [] tb_L_law (578, [some (.ref 0), some (.ref 1), some (.int l2), u3, some (.int l4), some (.int l5), some (.int l6), some (.int l7), some (.int l8), some (.int l9), some (.int l10), (xoi (some v11)), some (.int x2), u13, u14], [.int x5]) h4 _
          refine Ex.pure 1 (fr2 := (579, [some (.ref 0), some (.ref 1), some (.int l2), u3, some (.int l4), some (.int l5), some (.int l6), some (.int l7), some (.int l8), some (.int l9), some (.int l10), (xoi (some v11)), some (.int x2), u13, u14], [.int 1, .int x5])) rfl ?_
          refine Ex.br (x := (586, [some (.ref 0), some (.ref 1), some (.int l2), u3, some (.int l4), some (.int l5), some (.int l6), some (.int l7), some (.int l8), some (.int l9), some (.int l10), (xoi (some v11)), some (.int x2), u13, u14], [])) (y := (582, [some (.ref 0), some (.ref 1), some (.int l2), u3, some (.int l4), some (.int l5), some (.int l6), some (.int l7), some (.int l8), some (.int l9), some (.int l10), (xoi (some v11)), some (.int x2), u13, u14], [])) (b := ¬ x5 = 1) rfl (fun hb => ?_) (fun hb => ?_)
          · replace H := H.1 (hb)
            exact H
          · replace H := H.2 (hb)
            exact H
set_option maxRecDepth 100000 in
theorem w_L_law_582 {d : Nat} {h : XH} {y : Nat → Nat} {K : XK} {E : XE} {l2 : Int32} {u3 : Option Value} {l4 : Int32} {l5 : Int32} {u6 : Option Value} {l7 : Int32} {l8 : Int32} {l9 : Int32} {l10 : Int32} {u11 : Option Int32} {l12 : Int32} {u13 : Option Value} {u14 : Option Value} (hd : 70 ≤ d) (hs : Sg h.1 y) (H : b_L_law_587 d 0 1 l2 (u3) l4 l5 (u6) l7 l8 l9 l10 u11 l12 (u13) (u14) 1 h K E) : b_L_law_582 d 0 1 l2 u3 l4 l5 u6 l7 l8 l9 l10 u11 l12 u13 u14 h K E := by
  cases u11 with
  | none =>
    show Ex d [] tb_L_law (582, [some (.ref 0), some (.ref 1), some (.int l2), u3, some (.int l4), some (.int l5), u6, some (.int l7), some (.int l8), some (.int l9), some (.int l10), (xoi none), some (.int l12), u13, u14], []) h _
    refine Ex.pure 2 (fr2 := (587, [some (.ref 0), some (.ref 1), some (.int l2), u3, some (.int l4), some (.int l5), u6, some (.int l7), some (.int l8), some (.int l9), some (.int l10), (xoi none), some (.int l12), u13, u14], [.int 1])) rfl ?_
    exact H
  | some v11 =>
    show Ex d [] tb_L_law (582, [some (.ref 0), some (.ref 1), some (.int l2), u3, some (.int l4), some (.int l5), u6, some (.int l7), some (.int l8), some (.int l9), some (.int l10), (xoi (some v11)), some (.int l12), u13, u14], []) h _
    refine Ex.pure 2 (fr2 := (587, [some (.ref 0), some (.ref 1), some (.int l2), u3, some (.int l4), some (.int l5), u6, some (.int l7), some (.int l8), some (.int l9), some (.int l10), (xoi (some v11)), some (.int l12), u13, u14], [.int 1])) rfl ?_
    exact H
set_option maxRecDepth 100000 in
theorem w_L_law_586 {d : Nat} {h : XH} {y : Nat → Nat} {K : XK} {E : XE} {l2 : Int32} {u3 : Option Value} {l4 : Int32} {l5 : Int32} {u6 : Option Value} {l7 : Int32} {l8 : Int32} {l9 : Int32} {l10 : Int32} {u11 : Option Int32} {l12 : Int32} {u13 : Option Value} {u14 : Option Value} (hd : 70 ≤ d) (hs : Sg h.1 y) (H : b_L_law_587 d 0 1 l2 (u3) l4 l5 (u6) l7 l8 l9 l10 u11 l12 (u13) (u14) 0 h K E) : b_L_law_586 d 0 1 l2 u3 l4 l5 u6 l7 l8 l9 l10 u11 l12 u13 u14 h K E := by
  cases u11 with
  | none =>
    show Ex d [] tb_L_law (586, [some (.ref 0), some (.ref 1), some (.int l2), u3, some (.int l4), some (.int l5), u6, some (.int l7), some (.int l8), some (.int l9), some (.int l10), (xoi none), some (.int l12), u13, u14], []) h _
    refine Ex.pure 1 (fr2 := (587, [some (.ref 0), some (.ref 1), some (.int l2), u3, some (.int l4), some (.int l5), u6, some (.int l7), some (.int l8), some (.int l9), some (.int l10), (xoi none), some (.int l12), u13, u14], [.int 0])) rfl ?_
    exact H
  | some v11 =>
    show Ex d [] tb_L_law (586, [some (.ref 0), some (.ref 1), some (.int l2), u3, some (.int l4), some (.int l5), u6, some (.int l7), some (.int l8), some (.int l9), some (.int l10), (xoi (some v11)), some (.int l12), u13, u14], []) h _
    refine Ex.pure 1 (fr2 := (587, [some (.ref 0), some (.ref 1), some (.int l2), u3, some (.int l4), some (.int l5), u6, some (.int l7), some (.int l8), some (.int l9), some (.int l10), (xoi (some v11)), some (.int l12), u13, u14], [.int 0])) rfl ?_
    exact H
set_option maxRecDepth 100000 in
theorem w_L_law_587 {d : Nat} {h : XH} {y : Nat → Nat} {K : XK} {E : XE} {l2 : Int32} {u3 : Option Value} {l4 : Int32} {l5 : Int32} {u6 : Option Value} {l7 : Int32} {l8 : Int32} {l9 : Int32} {l10 : Int32} {u11 : Option Int32} {l12 : Int32} {u13 : Option Value} {u14 : Option Value} {s0 : Int32} (hd : 70 ≤ d) (hs : Sg h.1 y) (H : (s0 = 0 → b_L_law_650 d 0 1 l2 (some (.int s0)) l4 l5 (u6) (some (.int l7)) l8 (some (.int l9)) (some (.int l10)) u11 (some (.int l12)) (u13) (u14) h K E) ∧ (¬ (s0 = 0) → (l12 < 0 → b_L_law_646 d 0 1 l2 (some (.int s0)) l4 l5 (u6) (some (.int l7)) l8 (some (.int l9)) (some (.int l10)) u11 (some (.int l12)) (u13) (u14) h K E) ∧ (¬ (l12 < 0) → (l8 = l9 → b_L_law_646 d 0 1 l2 (some (.int s0)) l4 l5 (u6) (some (.int l7)) l8 (some (.int l9)) (some (.int l10)) u11 (some (.int l12)) (u13) (u14) h K E) ∧ (¬ (l8 = l9) → (l8 = l10 → b_L_law_646 d 0 1 l2 (some (.int s0)) l4 l5 (u6) (some (.int l7)) l8 (some (.int l9)) (some (.int l10)) u11 (some (.int l12)) (u13) (u14) h K E) ∧ (¬ (l8 = l10) → (l7 = 18 → b_L_law_646 d 0 1 l2 (some (.int s0)) l4 l5 (u6) (some (.int l7)) l8 (some (.int l9)) (some (.int l10)) u11 (some (.int l12)) (u13) (u14) h K E) ∧ (¬ (l7 = 18) → (Ca d m_L_ask [.ref 1, .int 12, .int l8, .int l9, .int 0] h (fun rv h1 => ∃ x2, rv = some (.int x2) ∧ ∃ y3 : Nat → Nat, Sg h1.1 y3 ∧ (x2 < 0 → b_L_law_650 d 0 1 l2 (some (.int s0)) l4 l5 (u6) (some (.int l7)) l8 (some (.int l9)) (some (.int l10)) u11 (some (.int l12)) (u13) (u14) h1 K E) ∧ (¬ (x2 < 0) → (Ca d m_L_ask [.ref 1, .int 12, .int l8, .int l10, .int 0] h1 (fun rv h4 => ∃ x5, rv = some (.int x5) ∧ ∃ y6 : Nat → Nat, Sg h4.1 y6 ∧ (x5 < 0 → b_L_law_650 d 0 1 l2 (some (.int s0)) l4 l5 (u6) (some (.int l7)) l8 (some (.int l9)) (some (.int l10)) u11 (some (.int l12)) (u13) (u14) h4 K E) ∧ (¬ (x5 < 0) → b_L_law_646 d 0 1 l2 (some (.int s0)) l4 l5 (u6) (some (.int l7)) l8 (some (.int l9)) (some (.int l10)) u11 (some (.int l12)) (u13) (u14) h4 K E)) E))) E))))))) : b_L_law_587 d 0 1 l2 u3 l4 l5 u6 l7 l8 l9 l10 u11 l12 u13 u14 s0 h K E := by
  cases u11 with
  | none =>
    show Ex d [] tb_L_law (587, [some (.ref 0), some (.ref 1), some (.int l2), u3, some (.int l4), some (.int l5), u6, some (.int l7), some (.int l8), some (.int l9), some (.int l10), (xoi none), some (.int l12), u13, u14], [.int s0]) h _
    refine Ex.pure 2 (fr2 := (589, [some (.ref 0), some (.ref 1), some (.int l2), some (.int s0), some (.int l4), some (.int l5), u6, some (.int l7), some (.int l8), some (.int l9), some (.int l10), (xoi none), some (.int l12), u13, u14], [.int s0])) rfl ?_
    refine Ex.br (x := (650, [some (.ref 0), some (.ref 1), some (.int l2), some (.int s0), some (.int l4), some (.int l5), u6, some (.int l7), some (.int l8), some (.int l9), some (.int l10), (xoi none), some (.int l12), u13, u14], [])) (y := (592, [some (.ref 0), some (.ref 1), some (.int l2), some (.int s0), some (.int l4), some (.int l5), u6, some (.int l7), some (.int l8), some (.int l9), some (.int l10), (xoi none), some (.int l12), u13, u14], [])) (b := s0 = 0) rfl (fun hb => ?_) (fun hb => ?_)
    · replace H := H.1 (hb)
      exact H
    · replace H := H.2 (hb)
      refine Ex.pure 1 (fr2 := (594, [some (.ref 0), some (.ref 1), some (.int l2), some (.int s0), some (.int l4), some (.int l5), u6, some (.int l7), some (.int l8), some (.int l9), some (.int l10), (xoi none), some (.int l12), u13, u14], [.int l12])) rfl ?_
      refine Ex.br (x := (646, [some (.ref 0), some (.ref 1), some (.int l2), some (.int s0), some (.int l4), some (.int l5), u6, some (.int l7), some (.int l8), some (.int l9), some (.int l10), (xoi none), some (.int l12), u13, u14], [])) (y := (597, [some (.ref 0), some (.ref 1), some (.int l2), some (.int s0), some (.int l4), some (.int l5), u6, some (.int l7), some (.int l8), some (.int l9), some (.int l10), (xoi none), some (.int l12), u13, u14], [])) (b := l12 < 0) rfl (fun hb => ?_) (fun hb => ?_)
      · replace H := H.1 (hb)
        exact H
      · replace H := H.2 (hb)
        refine Ex.pure 2 (fr2 := (601, [some (.ref 0), some (.ref 1), some (.int l2), some (.int s0), some (.int l4), some (.int l5), u6, some (.int l7), some (.int l8), some (.int l9), some (.int l10), (xoi none), some (.int l12), u13, u14], [.int l9, .int l8])) rfl ?_
        refine Ex.br (x := (646, [some (.ref 0), some (.ref 1), some (.int l2), some (.int s0), some (.int l4), some (.int l5), u6, some (.int l7), some (.int l8), some (.int l9), some (.int l10), (xoi none), some (.int l12), u13, u14], [])) (y := (604, [some (.ref 0), some (.ref 1), some (.int l2), some (.int s0), some (.int l4), some (.int l5), u6, some (.int l7), some (.int l8), some (.int l9), some (.int l10), (xoi none), some (.int l12), u13, u14], [])) (b := l8 = l9) rfl (fun hb => ?_) (fun hb => ?_)
        · replace H := H.1 (hb)
          exact H
        · replace H := H.2 (hb)
          refine Ex.pure 2 (fr2 := (608, [some (.ref 0), some (.ref 1), some (.int l2), some (.int s0), some (.int l4), some (.int l5), u6, some (.int l7), some (.int l8), some (.int l9), some (.int l10), (xoi none), some (.int l12), u13, u14], [.int l10, .int l8])) rfl ?_
          refine Ex.br (x := (646, [some (.ref 0), some (.ref 1), some (.int l2), some (.int s0), some (.int l4), some (.int l5), u6, some (.int l7), some (.int l8), some (.int l9), some (.int l10), (xoi none), some (.int l12), u13, u14], [])) (y := (611, [some (.ref 0), some (.ref 1), some (.int l2), some (.int s0), some (.int l4), some (.int l5), u6, some (.int l7), some (.int l8), some (.int l9), some (.int l10), (xoi none), some (.int l12), u13, u14], [])) (b := l8 = l10) rfl (fun hb => ?_) (fun hb => ?_)
          · replace H := H.1 (hb)
            exact H
          · replace H := H.2 (hb)
            refine Ex.pure 2 (fr2 := (615, [some (.ref 0), some (.ref 1), some (.int l2), some (.int s0), some (.int l4), some (.int l5), u6, some (.int l7), some (.int l8), some (.int l9), some (.int l10), (xoi none), some (.int l12), u13, u14], [.int 18, .int l7])) rfl ?_
            refine Ex.br (x := (646, [some (.ref 0), some (.ref 1), some (.int l2), some (.int s0), some (.int l4), some (.int l5), u6, some (.int l7), some (.int l8), some (.int l9), some (.int l10), (xoi none), some (.int l12), u13, u14], [])) (y := (618, [some (.ref 0), some (.ref 1), some (.int l2), some (.int s0), some (.int l4), some (.int l5), u6, some (.int l7), some (.int l8), some (.int l9), some (.int l10), (xoi none), some (.int l12), u13, u14], [])) (b := l7 = 18) rfl (fun hb => ?_) (fun hb => ?_)
            · replace H := H.1 (hb)
              exact H
            · replace H := H.2 (hb)
              refine Ex.pure 5 (fr2 := (626, [some (.ref 0), some (.ref 1), some (.int l2), some (.int s0), some (.int l4), some (.int l5), u6, some (.int l7), some (.int l8), some (.int l9), some (.int l10), (xoi none), some (.int l12), u13, u14], [.int 0, .int l9, .int l8, .int 12, .ref 1])) rfl ?_
              refine Ex.cal (rest := []) (j := m_L_ask) (as := [.ref 1, .int 12, .int l8, .int l9, .int 0]) (fun c => rfl) (H.imp ?_)
              intro rv h1 H
              obtain ⟨x2, rfl, H⟩ := H
              obtain ⟨y3, hs, H⟩ := H
              show Ex d [] tb_L_law (629, [some (.ref 0), some (.ref 1), some (.int l2), some (.int s0), some (.int l4), some (.int l5), u6, some (.int l7), some (.int l8), some (.int l9), some (.int l10), (xoi none), some (.int l12), u13, u14], [.int x2]) h1 _
              refine Ex.br (x := (650, [some (.ref 0), some (.ref 1), some (.int l2), some (.int s0), some (.int l4), some (.int l5), u6, some (.int l7), some (.int l8), some (.int l9), some (.int l10), (xoi none), some (.int l12), u13, u14], [])) (y := (632, [some (.ref 0), some (.ref 1), some (.int l2), some (.int s0), some (.int l4), some (.int l5), u6, some (.int l7), some (.int l8), some (.int l9), some (.int l10), (xoi none), some (.int l12), u13, u14], [])) (b := x2 < 0) rfl (fun hb => ?_) (fun hb => ?_)
              · replace H := H.1 (hb)
                exact H
              · replace H := H.2 (hb)
                refine Ex.pure 5 (fr2 := (640, [some (.ref 0), some (.ref 1), some (.int l2), some (.int s0), some (.int l4), some (.int l5), u6, some (.int l7), some (.int l8), some (.int l9), some (.int l10), (xoi none), some (.int l12), u13, u14], [.int 0, .int l10, .int l8, .int 12, .ref 1])) rfl ?_
                refine Ex.cal (rest := []) (j := m_L_ask) (as := [.ref 1, .int 12, .int l8, .int l10, .int 0]) (fun c => rfl) (H.imp ?_)
                intro rv h4 H
                obtain ⟨x5, rfl, H⟩ := H
                obtain ⟨y6, hs, H⟩ := H
                show Ex d [] tb_L_law (643, [some (.ref 0), some (.ref 1), some (.int l2), some (.int s0), some (.int l4), some (.int l5), u6, some (.int l7), some (.int l8), some (.int l9), some (.int l10), (xoi none), some (.int l12), u13, u14], [.int x5]) h4 _
                refine Ex.br (x := (650, [some (.ref 0), some (.ref 1), some (.int l2), some (.int s0), some (.int l4), some (.int l5), u6, some (.int l7), some (.int l8), some (.int l9), some (.int l10), (xoi none), some (.int l12), u13, u14], [])) (y := (646, [some (.ref 0), some (.ref 1), some (.int l2), some (.int s0), some (.int l4), some (.int l5), u6, some (.int l7), some (.int l8), some (.int l9), some (.int l10), (xoi none), some (.int l12), u13, u14], [])) (b := x5 < 0) rfl (fun hb => ?_) (fun hb => ?_)
                · replace H := H.1 (hb)
                  exact H
                · replace H := H.2 (hb)
                  exact H
  | some v11 =>
    show Ex d [] tb_L_law (587, [some (.ref 0), some (.ref 1), some (.int l2), u3, some (.int l4), some (.int l5), u6, some (.int l7), some (.int l8), some (.int l9), some (.int l10), (xoi (some v11)), some (.int l12), u13, u14], [.int s0]) h _
    refine Ex.pure 2 (fr2 := (589, [some (.ref 0), some (.ref 1), some (.int l2), some (.int s0), some (.int l4), some (.int l5), u6, some (.int l7), some (.int l8), some (.int l9), some (.int l10), (xoi (some v11)), some (.int l12), u13, u14], [.int s0])) rfl ?_
    refine Ex.br (x := (650, [some (.ref 0), some (.ref 1), some (.int l2), some (.int s0), some (.int l4), some (.int l5), u6, some (.int l7), some (.int l8), some (.int l9), some (.int l10), (xoi (some v11)), some (.int l12), u13, u14], [])) (y := (592, [some (.ref 0), some (.ref 1), some (.int l2), some (.int s0), some (.int l4), some (.int l5), u6, some (.int l7), some (.int l8), some (.int l9), some (.int l10), (xoi (some v11)), some (.int l12), u13, u14], [])) (b := s0 = 0) rfl (fun hb => ?_) (fun hb => ?_)
    · replace H := H.1 (hb)
      exact H
    · replace H := H.2 (hb)
      refine Ex.pure 1 (fr2 := (594, [some (.ref 0), some (.ref 1), some (.int l2), some (.int s0), some (.int l4), some (.int l5), u6, some (.int l7), some (.int l8), some (.int l9), some (.int l10), (xoi (some v11)), some (.int l12), u13, u14], [.int l12])) rfl ?_
      refine Ex.br (x := (646, [some (.ref 0), some (.ref 1), some (.int l2), some (.int s0), some (.int l4), some (.int l5), u6, some (.int l7), some (.int l8), some (.int l9), some (.int l10), (xoi (some v11)), some (.int l12), u13, u14], [])) (y := (597, [some (.ref 0), some (.ref 1), some (.int l2), some (.int s0), some (.int l4), some (.int l5), u6, some (.int l7), some (.int l8), some (.int l9), some (.int l10), (xoi (some v11)), some (.int l12), u13, u14], [])) (b := l12 < 0) rfl (fun hb => ?_) (fun hb => ?_)
      · replace H := H.1 (hb)
        exact H
      · replace H := H.2 (hb)
        refine Ex.pure 2 (fr2 := (601, [some (.ref 0), some (.ref 1), some (.int l2), some (.int s0), some (.int l4), some (.int l5), u6, some (.int l7), some (.int l8), some (.int l9), some (.int l10), (xoi (some v11)), some (.int l12), u13, u14], [.int l9, .int l8])) rfl ?_
        refine Ex.br (x := (646, [some (.ref 0), some (.ref 1), some (.int l2), some (.int s0), some (.int l4), some (.int l5), u6, some (.int l7), some (.int l8), some (.int l9), some (.int l10), (xoi (some v11)), some (.int l12), u13, u14], [])) (y := (604, [some (.ref 0), some (.ref 1), some (.int l2), some (.int s0), some (.int l4), some (.int l5), u6, some (.int l7), some (.int l8), some (.int l9), some (.int l10), (xoi (some v11)), some (.int l12), u13, u14], [])) (b := l8 = l9) rfl (fun hb => ?_) (fun hb => ?_)
        · replace H := H.1 (hb)
          exact H
        · replace H := H.2 (hb)
          refine Ex.pure 2 (fr2 := (608, [some (.ref 0), some (.ref 1), some (.int l2), some (.int s0), some (.int l4), some (.int l5), u6, some (.int l7), some (.int l8), some (.int l9), some (.int l10), (xoi (some v11)), some (.int l12), u13, u14], [.int l10, .int l8])) rfl ?_
          refine Ex.br (x := (646, [some (.ref 0), some (.ref 1), some (.int l2), some (.int s0), some (.int l4), some (.int l5), u6, some (.int l7), some (.int l8), some (.int l9), some (.int l10), (xoi (some v11)), some (.int l12), u13, u14], [])) (y := (611, [some (.ref 0), some (.ref 1), some (.int l2), some (.int s0), some (.int l4), some (.int l5), u6, some (.int l7), some (.int l8), some (.int l9), some (.int l10), (xoi (some v11)), some (.int l12), u13, u14], [])) (b := l8 = l10) rfl (fun hb => ?_) (fun hb => ?_)
          · replace H := H.1 (hb)
            exact H
          · replace H := H.2 (hb)
            refine Ex.pure 2 (fr2 := (615, [some (.ref 0), some (.ref 1), some (.int l2), some (.int s0), some (.int l4), some (.int l5), u6, some (.int l7), some (.int l8), some (.int l9), some (.int l10), (xoi (some v11)), some (.int l12), u13, u14], [.int 18, .int l7])) rfl ?_
            refine Ex.br (x := (646, [some (.ref 0), some (.ref 1), some (.int l2), some (.int s0), some (.int l4), some (.int l5), u6, some (.int l7), some (.int l8), some (.int l9), some (.int l10), (xoi (some v11)), some (.int l12), u13, u14], [])) (y := (618, [some (.ref 0), some (.ref 1), some (.int l2), some (.int s0), some (.int l4), some (.int l5), u6, some (.int l7), some (.int l8), some (.int l9), some (.int l10), (xoi (some v11)), some (.int l12), u13, u14], [])) (b := l7 = 18) rfl (fun hb => ?_) (fun hb => ?_)
            · replace H := H.1 (hb)
              exact H
            · replace H := H.2 (hb)
              refine Ex.pure 5 (fr2 := (626, [some (.ref 0), some (.ref 1), some (.int l2), some (.int s0), some (.int l4), some (.int l5), u6, some (.int l7), some (.int l8), some (.int l9), some (.int l10), (xoi (some v11)), some (.int l12), u13, u14], [.int 0, .int l9, .int l8, .int 12, .ref 1])) rfl ?_
              refine Ex.cal (rest := []) (j := m_L_ask) (as := [.ref 1, .int 12, .int l8, .int l9, .int 0]) (fun c => rfl) (H.imp ?_)
              intro rv h1 H
              obtain ⟨x2, rfl, H⟩ := H
              obtain ⟨y3, hs, H⟩ := H
              show Ex d [] tb_L_law (629, [some (.ref 0), some (.ref 1), some (.int l2), some (.int s0), some (.int l4), some (.int l5), u6, some (.int l7), some (.int l8), some (.int l9), some (.int l10), (xoi (some v11)), some (.int l12), u13, u14], [.int x2]) h1 _
              refine Ex.br (x := (650, [some (.ref 0), some (.ref 1), some (.int l2), some (.int s0), some (.int l4), some (.int l5), u6, some (.int l7), some (.int l8), some (.int l9), some (.int l10), (xoi (some v11)), some (.int l12), u13, u14], [])) (y := (632, [some (.ref 0), some (.ref 1), some (.int l2), some (.int s0), some (.int l4), some (.int l5), u6, some (.int l7), some (.int l8), some (.int l9), some (.int l10), (xoi (some v11)), some (.int l12), u13, u14], [])) (b := x2 < 0) rfl (fun hb => ?_) (fun hb => ?_)
              · replace H := H.1 (hb)
                exact H
              · replace H := H.2 (hb)
                refine Ex.pure 5 (fr2 := (640, [some (.ref 0), some (.ref 1), some (.int l2), some (.int s0), some (.int l4), some (.int l5), u6, some (.int l7), some (.int l8), some (.int l9), some (.int l10), (xoi (some v11)), some (.int l12), u13, u14], [.int 0, .int l10, .int l8, .int 12, .ref 1])) rfl ?_
                refine Ex.cal (rest := []) (j := m_L_ask) (as := [.ref 1, .int 12, .int l8, .int l10, .int 0]) (fun c => rfl) (H.imp ?_)
                intro rv h4 H
                obtain ⟨x5, rfl, H⟩ := H
                obtain ⟨y6, hs, H⟩ := H
                show Ex d [] tb_L_law (643, [some (.ref 0), some (.ref 1), some (.int l2), some (.int s0), some (.int l4), some (.int l5), u6, some (.int l7), some (.int l8), some (.int l9), some (.int l10), (xoi (some v11)), some (.int l12), u13, u14], [.int x5]) h4 _
                refine Ex.br (x := (650, [some (.ref 0), some (.ref 1), some (.int l2), some (.int s0), some (.int l4), some (.int l5), u6, some (.int l7), some (.int l8), some (.int l9), some (.int l10), (xoi (some v11)), some (.int l12), u13, u14], [])) (y := (646, [some (.ref 0), some (.ref 1), some (.int l2), some (.int s0), some (.int l4), some (.int l5), u6, some (.int l7), some (.int l8), some (.int l9), some (.int l10), (xoi (some v11)), some (.int l12), u13, u14], [])) (b := x5 < 0) rfl (fun hb => ?_) (fun hb => ?_)
                · replace H := H.1 (hb)
                  exact H
                · replace H := H.2 (hb)
                  exact H
set_option maxRecDepth 100000 in
theorem w_L_law_646 {d : Nat} {h : XH} {y : Nat → Nat} {K : XK} {E : XE} {l2 : Int32} {u3 : Option Value} {l4 : Int32} {l5 : Int32} {u6 : Option Value} {u7 : Option Value} {l8 : Int32} {u9 : Option Value} {u10 : Option Value} {u11 : Option Int32} {u12 : Option Value} {u13 : Option Value} {u14 : Option Value} (hd : 70 ≤ d) (hs : Sg h.1 y) (H : b_L_law_651 d 0 1 l2 (u3) l4 l5 (u6) (u7) l8 (u9) (u10) u11 (u12) (u13) (u14) 1 h K E) : b_L_law_646 d 0 1 l2 u3 l4 l5 u6 u7 l8 u9 u10 u11 u12 u13 u14 h K E := by
  cases u11 with
  | none =>
    show Ex d [] tb_L_law (646, [some (.ref 0), some (.ref 1), some (.int l2), u3, some (.int l4), some (.int l5), u6, u7, some (.int l8), u9, u10, (xoi none), u12, u13, u14], []) h _
    refine Ex.pure 2 (fr2 := (651, [some (.ref 0), some (.ref 1), some (.int l2), u3, some (.int l4), some (.int l5), u6, u7, some (.int l8), u9, u10, (xoi none), u12, u13, u14], [.int 1])) rfl ?_
    exact H
  | some v11 =>
    show Ex d [] tb_L_law (646, [some (.ref 0), some (.ref 1), some (.int l2), u3, some (.int l4), some (.int l5), u6, u7, some (.int l8), u9, u10, (xoi (some v11)), u12, u13, u14], []) h _
    refine Ex.pure 2 (fr2 := (651, [some (.ref 0), some (.ref 1), some (.int l2), u3, some (.int l4), some (.int l5), u6, u7, some (.int l8), u9, u10, (xoi (some v11)), u12, u13, u14], [.int 1])) rfl ?_
    exact H
set_option maxRecDepth 100000 in
theorem w_L_law_650 {d : Nat} {h : XH} {y : Nat → Nat} {K : XK} {E : XE} {l2 : Int32} {u3 : Option Value} {l4 : Int32} {l5 : Int32} {u6 : Option Value} {u7 : Option Value} {l8 : Int32} {u9 : Option Value} {u10 : Option Value} {u11 : Option Int32} {u12 : Option Value} {u13 : Option Value} {u14 : Option Value} (hd : 70 ≤ d) (hs : Sg h.1 y) (H : b_L_law_651 d 0 1 l2 (u3) l4 l5 (u6) (u7) l8 (u9) (u10) u11 (u12) (u13) (u14) 0 h K E) : b_L_law_650 d 0 1 l2 u3 l4 l5 u6 u7 l8 u9 u10 u11 u12 u13 u14 h K E := by
  cases u11 with
  | none =>
    show Ex d [] tb_L_law (650, [some (.ref 0), some (.ref 1), some (.int l2), u3, some (.int l4), some (.int l5), u6, u7, some (.int l8), u9, u10, (xoi none), u12, u13, u14], []) h _
    refine Ex.pure 1 (fr2 := (651, [some (.ref 0), some (.ref 1), some (.int l2), u3, some (.int l4), some (.int l5), u6, u7, some (.int l8), u9, u10, (xoi none), u12, u13, u14], [.int 0])) rfl ?_
    exact H
  | some v11 =>
    show Ex d [] tb_L_law (650, [some (.ref 0), some (.ref 1), some (.int l2), u3, some (.int l4), some (.int l5), u6, u7, some (.int l8), u9, u10, (xoi (some v11)), u12, u13, u14], []) h _
    refine Ex.pure 1 (fr2 := (651, [some (.ref 0), some (.ref 1), some (.int l2), u3, some (.int l4), some (.int l5), u6, u7, some (.int l8), u9, u10, (xoi (some v11)), u12, u13, u14], [.int 0])) rfl ?_
    exact H
set_option maxRecDepth 100000 in
theorem w_L_law_651 {d : Nat} {h : XH} {y : Nat → Nat} {K : XK} {E : XE} {l2 : Int32} {u3 : Option Value} {l4 : Int32} {l5 : Int32} {u6 : Option Value} {u7 : Option Value} {l8 : Int32} {u9 : Option Value} {u10 : Option Value} {u11 : Option Int32} {u12 : Option Value} {u13 : Option Value} {u14 : Option Value} {s0 : Int32} (hd : 70 ≤ d) (hs : Sg h.1 y) (H : b_L_law_1266 d 0 1 l2 s0 l4 l5 (u6) (u7) l8 (u9) (u10) u11 (u12) (u13) (u14) h K E) : b_L_law_651 d 0 1 l2 u3 l4 l5 u6 u7 l8 u9 u10 u11 u12 u13 u14 s0 h K E := by
  cases u11 with
  | none =>
    show Ex d [] tb_L_law (651, [some (.ref 0), some (.ref 1), some (.int l2), u3, some (.int l4), some (.int l5), u6, u7, some (.int l8), u9, u10, (xoi none), u12, u13, u14], [.int s0]) h _
    refine Ex.pure 2 (fr2 := (1266, [some (.ref 0), some (.ref 1), some (.int l2), some (.int s0), some (.int l4), some (.int l5), u6, u7, some (.int l8), u9, u10, (xoi none), u12, u13, u14], [])) rfl ?_
    exact H
  | some v11 =>
    show Ex d [] tb_L_law (651, [some (.ref 0), some (.ref 1), some (.int l2), u3, some (.int l4), some (.int l5), u6, u7, some (.int l8), u9, u10, (xoi (some v11)), u12, u13, u14], [.int s0]) h _
    refine Ex.pure 2 (fr2 := (1266, [some (.ref 0), some (.ref 1), some (.int l2), some (.int s0), some (.int l4), some (.int l5), u6, u7, some (.int l8), u9, u10, (xoi (some v11)), u12, u13, u14], [])) rfl ?_
    exact H
set_option maxRecDepth 100000 in
theorem w_L_law_655 {d : Nat} {h : XH} {y : Nat → Nat} {K : XK} {E : XE} {l2 : Int32} {u3 : Option Value} {l4 : Int32} {l5 : Int32} {l6 : Int32} {l7 : Int32} {l8 : Int32} {l9 : Int32} {l10 : Int32} {u11 : Option Int32} {u12 : Option Value} {u13 : Option Value} {u14 : Option Value} (hd : 70 ≤ d) (hs : Sg h.1 y) (H : (¬ l7 = 19 → b_L_law_707 d 0 1 l2 (u3) l4 l5 l6 l7 l8 l9 l10 u11 (u12) (u13) (u14) h K E) ∧ (¬ (¬ l7 = 19) → (Ca d m_L_ask [.ref 1, .int 6, .int l8, .int l9, .int 0] h (fun rv h1 => ∃ x2, rv = some (.int x2) ∧ ∃ y3 : Nat → Nat, Sg h1.1 y3 ∧ (x2 = (-1013) → b_L_law_698 d 0 1 l2 (u3) l4 l5 (some (.int l6)) (some (.int l7)) l8 (some (.int l9)) (some (.int l10)) u11 (some (.int x2)) (u13) (u14) h1 K E) ∧ (¬ (x2 = (-1013)) → (¬ x2 = 0 → b_L_law_702 d 0 1 l2 (u3) l4 l5 (some (.int l6)) (some (.int l7)) l8 (some (.int l9)) (some (.int l10)) u11 (some (.int x2)) (u13) (u14) h1 K E) ∧ (¬ (¬ x2 = 0) → (Ca d m_X6_kind [.ref 1, .int l8] h1 (fun rv h4 => ∃ x5, rv = some (.int x5) ∧ ∃ y6 : Nat → Nat, Sg h4.1 y6 ∧ (¬ x5 = 3 → b_L_law_702 d 0 1 l2 (u3) l4 l5 (some (.int l6)) (some (.int l7)) l8 (some (.int l9)) (some (.int l10)) u11 (some (.int x2)) (u13) (u14) h4 K E) ∧ (¬ (¬ x5 = 3) → b_L_law_698 d 0 1 l2 (u3) l4 l5 (some (.int l6)) (some (.int l7)) l8 (some (.int l9)) (some (.int l10)) u11 (some (.int x2)) (u13) (u14) h4 K E)) E)))) E))) : b_L_law_655 d 0 1 l2 u3 l4 l5 l6 l7 l8 l9 l10 u11 u12 u13 u14 h K E := by
  cases u11 with
  | none =>
    show Ex d [] tb_L_law (655, [some (.ref 0), some (.ref 1), some (.int l2), u3, some (.int l4), some (.int l5), some (.int l6), some (.int l7), some (.int l8), some (.int l9), some (.int l10), (xoi none), u12, u13, u14], []) h _
    refine Ex.pure 2 (fr2 := (659, [some (.ref 0), some (.ref 1), some (.int l2), u3, some (.int l4), some (.int l5), some (.int l6), some (.int l7), some (.int l8), some (.int l9), some (.int l10), (xoi none), u12, u13, u14], [.int 19, .int l7])) rfl ?_
    refine Ex.br (x := (707, [some (.ref 0), some (.ref 1), some (.int l2), u3, some (.int l4), some (.int l5), some (.int l6), some (.int l7), some (.int l8), some (.int l9), some (.int l10), (xoi none), u12, u13, u14], [])) (y := (662, [some (.ref 0), some (.ref 1), some (.int l2), u3, some (.int l4), some (.int l5), some (.int l6), some (.int l7), some (.int l8), some (.int l9), some (.int l10), (xoi none), u12, u13, u14], [])) (b := ¬ l7 = 19) rfl (fun hb => ?_) (fun hb => ?_)
    · replace H := H.1 (hb)
      exact H
    · replace H := H.2 (hb)
      refine Ex.pure 5 (fr2 := (670, [some (.ref 0), some (.ref 1), some (.int l2), u3, some (.int l4), some (.int l5), some (.int l6), some (.int l7), some (.int l8), some (.int l9), some (.int l10), (xoi none), u12, u13, u14], [.int 0, .int l9, .int l8, .int 6, .ref 1])) rfl ?_
      refine Ex.cal (rest := []) (j := m_L_ask) (as := [.ref 1, .int 6, .int l8, .int l9, .int 0]) (fun c => rfl) (H.imp ?_)
      intro rv h1 H
      obtain ⟨x2, rfl, H⟩ := H
      obtain ⟨y3, hs, H⟩ := H
      show Ex d [] tb_L_law (673, [some (.ref 0), some (.ref 1), some (.int l2), u3, some (.int l4), some (.int l5), some (.int l6), some (.int l7), some (.int l8), some (.int l9), some (.int l10), (xoi none), u12, u13, u14], [.int x2]) h1 _
      refine Ex.pure 3 (fr2 := (680, [some (.ref 0), some (.ref 1), some (.int l2), u3, some (.int l4), some (.int l5), some (.int l6), some (.int l7), some (.int l8), some (.int l9), some (.int l10), (xoi none), some (.int x2), u13, u14], [.int (-1013), .int x2])) rfl ?_
      refine Ex.br (x := (698, [some (.ref 0), some (.ref 1), some (.int l2), u3, some (.int l4), some (.int l5), some (.int l6), some (.int l7), some (.int l8), some (.int l9), some (.int l10), (xoi none), some (.int x2), u13, u14], [])) (y := (683, [some (.ref 0), some (.ref 1), some (.int l2), u3, some (.int l4), some (.int l5), some (.int l6), some (.int l7), some (.int l8), some (.int l9), some (.int l10), (xoi none), some (.int x2), u13, u14], [])) (b := x2 = (-1013)) rfl (fun hb => ?_) (fun hb => ?_)
      · replace H := H.1 (hb)
        exact H
      · replace H := H.2 (hb)
        refine Ex.pure 1 (fr2 := (685, [some (.ref 0), some (.ref 1), some (.int l2), u3, some (.int l4), some (.int l5), some (.int l6), some (.int l7), some (.int l8), some (.int l9), some (.int l10), (xoi none), some (.int x2), u13, u14], [.int x2])) rfl ?_
        refine Ex.br (x := (702, [some (.ref 0), some (.ref 1), some (.int l2), u3, some (.int l4), some (.int l5), some (.int l6), some (.int l7), some (.int l8), some (.int l9), some (.int l10), (xoi none), some (.int x2), u13, u14], [])) (y := (688, [some (.ref 0), some (.ref 1), some (.int l2), u3, some (.int l4), some (.int l5), some (.int l6), some (.int l7), some (.int l8), some (.int l9), some (.int l10), (xoi none), some (.int x2), u13, u14], [])) (b := ¬ x2 = 0) rfl (fun hb => ?_) (fun hb => ?_)
        · replace H := H.1 (hb)
          exact H
        · replace H := H.2 (hb)
          refine Ex.pure 2 (fr2 := (691, [some (.ref 0), some (.ref 1), some (.int l2), u3, some (.int l4), some (.int l5), some (.int l6), some (.int l7), some (.int l8), some (.int l9), some (.int l10), (xoi none), some (.int x2), u13, u14], [.int l8, .ref 1])) rfl ?_
          refine Ex.cal (rest := []) (j := m_X6_kind) (as := [.ref 1, .int l8]) (vst (a := 68) (b := 2) (c := 5) (rest := []) (vs := [.int l8]) rfl ⟨Nat.le_of_ble_eq_true rfl, Nat.le_of_ble_eq_true rfl⟩ rfl rfl (sg_1 hs)) (H.imp ?_)
          intro rv h4 H
          obtain ⟨x5, rfl, H⟩ := H
          obtain ⟨y6, hs, H⟩ := H
          show Ex d [] tb_L_law (694, [some (.ref 0), some (.ref 1), some (.int l2), u3, some (.int l4), some (.int l5), some (.int l6), some (.int l7), some (.int l8), some (.int l9), some (.int l10), (xoi none), some (.int x2), u13, u14], [.int x5]) h4 _
          refine Ex.pure 1 (fr2 := (695, [some (.ref 0), some (.ref 1), some (.int l2), u3, some (.int l4), some (.int l5), some (.int l6), some (.int l7), some (.int l8), some (.int l9), some (.int l10), (xoi none), some (.int x2), u13, u14], [.int 3, .int x5])) rfl ?_
          refine Ex.br (x := (702, [some (.ref 0), some (.ref 1), some (.int l2), u3, some (.int l4), some (.int l5), some (.int l6), some (.int l7), some (.int l8), some (.int l9), some (.int l10), (xoi none), some (.int x2), u13, u14], [])) (y := (698, [some (.ref 0), some (.ref 1), some (.int l2), u3, some (.int l4), some (.int l5), some (.int l6), some (.int l7), some (.int l8), some (.int l9), some (.int l10), (xoi none), some (.int x2), u13, u14], [])) (b := ¬ x5 = 3) rfl (fun hb => ?_) (fun hb => ?_)
          · replace H := H.1 (hb)
            exact H
          · replace H := H.2 (hb)
            exact H
  | some v11 =>
    show Ex d [] tb_L_law (655, [some (.ref 0), some (.ref 1), some (.int l2), u3, some (.int l4), some (.int l5), some (.int l6), some (.int l7), some (.int l8), some (.int l9), some (.int l10), (xoi (some v11)), u12, u13, u14], []) h _
    refine Ex.pure 2 (fr2 := (659, [some (.ref 0), some (.ref 1), some (.int l2), u3, some (.int l4), some (.int l5), some (.int l6), some (.int l7), some (.int l8), some (.int l9), some (.int l10), (xoi (some v11)), u12, u13, u14], [.int 19, .int l7])) rfl ?_
    refine Ex.br (x := (707, [some (.ref 0), some (.ref 1), some (.int l2), u3, some (.int l4), some (.int l5), some (.int l6), some (.int l7), some (.int l8), some (.int l9), some (.int l10), (xoi (some v11)), u12, u13, u14], [])) (y := (662, [some (.ref 0), some (.ref 1), some (.int l2), u3, some (.int l4), some (.int l5), some (.int l6), some (.int l7), some (.int l8), some (.int l9), some (.int l10), (xoi (some v11)), u12, u13, u14], [])) (b := ¬ l7 = 19) rfl (fun hb => ?_) (fun hb => ?_)
    · replace H := H.1 (hb)
      exact H
    · replace H := H.2 (hb)
      refine Ex.pure 5 (fr2 := (670, [some (.ref 0), some (.ref 1), some (.int l2), u3, some (.int l4), some (.int l5), some (.int l6), some (.int l7), some (.int l8), some (.int l9), some (.int l10), (xoi (some v11)), u12, u13, u14], [.int 0, .int l9, .int l8, .int 6, .ref 1])) rfl ?_
      refine Ex.cal (rest := []) (j := m_L_ask) (as := [.ref 1, .int 6, .int l8, .int l9, .int 0]) (fun c => rfl) (H.imp ?_)
      intro rv h1 H
      obtain ⟨x2, rfl, H⟩ := H
      obtain ⟨y3, hs, H⟩ := H
      show Ex d [] tb_L_law (673, [some (.ref 0), some (.ref 1), some (.int l2), u3, some (.int l4), some (.int l5), some (.int l6), some (.int l7), some (.int l8), some (.int l9), some (.int l10), (xoi (some v11)), u12, u13, u14], [.int x2]) h1 _
      refine Ex.pure 3 (fr2 := (680, [some (.ref 0), some (.ref 1), some (.int l2), u3, some (.int l4), some (.int l5), some (.int l6), some (.int l7), some (.int l8), some (.int l9), some (.int l10), (xoi (some v11)), some (.int x2), u13, u14], [.int (-1013), .int x2])) rfl ?_
      refine Ex.br (x := (698, [some (.ref 0), some (.ref 1), some (.int l2), u3, some (.int l4), some (.int l5), some (.int l6), some (.int l7), some (.int l8), some (.int l9), some (.int l10), (xoi (some v11)), some (.int x2), u13, u14], [])) (y := (683, [some (.ref 0), some (.ref 1), some (.int l2), u3, some (.int l4), some (.int l5), some (.int l6), some (.int l7), some (.int l8), some (.int l9), some (.int l10), (xoi (some v11)), some (.int x2), u13, u14], [])) (b := x2 = (-1013)) rfl (fun hb => ?_) (fun hb => ?_)
      · replace H := H.1 (hb)
        exact H
      · replace H := H.2 (hb)
        refine Ex.pure 1 (fr2 := (685, [some (.ref 0), some (.ref 1), some (.int l2), u3, some (.int l4), some (.int l5), some (.int l6), some (.int l7), some (.int l8), some (.int l9), some (.int l10), (xoi (some v11)), some (.int x2), u13, u14], [.int x2])) rfl ?_
        refine Ex.br (x := (702, [some (.ref 0), some (.ref 1), some (.int l2), u3, some (.int l4), some (.int l5), some (.int l6), some (.int l7), some (.int l8), some (.int l9), some (.int l10), (xoi (some v11)), some (.int x2), u13, u14], [])) (y := (688, [some (.ref 0), some (.ref 1), some (.int l2), u3, some (.int l4), some (.int l5), some (.int l6), some (.int l7), some (.int l8), some (.int l9), some (.int l10), (xoi (some v11)), some (.int x2), u13, u14], [])) (b := ¬ x2 = 0) rfl (fun hb => ?_) (fun hb => ?_)
        · replace H := H.1 (hb)
          exact H
        · replace H := H.2 (hb)
          refine Ex.pure 2 (fr2 := (691, [some (.ref 0), some (.ref 1), some (.int l2), u3, some (.int l4), some (.int l5), some (.int l6), some (.int l7), some (.int l8), some (.int l9), some (.int l10), (xoi (some v11)), some (.int x2), u13, u14], [.int l8, .ref 1])) rfl ?_
          refine Ex.cal (rest := []) (j := m_X6_kind) (as := [.ref 1, .int l8]) (vst (a := 68) (b := 2) (c := 5) (rest := []) (vs := [.int l8]) rfl ⟨Nat.le_of_ble_eq_true rfl, Nat.le_of_ble_eq_true rfl⟩ rfl rfl (sg_1 hs)) (H.imp ?_)
          intro rv h4 H
          obtain ⟨x5, rfl, H⟩ := H
          obtain ⟨y6, hs, H⟩ := H
          show Ex d [] tb_L_law (694, [some (.ref 0), some (.ref 1), some (.int l2), u3, some (.int l4), some (.int l5), some (.int l6), some (.int l7), some (.int l8), some (.int l9), some (.int l10), (xoi (some v11)), some (.int x2), u13, u14], [.int x5]) h4 _
          refine Ex.pure 1 (fr2 := (695, [some (.ref 0), some (.ref 1), some (.int l2), u3, some (.int l4), some (.int l5), some (.int l6), some (.int l7), some (.int l8), some (.int l9), some (.int l10), (xoi (some v11)), some (.int x2), u13, u14], [.int 3, .int x5])) rfl ?_
          refine Ex.br (x := (702, [some (.ref 0), some (.ref 1), some (.int l2), u3, some (.int l4), some (.int l5), some (.int l6), some (.int l7), some (.int l8), some (.int l9), some (.int l10), (xoi (some v11)), some (.int x2), u13, u14], [])) (y := (698, [some (.ref 0), some (.ref 1), some (.int l2), u3, some (.int l4), some (.int l5), some (.int l6), some (.int l7), some (.int l8), some (.int l9), some (.int l10), (xoi (some v11)), some (.int x2), u13, u14], [])) (b := ¬ x5 = 3) rfl (fun hb => ?_) (fun hb => ?_)
          · replace H := H.1 (hb)
            exact H
          · replace H := H.2 (hb)
            exact H
set_option maxRecDepth 100000 in
theorem w_L_law_698 {d : Nat} {h : XH} {y : Nat → Nat} {K : XK} {E : XE} {l2 : Int32} {u3 : Option Value} {l4 : Int32} {l5 : Int32} {u6 : Option Value} {u7 : Option Value} {l8 : Int32} {u9 : Option Value} {u10 : Option Value} {u11 : Option Int32} {u12 : Option Value} {u13 : Option Value} {u14 : Option Value} (hd : 70 ≤ d) (hs : Sg h.1 y) (H : b_L_law_703 d 0 1 l2 (u3) l4 l5 (u6) (u7) l8 (u9) (u10) u11 (u12) (u13) (u14) 1 h K E) : b_L_law_698 d 0 1 l2 u3 l4 l5 u6 u7 l8 u9 u10 u11 u12 u13 u14 h K E := by
  cases u11 with
  | none =>
    show Ex d [] tb_L_law (698, [some (.ref 0), some (.ref 1), some (.int l2), u3, some (.int l4), some (.int l5), u6, u7, some (.int l8), u9, u10, (xoi none), u12, u13, u14], []) h _
    refine Ex.pure 2 (fr2 := (703, [some (.ref 0), some (.ref 1), some (.int l2), u3, some (.int l4), some (.int l5), u6, u7, some (.int l8), u9, u10, (xoi none), u12, u13, u14], [.int 1])) rfl ?_
    exact H
  | some v11 =>
    show Ex d [] tb_L_law (698, [some (.ref 0), some (.ref 1), some (.int l2), u3, some (.int l4), some (.int l5), u6, u7, some (.int l8), u9, u10, (xoi (some v11)), u12, u13, u14], []) h _
    refine Ex.pure 2 (fr2 := (703, [some (.ref 0), some (.ref 1), some (.int l2), u3, some (.int l4), some (.int l5), u6, u7, some (.int l8), u9, u10, (xoi (some v11)), u12, u13, u14], [.int 1])) rfl ?_
    exact H
set_option maxRecDepth 100000 in
theorem w_L_law_702 {d : Nat} {h : XH} {y : Nat → Nat} {K : XK} {E : XE} {l2 : Int32} {u3 : Option Value} {l4 : Int32} {l5 : Int32} {u6 : Option Value} {u7 : Option Value} {l8 : Int32} {u9 : Option Value} {u10 : Option Value} {u11 : Option Int32} {u12 : Option Value} {u13 : Option Value} {u14 : Option Value} (hd : 70 ≤ d) (hs : Sg h.1 y) (H : b_L_law_703 d 0 1 l2 (u3) l4 l5 (u6) (u7) l8 (u9) (u10) u11 (u12) (u13) (u14) 0 h K E) : b_L_law_702 d 0 1 l2 u3 l4 l5 u6 u7 l8 u9 u10 u11 u12 u13 u14 h K E := by
  cases u11 with
  | none =>
    show Ex d [] tb_L_law (702, [some (.ref 0), some (.ref 1), some (.int l2), u3, some (.int l4), some (.int l5), u6, u7, some (.int l8), u9, u10, (xoi none), u12, u13, u14], []) h _
    refine Ex.pure 1 (fr2 := (703, [some (.ref 0), some (.ref 1), some (.int l2), u3, some (.int l4), some (.int l5), u6, u7, some (.int l8), u9, u10, (xoi none), u12, u13, u14], [.int 0])) rfl ?_
    exact H
  | some v11 =>
    show Ex d [] tb_L_law (702, [some (.ref 0), some (.ref 1), some (.int l2), u3, some (.int l4), some (.int l5), u6, u7, some (.int l8), u9, u10, (xoi (some v11)), u12, u13, u14], []) h _
    refine Ex.pure 1 (fr2 := (703, [some (.ref 0), some (.ref 1), some (.int l2), u3, some (.int l4), some (.int l5), u6, u7, some (.int l8), u9, u10, (xoi (some v11)), u12, u13, u14], [.int 0])) rfl ?_
    exact H
set_option maxRecDepth 100000 in
theorem w_L_law_703 {d : Nat} {h : XH} {y : Nat → Nat} {K : XK} {E : XE} {l2 : Int32} {u3 : Option Value} {l4 : Int32} {l5 : Int32} {u6 : Option Value} {u7 : Option Value} {l8 : Int32} {u9 : Option Value} {u10 : Option Value} {u11 : Option Int32} {u12 : Option Value} {u13 : Option Value} {u14 : Option Value} {s0 : Int32} (hd : 70 ≤ d) (hs : Sg h.1 y) (H : b_L_law_1266 d 0 1 l2 s0 l4 l5 (u6) (u7) l8 (u9) (u10) u11 (u12) (u13) (u14) h K E) : b_L_law_703 d 0 1 l2 u3 l4 l5 u6 u7 l8 u9 u10 u11 u12 u13 u14 s0 h K E := by
  cases u11 with
  | none =>
    show Ex d [] tb_L_law (703, [some (.ref 0), some (.ref 1), some (.int l2), u3, some (.int l4), some (.int l5), u6, u7, some (.int l8), u9, u10, (xoi none), u12, u13, u14], [.int s0]) h _
    refine Ex.pure 2 (fr2 := (1266, [some (.ref 0), some (.ref 1), some (.int l2), some (.int s0), some (.int l4), some (.int l5), u6, u7, some (.int l8), u9, u10, (xoi none), u12, u13, u14], [])) rfl ?_
    exact H
  | some v11 =>
    show Ex d [] tb_L_law (703, [some (.ref 0), some (.ref 1), some (.int l2), u3, some (.int l4), some (.int l5), u6, u7, some (.int l8), u9, u10, (xoi (some v11)), u12, u13, u14], [.int s0]) h _
    refine Ex.pure 2 (fr2 := (1266, [some (.ref 0), some (.ref 1), some (.int l2), some (.int s0), some (.int l4), some (.int l5), u6, u7, some (.int l8), u9, u10, (xoi (some v11)), u12, u13, u14], [])) rfl ?_
    exact H
set_option maxRecDepth 100000 in
theorem w_L_law_707 {d : Nat} {h : XH} {y : Nat → Nat} {K : XK} {E : XE} {l2 : Int32} {u3 : Option Value} {l4 : Int32} {l5 : Int32} {l6 : Int32} {l7 : Int32} {l8 : Int32} {l9 : Int32} {l10 : Int32} {u11 : Option Int32} {u12 : Option Value} {u13 : Option Value} {u14 : Option Value} (hd : 70 ≤ d) (hs : Sg h.1 y) (H : (23 ≤ l7 → b_L_law_840 d 0 1 l2 (u3) l4 l5 l6 l7 l8 l9 l10 u11 (u12) (u13) (u14) h K E) ∧ (¬ (23 ≤ l7) → (Ca d m_L_ask [.ref 1, .int 7, .int 9, .int l9, .int (1 + ((l6 >>> ((12 : Int32) &&& 31)) - (l6 >>> ((12 : Int32) &&& 31)) / 20 * 20))] h (fun rv h1 => ∃ x2, rv = some (.int x2) ∧ ∃ y3 : Nat → Nat, Sg h1.1 y3 ∧ (x2 = (-1013) → b_L_law_779 d 0 1 l2 (u3) l4 l5 l6 (some (.int l7)) l8 l9 (some (.int l10)) u11 x2 (u13) (u14) h1 K E) ∧ (¬ (x2 = (-1013)) → (¬ x2 = 0 → b_L_law_783 d 0 1 l2 (u3) l4 l5 l6 (some (.int l7)) l8 l9 (some (.int l10)) u11 x2 (u13) (u14) h1 K E) ∧ (¬ (¬ x2 = 0) → (Ca d m_L_ask [.ref 1, .int 12, .int 9, .int l9, .int 0] h1 (fun rv h4 => ∃ x5, rv = some (.int x5) ∧ ∃ y6 : Nat → Nat, Sg h4.1 y6 ∧ (¬ x5 = (-1) → b_L_law_783 d 0 1 l2 (u3) l4 l5 l6 (some (.int l7)) l8 l9 (some (.int l10)) u11 x2 (u13) (u14) h4 K E) ∧ (¬ (¬ x5 = (-1)) → (Ca d m_L_ask [.ref 1, .int 12, .int l9, .int 9, .int 0] h4 (fun rv h7 => ∃ x8, rv = some (.int x8) ∧ ∃ y9 : Nat → Nat, Sg h7.1 y9 ∧ (¬ x8 = 1 → b_L_law_783 d 0 1 l2 (u3) l4 l5 l6 (some (.int l7)) l8 l9 (some (.int l10)) u11 x2 (u13) (u14) h7 K E) ∧ (¬ (¬ x8 = 1) → b_L_law_779 d 0 1 l2 (u3) l4 l5 l6 (some (.int l7)) l8 l9 (some (.int l10)) u11 x2 (u13) (u14) h7 K E)) E))) E)))) E))) : b_L_law_707 d 0 1 l2 u3 l4 l5 l6 l7 l8 l9 l10 u11 u12 u13 u14 h K E := by
  cases u11 with
  | none =>
    show Ex d [] tb_L_law (707, [some (.ref 0), some (.ref 1), some (.int l2), u3, some (.int l4), some (.int l5), some (.int l6), some (.int l7), some (.int l8), some (.int l9), some (.int l10), (xoi none), u12, u13, u14], []) h _
    refine Ex.pure 2 (fr2 := (711, [some (.ref 0), some (.ref 1), some (.int l2), u3, some (.int l4), some (.int l5), some (.int l6), some (.int l7), some (.int l8), some (.int l9), some (.int l10), (xoi none), u12, u13, u14], [.int 23, .int l7])) rfl ?_
    refine Ex.br (x := (840, [some (.ref 0), some (.ref 1), some (.int l2), u3, some (.int l4), some (.int l5), some (.int l6), some (.int l7), some (.int l8), some (.int l9), some (.int l10), (xoi none), u12, u13, u14], [])) (y := (714, [some (.ref 0), some (.ref 1), some (.int l2), u3, some (.int l4), some (.int l5), some (.int l6), some (.int l7), some (.int l8), some (.int l9), some (.int l10), (xoi none), u12, u13, u14], [])) (b := 23 ≤ l7) rfl (fun hb => ?_) (fun hb => ?_)
    · replace H := H.1 (hb)
      exact H
    · replace H := H.2 (hb)
      refine Ex.pure 9 (fr2 := (729, [some (.ref 0), some (.ref 1), some (.int l2), u3, some (.int l4), some (.int l5), some (.int l6), some (.int l7), some (.int l8), some (.int l9), some (.int l10), (xoi none), u12, u13, u14], [.int 20, .int (l6 >>> ((12 : Int32) &&& 31)), .int 1, .int l9, .int 9, .int 7, .ref 1])) rfl ?_
      refine Ex.irem rfl (by decide) ?_
      refine Ex.pure 1 (fr2 := (731, [some (.ref 0), some (.ref 1), some (.int l2), u3, some (.int l4), some (.int l5), some (.int l6), some (.int l7), some (.int l8), some (.int l9), some (.int l10), (xoi none), u12, u13, u14], [.int (1 + ((l6 >>> ((12 : Int32) &&& 31)) - (l6 >>> ((12 : Int32) &&& 31)) / 20 * 20)), .int l9, .int 9, .int 7, .ref 1])) rfl ?_
      refine Ex.cal (rest := []) (j := m_L_ask) (as := [.ref 1, .int 7, .int 9, .int l9, .int (1 + ((l6 >>> ((12 : Int32) &&& 31)) - (l6 >>> ((12 : Int32) &&& 31)) / 20 * 20))]) (fun c => rfl) (H.imp ?_)
      intro rv h1 H
      obtain ⟨x2, rfl, H⟩ := H
      obtain ⟨y3, hs, H⟩ := H
      show Ex d [] tb_L_law (734, [some (.ref 0), some (.ref 1), some (.int l2), u3, some (.int l4), some (.int l5), some (.int l6), some (.int l7), some (.int l8), some (.int l9), some (.int l10), (xoi none), u12, u13, u14], [.int x2]) h1 _
      refine Ex.pure 3 (fr2 := (741, [some (.ref 0), some (.ref 1), some (.int l2), u3, some (.int l4), some (.int l5), some (.int l6), some (.int l7), some (.int l8), some (.int l9), some (.int l10), (xoi none), some (.int x2), u13, u14], [.int (-1013), .int x2])) rfl ?_
      refine Ex.br (x := (779, [some (.ref 0), some (.ref 1), some (.int l2), u3, some (.int l4), some (.int l5), some (.int l6), some (.int l7), some (.int l8), some (.int l9), some (.int l10), (xoi none), some (.int x2), u13, u14], [])) (y := (744, [some (.ref 0), some (.ref 1), some (.int l2), u3, some (.int l4), some (.int l5), some (.int l6), some (.int l7), some (.int l8), some (.int l9), some (.int l10), (xoi none), some (.int x2), u13, u14], [])) (b := x2 = (-1013)) rfl (fun hb => ?_) (fun hb => ?_)
      · replace H := H.1 (hb)
        exact H
      · replace H := H.2 (hb)
        refine Ex.pure 1 (fr2 := (746, [some (.ref 0), some (.ref 1), some (.int l2), u3, some (.int l4), some (.int l5), some (.int l6), some (.int l7), some (.int l8), some (.int l9), some (.int l10), (xoi none), some (.int x2), u13, u14], [.int x2])) rfl ?_
        refine Ex.br (x := (783, [some (.ref 0), some (.ref 1), some (.int l2), u3, some (.int l4), some (.int l5), some (.int l6), some (.int l7), some (.int l8), some (.int l9), some (.int l10), (xoi none), some (.int x2), u13, u14], [])) (y := (749, [some (.ref 0), some (.ref 1), some (.int l2), u3, some (.int l4), some (.int l5), some (.int l6), some (.int l7), some (.int l8), some (.int l9), some (.int l10), (xoi none), some (.int x2), u13, u14], [])) (b := ¬ x2 = 0) rfl (fun hb => ?_) (fun hb => ?_)
        · replace H := H.1 (hb)
          exact H
        · replace H := H.2 (hb)
          refine Ex.pure 5 (fr2 := (757, [some (.ref 0), some (.ref 1), some (.int l2), u3, some (.int l4), some (.int l5), some (.int l6), some (.int l7), some (.int l8), some (.int l9), some (.int l10), (xoi none), some (.int x2), u13, u14], [.int 0, .int l9, .int 9, .int 12, .ref 1])) rfl ?_
          refine Ex.cal (rest := []) (j := m_L_ask) (as := [.ref 1, .int 12, .int 9, .int l9, .int 0]) (fun c => rfl) (H.imp ?_)
          intro rv h4 H
          obtain ⟨x5, rfl, H⟩ := H
          obtain ⟨y6, hs, H⟩ := H
          show Ex d [] tb_L_law (760, [some (.ref 0), some (.ref 1), some (.int l2), u3, some (.int l4), some (.int l5), some (.int l6), some (.int l7), some (.int l8), some (.int l9), some (.int l10), (xoi none), some (.int x2), u13, u14], [.int x5]) h4 _
          refine Ex.pure 1 (fr2 := (761, [some (.ref 0), some (.ref 1), some (.int l2), u3, some (.int l4), some (.int l5), some (.int l6), some (.int l7), some (.int l8), some (.int l9), some (.int l10), (xoi none), some (.int x2), u13, u14], [.int (-1), .int x5])) rfl ?_
          refine Ex.br (x := (783, [some (.ref 0), some (.ref 1), some (.int l2), u3, some (.int l4), some (.int l5), some (.int l6), some (.int l7), some (.int l8), some (.int l9), some (.int l10), (xoi none), some (.int x2), u13, u14], [])) (y := (764, [some (.ref 0), some (.ref 1), some (.int l2), u3, some (.int l4), some (.int l5), some (.int l6), some (.int l7), some (.int l8), some (.int l9), some (.int l10), (xoi none), some (.int x2), u13, u14], [])) (b := ¬ x5 = (-1)) rfl (fun hb => ?_) (fun hb => ?_)
          · replace H := H.1 (hb)
            exact H
          · replace H := H.2 (hb)
            refine Ex.pure 5 (fr2 := (772, [some (.ref 0), some (.ref 1), some (.int l2), u3, some (.int l4), some (.int l5), some (.int l6), some (.int l7), some (.int l8), some (.int l9), some (.int l10), (xoi none), some (.int x2), u13, u14], [.int 0, .int 9, .int l9, .int 12, .ref 1])) rfl ?_
            refine Ex.cal (rest := []) (j := m_L_ask) (as := [.ref 1, .int 12, .int l9, .int 9, .int 0]) (fun c => rfl) (H.imp ?_)
            intro rv h7 H
            obtain ⟨x8, rfl, H⟩ := H
            obtain ⟨y9, hs, H⟩ := H
            show Ex d [] tb_L_law (775, [some (.ref 0), some (.ref 1), some (.int l2), u3, some (.int l4), some (.int l5), some (.int l6), some (.int l7), some (.int l8), some (.int l9), some (.int l10), (xoi none), some (.int x2), u13, u14], [.int x8]) h7 _
            refine Ex.pure 1 (fr2 := (776, [some (.ref 0), some (.ref 1), some (.int l2), u3, some (.int l4), some (.int l5), some (.int l6), some (.int l7), some (.int l8), some (.int l9), some (.int l10), (xoi none), some (.int x2), u13, u14], [.int 1, .int x8])) rfl ?_
            refine Ex.br (x := (783, [some (.ref 0), some (.ref 1), some (.int l2), u3, some (.int l4), some (.int l5), some (.int l6), some (.int l7), some (.int l8), some (.int l9), some (.int l10), (xoi none), some (.int x2), u13, u14], [])) (y := (779, [some (.ref 0), some (.ref 1), some (.int l2), u3, some (.int l4), some (.int l5), some (.int l6), some (.int l7), some (.int l8), some (.int l9), some (.int l10), (xoi none), some (.int x2), u13, u14], [])) (b := ¬ x8 = 1) rfl (fun hb => ?_) (fun hb => ?_)
            · replace H := H.1 (hb)
              exact H
            · replace H := H.2 (hb)
              exact H
  | some v11 =>
    show Ex d [] tb_L_law (707, [some (.ref 0), some (.ref 1), some (.int l2), u3, some (.int l4), some (.int l5), some (.int l6), some (.int l7), some (.int l8), some (.int l9), some (.int l10), (xoi (some v11)), u12, u13, u14], []) h _
    refine Ex.pure 2 (fr2 := (711, [some (.ref 0), some (.ref 1), some (.int l2), u3, some (.int l4), some (.int l5), some (.int l6), some (.int l7), some (.int l8), some (.int l9), some (.int l10), (xoi (some v11)), u12, u13, u14], [.int 23, .int l7])) rfl ?_
    refine Ex.br (x := (840, [some (.ref 0), some (.ref 1), some (.int l2), u3, some (.int l4), some (.int l5), some (.int l6), some (.int l7), some (.int l8), some (.int l9), some (.int l10), (xoi (some v11)), u12, u13, u14], [])) (y := (714, [some (.ref 0), some (.ref 1), some (.int l2), u3, some (.int l4), some (.int l5), some (.int l6), some (.int l7), some (.int l8), some (.int l9), some (.int l10), (xoi (some v11)), u12, u13, u14], [])) (b := 23 ≤ l7) rfl (fun hb => ?_) (fun hb => ?_)
    · replace H := H.1 (hb)
      exact H
    · replace H := H.2 (hb)
      refine Ex.pure 9 (fr2 := (729, [some (.ref 0), some (.ref 1), some (.int l2), u3, some (.int l4), some (.int l5), some (.int l6), some (.int l7), some (.int l8), some (.int l9), some (.int l10), (xoi (some v11)), u12, u13, u14], [.int 20, .int (l6 >>> ((12 : Int32) &&& 31)), .int 1, .int l9, .int 9, .int 7, .ref 1])) rfl ?_
      refine Ex.irem rfl (by decide) ?_
      refine Ex.pure 1 (fr2 := (731, [some (.ref 0), some (.ref 1), some (.int l2), u3, some (.int l4), some (.int l5), some (.int l6), some (.int l7), some (.int l8), some (.int l9), some (.int l10), (xoi (some v11)), u12, u13, u14], [.int (1 + ((l6 >>> ((12 : Int32) &&& 31)) - (l6 >>> ((12 : Int32) &&& 31)) / 20 * 20)), .int l9, .int 9, .int 7, .ref 1])) rfl ?_
      refine Ex.cal (rest := []) (j := m_L_ask) (as := [.ref 1, .int 7, .int 9, .int l9, .int (1 + ((l6 >>> ((12 : Int32) &&& 31)) - (l6 >>> ((12 : Int32) &&& 31)) / 20 * 20))]) (fun c => rfl) (H.imp ?_)
      intro rv h1 H
      obtain ⟨x2, rfl, H⟩ := H
      obtain ⟨y3, hs, H⟩ := H
      show Ex d [] tb_L_law (734, [some (.ref 0), some (.ref 1), some (.int l2), u3, some (.int l4), some (.int l5), some (.int l6), some (.int l7), some (.int l8), some (.int l9), some (.int l10), (xoi (some v11)), u12, u13, u14], [.int x2]) h1 _
      refine Ex.pure 3 (fr2 := (741, [some (.ref 0), some (.ref 1), some (.int l2), u3, some (.int l4), some (.int l5), some (.int l6), some (.int l7), some (.int l8), some (.int l9), some (.int l10), (xoi (some v11)), some (.int x2), u13, u14], [.int (-1013), .int x2])) rfl ?_
      refine Ex.br (x := (779, [some (.ref 0), some (.ref 1), some (.int l2), u3, some (.int l4), some (.int l5), some (.int l6), some (.int l7), some (.int l8), some (.int l9), some (.int l10), (xoi (some v11)), some (.int x2), u13, u14], [])) (y := (744, [some (.ref 0), some (.ref 1), some (.int l2), u3, some (.int l4), some (.int l5), some (.int l6), some (.int l7), some (.int l8), some (.int l9), some (.int l10), (xoi (some v11)), some (.int x2), u13, u14], [])) (b := x2 = (-1013)) rfl (fun hb => ?_) (fun hb => ?_)
      · replace H := H.1 (hb)
        exact H
      · replace H := H.2 (hb)
        refine Ex.pure 1 (fr2 := (746, [some (.ref 0), some (.ref 1), some (.int l2), u3, some (.int l4), some (.int l5), some (.int l6), some (.int l7), some (.int l8), some (.int l9), some (.int l10), (xoi (some v11)), some (.int x2), u13, u14], [.int x2])) rfl ?_
        refine Ex.br (x := (783, [some (.ref 0), some (.ref 1), some (.int l2), u3, some (.int l4), some (.int l5), some (.int l6), some (.int l7), some (.int l8), some (.int l9), some (.int l10), (xoi (some v11)), some (.int x2), u13, u14], [])) (y := (749, [some (.ref 0), some (.ref 1), some (.int l2), u3, some (.int l4), some (.int l5), some (.int l6), some (.int l7), some (.int l8), some (.int l9), some (.int l10), (xoi (some v11)), some (.int x2), u13, u14], [])) (b := ¬ x2 = 0) rfl (fun hb => ?_) (fun hb => ?_)
        · replace H := H.1 (hb)
          exact H
        · replace H := H.2 (hb)
          refine Ex.pure 5 (fr2 := (757, [some (.ref 0), some (.ref 1), some (.int l2), u3, some (.int l4), some (.int l5), some (.int l6), some (.int l7), some (.int l8), some (.int l9), some (.int l10), (xoi (some v11)), some (.int x2), u13, u14], [.int 0, .int l9, .int 9, .int 12, .ref 1])) rfl ?_
          refine Ex.cal (rest := []) (j := m_L_ask) (as := [.ref 1, .int 12, .int 9, .int l9, .int 0]) (fun c => rfl) (H.imp ?_)
          intro rv h4 H
          obtain ⟨x5, rfl, H⟩ := H
          obtain ⟨y6, hs, H⟩ := H
          show Ex d [] tb_L_law (760, [some (.ref 0), some (.ref 1), some (.int l2), u3, some (.int l4), some (.int l5), some (.int l6), some (.int l7), some (.int l8), some (.int l9), some (.int l10), (xoi (some v11)), some (.int x2), u13, u14], [.int x5]) h4 _
          refine Ex.pure 1 (fr2 := (761, [some (.ref 0), some (.ref 1), some (.int l2), u3, some (.int l4), some (.int l5), some (.int l6), some (.int l7), some (.int l8), some (.int l9), some (.int l10), (xoi (some v11)), some (.int x2), u13, u14], [.int (-1), .int x5])) rfl ?_
          refine Ex.br (x := (783, [some (.ref 0), some (.ref 1), some (.int l2), u3, some (.int l4), some (.int l5), some (.int l6), some (.int l7), some (.int l8), some (.int l9), some (.int l10), (xoi (some v11)), some (.int x2), u13, u14], [])) (y := (764, [some (.ref 0), some (.ref 1), some (.int l2), u3, some (.int l4), some (.int l5), some (.int l6), some (.int l7), some (.int l8), some (.int l9), some (.int l10), (xoi (some v11)), some (.int x2), u13, u14], [])) (b := ¬ x5 = (-1)) rfl (fun hb => ?_) (fun hb => ?_)
          · replace H := H.1 (hb)
            exact H
          · replace H := H.2 (hb)
            refine Ex.pure 5 (fr2 := (772, [some (.ref 0), some (.ref 1), some (.int l2), u3, some (.int l4), some (.int l5), some (.int l6), some (.int l7), some (.int l8), some (.int l9), some (.int l10), (xoi (some v11)), some (.int x2), u13, u14], [.int 0, .int 9, .int l9, .int 12, .ref 1])) rfl ?_
            refine Ex.cal (rest := []) (j := m_L_ask) (as := [.ref 1, .int 12, .int l9, .int 9, .int 0]) (fun c => rfl) (H.imp ?_)
            intro rv h7 H
            obtain ⟨x8, rfl, H⟩ := H
            obtain ⟨y9, hs, H⟩ := H
            show Ex d [] tb_L_law (775, [some (.ref 0), some (.ref 1), some (.int l2), u3, some (.int l4), some (.int l5), some (.int l6), some (.int l7), some (.int l8), some (.int l9), some (.int l10), (xoi (some v11)), some (.int x2), u13, u14], [.int x8]) h7 _
            refine Ex.pure 1 (fr2 := (776, [some (.ref 0), some (.ref 1), some (.int l2), u3, some (.int l4), some (.int l5), some (.int l6), some (.int l7), some (.int l8), some (.int l9), some (.int l10), (xoi (some v11)), some (.int x2), u13, u14], [.int 1, .int x8])) rfl ?_
            refine Ex.br (x := (783, [some (.ref 0), some (.ref 1), some (.int l2), u3, some (.int l4), some (.int l5), some (.int l6), some (.int l7), some (.int l8), some (.int l9), some (.int l10), (xoi (some v11)), some (.int x2), u13, u14], [])) (y := (779, [some (.ref 0), some (.ref 1), some (.int l2), u3, some (.int l4), some (.int l5), some (.int l6), some (.int l7), some (.int l8), some (.int l9), some (.int l10), (xoi (some v11)), some (.int x2), u13, u14], [])) (b := ¬ x8 = 1) rfl (fun hb => ?_) (fun hb => ?_)
            · replace H := H.1 (hb)
              exact H
            · replace H := H.2 (hb)
              exact H
set_option maxRecDepth 100000 in
theorem w_L_law_779 {d : Nat} {h : XH} {y : Nat → Nat} {K : XK} {E : XE} {l2 : Int32} {u3 : Option Value} {l4 : Int32} {l5 : Int32} {l6 : Int32} {u7 : Option Value} {l8 : Int32} {l9 : Int32} {u10 : Option Value} {u11 : Option Int32} {l12 : Int32} {u13 : Option Value} {u14 : Option Value} (hd : 70 ≤ d) (hs : Sg h.1 y) (H : b_L_law_784 d 0 1 l2 (u3) l4 l5 l6 (u7) l8 l9 (u10) u11 l12 (u13) (u14) 1 h K E) : b_L_law_779 d 0 1 l2 u3 l4 l5 l6 u7 l8 l9 u10 u11 l12 u13 u14 h K E := by
  cases u11 with
  | none =>
    show Ex d [] tb_L_law (779, [some (.ref 0), some (.ref 1), some (.int l2), u3, some (.int l4), some (.int l5), some (.int l6), u7, some (.int l8), some (.int l9), u10, (xoi none), some (.int l12), u13, u14], []) h _
    refine Ex.pure 2 (fr2 := (784, [some (.ref 0), some (.ref 1), some (.int l2), u3, some (.int l4), some (.int l5), some (.int l6), u7, some (.int l8), some (.int l9), u10, (xoi none), some (.int l12), u13, u14], [.int 1])) rfl ?_
    exact H
  | some v11 =>
    show Ex d [] tb_L_law (779, [some (.ref 0), some (.ref 1), some (.int l2), u3, some (.int l4), some (.int l5), some (.int l6), u7, some (.int l8), some (.int l9), u10, (xoi (some v11)), some (.int l12), u13, u14], []) h _
    refine Ex.pure 2 (fr2 := (784, [some (.ref 0), some (.ref 1), some (.int l2), u3, some (.int l4), some (.int l5), some (.int l6), u7, some (.int l8), some (.int l9), u10, (xoi (some v11)), some (.int l12), u13, u14], [.int 1])) rfl ?_
    exact H
set_option maxRecDepth 100000 in
theorem w_L_law_783 {d : Nat} {h : XH} {y : Nat → Nat} {K : XK} {E : XE} {l2 : Int32} {u3 : Option Value} {l4 : Int32} {l5 : Int32} {l6 : Int32} {u7 : Option Value} {l8 : Int32} {l9 : Int32} {u10 : Option Value} {u11 : Option Int32} {l12 : Int32} {u13 : Option Value} {u14 : Option Value} (hd : 70 ≤ d) (hs : Sg h.1 y) (H : b_L_law_784 d 0 1 l2 (u3) l4 l5 l6 (u7) l8 l9 (u10) u11 l12 (u13) (u14) 0 h K E) : b_L_law_783 d 0 1 l2 u3 l4 l5 l6 u7 l8 l9 u10 u11 l12 u13 u14 h K E := by
  cases u11 with
  | none =>
    show Ex d [] tb_L_law (783, [some (.ref 0), some (.ref 1), some (.int l2), u3, some (.int l4), some (.int l5), some (.int l6), u7, some (.int l8), some (.int l9), u10, (xoi none), some (.int l12), u13, u14], []) h _
    refine Ex.pure 1 (fr2 := (784, [some (.ref 0), some (.ref 1), some (.int l2), u3, some (.int l4), some (.int l5), some (.int l6), u7, some (.int l8), some (.int l9), u10, (xoi none), some (.int l12), u13, u14], [.int 0])) rfl ?_
    exact H
  | some v11 =>
    show Ex d [] tb_L_law (783, [some (.ref 0), some (.ref 1), some (.int l2), u3, some (.int l4), some (.int l5), some (.int l6), u7, some (.int l8), some (.int l9), u10, (xoi (some v11)), some (.int l12), u13, u14], []) h _
    refine Ex.pure 1 (fr2 := (784, [some (.ref 0), some (.ref 1), some (.int l2), u3, some (.int l4), some (.int l5), some (.int l6), u7, some (.int l8), some (.int l9), u10, (xoi (some v11)), some (.int l12), u13, u14], [.int 0])) rfl ?_
    exact H
set_option maxRecDepth 100000 in
theorem w_L_law_784 {d : Nat} {h : XH} {y : Nat → Nat} {K : XK} {E : XE} {l2 : Int32} {u3 : Option Value} {l4 : Int32} {l5 : Int32} {l6 : Int32} {u7 : Option Value} {l8 : Int32} {l9 : Int32} {u10 : Option Value} {u11 : Option Int32} {l12 : Int32} {u13 : Option Value} {u14 : Option Value} {s0 : Int32} (hd : 70 ≤ d) (hs : Sg h.1 y) (H : (s0 = 0 → b_L_law_835 d 0 1 l2 (some (.int s0)) l4 l5 (some (.int l6)) (u7) l8 (some (.int l9)) (u10) u11 (some (.int l12)) (u13) (u14) h K E) ∧ (¬ (s0 = 0) → (¬ l12 = 0 → b_L_law_831 d 0 1 l2 (some (.int s0)) l4 l5 (some (.int l6)) (u7) l8 (some (.int l9)) (u10) u11 (some (.int l12)) (u13) (u14) h K E) ∧ (¬ (¬ l12 = 0) → (Ca d m_L_ask [.ref 1, .int 7, .int l8, .int l9, .int (1 + ((l6 >>> ((12 : Int32) &&& 31)) - (l6 >>> ((12 : Int32) &&& 31)) / 20 * 20))] h (fun rv h1 => ∃ x2, rv = some (.int x2) ∧ ∃ y3 : Nat → Nat, Sg h1.1 y3 ∧ (¬ x2 = 0 → b_L_law_835 d 0 1 l2 (some (.int s0)) l4 l5 (some (.int l6)) (u7) l8 (some (.int l9)) (u10) u11 (some (.int l12)) (u13) (u14) h1 K E) ∧ (¬ (¬ x2 = 0) → (Ca d m_L_ask [.ref 1, .int 12, .int l8, .int 9, .int 0] h1 (fun rv h4 => ∃ x5, rv = some (.int x5) ∧ ∃ y6 : Nat → Nat, Sg h4.1 y6 ∧ (¬ x5 = 0 → b_L_law_835 d 0 1 l2 (some (.int s0)) l4 l5 (some (.int l6)) (u7) l8 (some (.int l9)) (u10) u11 (some (.int l12)) (u13) (u14) h4 K E) ∧ (¬ (¬ x5 = 0) → b_L_law_831 d 0 1 l2 (some (.int s0)) l4 l5 (some (.int l6)) (u7) l8 (some (.int l9)) (u10) u11 (some (.int l12)) (u13) (u14) h4 K E)) E))) E)))) : b_L_law_784 d 0 1 l2 u3 l4 l5 l6 u7 l8 l9 u10 u11 l12 u13 u14 s0 h K E := by
  cases u11 with
  | none =>
    show Ex d [] tb_L_law (784, [some (.ref 0), some (.ref 1), some (.int l2), u3, some (.int l4), some (.int l5), some (.int l6), u7, some (.int l8), some (.int l9), u10, (xoi none), some (.int l12), u13, u14], [.int s0]) h _
    refine Ex.pure 2 (fr2 := (786, [some (.ref 0), some (.ref 1), some (.int l2), some (.int s0), some (.int l4), some (.int l5), some (.int l6), u7, some (.int l8), some (.int l9), u10, (xoi none), some (.int l12), u13, u14], [.int s0])) rfl ?_
    refine Ex.br (x := (835, [some (.ref 0), some (.ref 1), some (.int l2), some (.int s0), some (.int l4), some (.int l5), some (.int l6), u7, some (.int l8), some (.int l9), u10, (xoi none), some (.int l12), u13, u14], [])) (y := (789, [some (.ref 0), some (.ref 1), some (.int l2), some (.int s0), some (.int l4), some (.int l5), some (.int l6), u7, some (.int l8), some (.int l9), u10, (xoi none), some (.int l12), u13, u14], [])) (b := s0 = 0) rfl (fun hb => ?_) (fun hb => ?_)
    · replace H := H.1 (hb)
      exact H
    · replace H := H.2 (hb)
      refine Ex.pure 1 (fr2 := (791, [some (.ref 0), some (.ref 1), some (.int l2), some (.int s0), some (.int l4), some (.int l5), some (.int l6), u7, some (.int l8), some (.int l9), u10, (xoi none), some (.int l12), u13, u14], [.int l12])) rfl ?_
      refine Ex.br (x := (831, [some (.ref 0), some (.ref 1), some (.int l2), some (.int s0), some (.int l4), some (.int l5), some (.int l6), u7, some (.int l8), some (.int l9), u10, (xoi none), some (.int l12), u13, u14], [])) (y := (794, [some (.ref 0), some (.ref 1), some (.int l2), some (.int s0), some (.int l4), some (.int l5), some (.int l6), u7, some (.int l8), some (.int l9), u10, (xoi none), some (.int l12), u13, u14], [])) (b := ¬ l12 = 0) rfl (fun hb => ?_) (fun hb => ?_)
      · replace H := H.1 (hb)
        exact H
      · replace H := H.2 (hb)
        refine Ex.pure 9 (fr2 := (809, [some (.ref 0), some (.ref 1), some (.int l2), some (.int s0), some (.int l4), some (.int l5), some (.int l6), u7, some (.int l8), some (.int l9), u10, (xoi none), some (.int l12), u13, u14], [.int 20, .int (l6 >>> ((12 : Int32) &&& 31)), .int 1, .int l9, .int l8, .int 7, .ref 1])) rfl ?_
        refine Ex.irem rfl (by decide) ?_
        refine Ex.pure 1 (fr2 := (811, [some (.ref 0), some (.ref 1), some (.int l2), some (.int s0), some (.int l4), some (.int l5), some (.int l6), u7, some (.int l8), some (.int l9), u10, (xoi none), some (.int l12), u13, u14], [.int (1 + ((l6 >>> ((12 : Int32) &&& 31)) - (l6 >>> ((12 : Int32) &&& 31)) / 20 * 20)), .int l9, .int l8, .int 7, .ref 1])) rfl ?_
        refine Ex.cal (rest := []) (j := m_L_ask) (as := [.ref 1, .int 7, .int l8, .int l9, .int (1 + ((l6 >>> ((12 : Int32) &&& 31)) - (l6 >>> ((12 : Int32) &&& 31)) / 20 * 20))]) (fun c => rfl) (H.imp ?_)
        intro rv h1 H
        obtain ⟨x2, rfl, H⟩ := H
        obtain ⟨y3, hs, H⟩ := H
        show Ex d [] tb_L_law (814, [some (.ref 0), some (.ref 1), some (.int l2), some (.int s0), some (.int l4), some (.int l5), some (.int l6), u7, some (.int l8), some (.int l9), u10, (xoi none), some (.int l12), u13, u14], [.int x2]) h1 _
        refine Ex.br (x := (835, [some (.ref 0), some (.ref 1), some (.int l2), some (.int s0), some (.int l4), some (.int l5), some (.int l6), u7, some (.int l8), some (.int l9), u10, (xoi none), some (.int l12), u13, u14], [])) (y := (817, [some (.ref 0), some (.ref 1), some (.int l2), some (.int s0), some (.int l4), some (.int l5), some (.int l6), u7, some (.int l8), some (.int l9), u10, (xoi none), some (.int l12), u13, u14], [])) (b := ¬ x2 = 0) rfl (fun hb => ?_) (fun hb => ?_)
        · replace H := H.1 (hb)
          exact H
        · replace H := H.2 (hb)
          refine Ex.pure 5 (fr2 := (825, [some (.ref 0), some (.ref 1), some (.int l2), some (.int s0), some (.int l4), some (.int l5), some (.int l6), u7, some (.int l8), some (.int l9), u10, (xoi none), some (.int l12), u13, u14], [.int 0, .int 9, .int l8, .int 12, .ref 1])) rfl ?_
          refine Ex.cal (rest := []) (j := m_L_ask) (as := [.ref 1, .int 12, .int l8, .int 9, .int 0]) (fun c => rfl) (H.imp ?_)
          intro rv h4 H
          obtain ⟨x5, rfl, H⟩ := H
          obtain ⟨y6, hs, H⟩ := H
          show Ex d [] tb_L_law (828, [some (.ref 0), some (.ref 1), some (.int l2), some (.int s0), some (.int l4), some (.int l5), some (.int l6), u7, some (.int l8), some (.int l9), u10, (xoi none), some (.int l12), u13, u14], [.int x5]) h4 _
          refine Ex.br (x := (835, [some (.ref 0), some (.ref 1), some (.int l2), some (.int s0), some (.int l4), some (.int l5), some (.int l6), u7, some (.int l8), some (.int l9), u10, (xoi none), some (.int l12), u13, u14], [])) (y := (831, [some (.ref 0), some (.ref 1), some (.int l2), some (.int s0), some (.int l4), some (.int l5), some (.int l6), u7, some (.int l8), some (.int l9), u10, (xoi none), some (.int l12), u13, u14], [])) (b := ¬ x5 = 0) rfl (fun hb => ?_) (fun hb => ?_)
          · replace H := H.1 (hb)
            exact H
          · replace H := H.2 (hb)
            exact H
  | some v11 =>
    show Ex d [] tb_L_law (784, [some (.ref 0), some (.ref 1), some (.int l2), u3, some (.int l4), some (.int l5), some (.int l6), u7, some (.int l8), some (.int l9), u10, (xoi (some v11)), some (.int l12), u13, u14], [.int s0]) h _
    refine Ex.pure 2 (fr2 := (786, [some (.ref 0), some (.ref 1), some (.int l2), some (.int s0), some (.int l4), some (.int l5), some (.int l6), u7, some (.int l8), some (.int l9), u10, (xoi (some v11)), some (.int l12), u13, u14], [.int s0])) rfl ?_
    refine Ex.br (x := (835, [some (.ref 0), some (.ref 1), some (.int l2), some (.int s0), some (.int l4), some (.int l5), some (.int l6), u7, some (.int l8), some (.int l9), u10, (xoi (some v11)), some (.int l12), u13, u14], [])) (y := (789, [some (.ref 0), some (.ref 1), some (.int l2), some (.int s0), some (.int l4), some (.int l5), some (.int l6), u7, some (.int l8), some (.int l9), u10, (xoi (some v11)), some (.int l12), u13, u14], [])) (b := s0 = 0) rfl (fun hb => ?_) (fun hb => ?_)
    · replace H := H.1 (hb)
      exact H
    · replace H := H.2 (hb)
      refine Ex.pure 1 (fr2 := (791, [some (.ref 0), some (.ref 1), some (.int l2), some (.int s0), some (.int l4), some (.int l5), some (.int l6), u7, some (.int l8), some (.int l9), u10, (xoi (some v11)), some (.int l12), u13, u14], [.int l12])) rfl ?_
      refine Ex.br (x := (831, [some (.ref 0), some (.ref 1), some (.int l2), some (.int s0), some (.int l4), some (.int l5), some (.int l6), u7, some (.int l8), some (.int l9), u10, (xoi (some v11)), some (.int l12), u13, u14], [])) (y := (794, [some (.ref 0), some (.ref 1), some (.int l2), some (.int s0), some (.int l4), some (.int l5), some (.int l6), u7, some (.int l8), some (.int l9), u10, (xoi (some v11)), some (.int l12), u13, u14], [])) (b := ¬ l12 = 0) rfl (fun hb => ?_) (fun hb => ?_)
      · replace H := H.1 (hb)
        exact H
      · replace H := H.2 (hb)
        refine Ex.pure 9 (fr2 := (809, [some (.ref 0), some (.ref 1), some (.int l2), some (.int s0), some (.int l4), some (.int l5), some (.int l6), u7, some (.int l8), some (.int l9), u10, (xoi (some v11)), some (.int l12), u13, u14], [.int 20, .int (l6 >>> ((12 : Int32) &&& 31)), .int 1, .int l9, .int l8, .int 7, .ref 1])) rfl ?_
        refine Ex.irem rfl (by decide) ?_
        refine Ex.pure 1 (fr2 := (811, [some (.ref 0), some (.ref 1), some (.int l2), some (.int s0), some (.int l4), some (.int l5), some (.int l6), u7, some (.int l8), some (.int l9), u10, (xoi (some v11)), some (.int l12), u13, u14], [.int (1 + ((l6 >>> ((12 : Int32) &&& 31)) - (l6 >>> ((12 : Int32) &&& 31)) / 20 * 20)), .int l9, .int l8, .int 7, .ref 1])) rfl ?_
        refine Ex.cal (rest := []) (j := m_L_ask) (as := [.ref 1, .int 7, .int l8, .int l9, .int (1 + ((l6 >>> ((12 : Int32) &&& 31)) - (l6 >>> ((12 : Int32) &&& 31)) / 20 * 20))]) (fun c => rfl) (H.imp ?_)
        intro rv h1 H
        obtain ⟨x2, rfl, H⟩ := H
        obtain ⟨y3, hs, H⟩ := H
        show Ex d [] tb_L_law (814, [some (.ref 0), some (.ref 1), some (.int l2), some (.int s0), some (.int l4), some (.int l5), some (.int l6), u7, some (.int l8), some (.int l9), u10, (xoi (some v11)), some (.int l12), u13, u14], [.int x2]) h1 _
        refine Ex.br (x := (835, [some (.ref 0), some (.ref 1), some (.int l2), some (.int s0), some (.int l4), some (.int l5), some (.int l6), u7, some (.int l8), some (.int l9), u10, (xoi (some v11)), some (.int l12), u13, u14], [])) (y := (817, [some (.ref 0), some (.ref 1), some (.int l2), some (.int s0), some (.int l4), some (.int l5), some (.int l6), u7, some (.int l8), some (.int l9), u10, (xoi (some v11)), some (.int l12), u13, u14], [])) (b := ¬ x2 = 0) rfl (fun hb => ?_) (fun hb => ?_)
        · replace H := H.1 (hb)
          exact H
        · replace H := H.2 (hb)
          refine Ex.pure 5 (fr2 := (825, [some (.ref 0), some (.ref 1), some (.int l2), some (.int s0), some (.int l4), some (.int l5), some (.int l6), u7, some (.int l8), some (.int l9), u10, (xoi (some v11)), some (.int l12), u13, u14], [.int 0, .int 9, .int l8, .int 12, .ref 1])) rfl ?_
          refine Ex.cal (rest := []) (j := m_L_ask) (as := [.ref 1, .int 12, .int l8, .int 9, .int 0]) (fun c => rfl) (H.imp ?_)
          intro rv h4 H
          obtain ⟨x5, rfl, H⟩ := H
          obtain ⟨y6, hs, H⟩ := H
          show Ex d [] tb_L_law (828, [some (.ref 0), some (.ref 1), some (.int l2), some (.int s0), some (.int l4), some (.int l5), some (.int l6), u7, some (.int l8), some (.int l9), u10, (xoi (some v11)), some (.int l12), u13, u14], [.int x5]) h4 _
          refine Ex.br (x := (835, [some (.ref 0), some (.ref 1), some (.int l2), some (.int s0), some (.int l4), some (.int l5), some (.int l6), u7, some (.int l8), some (.int l9), u10, (xoi (some v11)), some (.int l12), u13, u14], [])) (y := (831, [some (.ref 0), some (.ref 1), some (.int l2), some (.int s0), some (.int l4), some (.int l5), some (.int l6), u7, some (.int l8), some (.int l9), u10, (xoi (some v11)), some (.int l12), u13, u14], [])) (b := ¬ x5 = 0) rfl (fun hb => ?_) (fun hb => ?_)
          · replace H := H.1 (hb)
            exact H
          · replace H := H.2 (hb)
            exact H
set_option maxRecDepth 100000 in
theorem w_L_law_831 {d : Nat} {h : XH} {y : Nat → Nat} {K : XK} {E : XE} {l2 : Int32} {u3 : Option Value} {l4 : Int32} {l5 : Int32} {u6 : Option Value} {u7 : Option Value} {l8 : Int32} {u9 : Option Value} {u10 : Option Value} {u11 : Option Int32} {u12 : Option Value} {u13 : Option Value} {u14 : Option Value} (hd : 70 ≤ d) (hs : Sg h.1 y) (H : b_L_law_836 d 0 1 l2 (u3) l4 l5 (u6) (u7) l8 (u9) (u10) u11 (u12) (u13) (u14) 1 h K E) : b_L_law_831 d 0 1 l2 u3 l4 l5 u6 u7 l8 u9 u10 u11 u12 u13 u14 h K E := by
  cases u11 with
  | none =>
    show Ex d [] tb_L_law (831, [some (.ref 0), some (.ref 1), some (.int l2), u3, some (.int l4), some (.int l5), u6, u7, some (.int l8), u9, u10, (xoi none), u12, u13, u14], []) h _
    refine Ex.pure 2 (fr2 := (836, [some (.ref 0), some (.ref 1), some (.int l2), u3, some (.int l4), some (.int l5), u6, u7, some (.int l8), u9, u10, (xoi none), u12, u13, u14], [.int 1])) rfl ?_
    exact H
  | some v11 =>
    show Ex d [] tb_L_law (831, [some (.ref 0), some (.ref 1), some (.int l2), u3, some (.int l4), some (.int l5), u6, u7, some (.int l8), u9, u10, (xoi (some v11)), u12, u13, u14], []) h _
    refine Ex.pure 2 (fr2 := (836, [some (.ref 0), some (.ref 1), some (.int l2), u3, some (.int l4), some (.int l5), u6, u7, some (.int l8), u9, u10, (xoi (some v11)), u12, u13, u14], [.int 1])) rfl ?_
    exact H
set_option maxRecDepth 100000 in
theorem w_L_law_835 {d : Nat} {h : XH} {y : Nat → Nat} {K : XK} {E : XE} {l2 : Int32} {u3 : Option Value} {l4 : Int32} {l5 : Int32} {u6 : Option Value} {u7 : Option Value} {l8 : Int32} {u9 : Option Value} {u10 : Option Value} {u11 : Option Int32} {u12 : Option Value} {u13 : Option Value} {u14 : Option Value} (hd : 70 ≤ d) (hs : Sg h.1 y) (H : b_L_law_836 d 0 1 l2 (u3) l4 l5 (u6) (u7) l8 (u9) (u10) u11 (u12) (u13) (u14) 0 h K E) : b_L_law_835 d 0 1 l2 u3 l4 l5 u6 u7 l8 u9 u10 u11 u12 u13 u14 h K E := by
  cases u11 with
  | none =>
    show Ex d [] tb_L_law (835, [some (.ref 0), some (.ref 1), some (.int l2), u3, some (.int l4), some (.int l5), u6, u7, some (.int l8), u9, u10, (xoi none), u12, u13, u14], []) h _
    refine Ex.pure 1 (fr2 := (836, [some (.ref 0), some (.ref 1), some (.int l2), u3, some (.int l4), some (.int l5), u6, u7, some (.int l8), u9, u10, (xoi none), u12, u13, u14], [.int 0])) rfl ?_
    exact H
  | some v11 =>
    show Ex d [] tb_L_law (835, [some (.ref 0), some (.ref 1), some (.int l2), u3, some (.int l4), some (.int l5), u6, u7, some (.int l8), u9, u10, (xoi (some v11)), u12, u13, u14], []) h _
    refine Ex.pure 1 (fr2 := (836, [some (.ref 0), some (.ref 1), some (.int l2), u3, some (.int l4), some (.int l5), u6, u7, some (.int l8), u9, u10, (xoi (some v11)), u12, u13, u14], [.int 0])) rfl ?_
    exact H
set_option maxRecDepth 100000 in
theorem w_L_law_836 {d : Nat} {h : XH} {y : Nat → Nat} {K : XK} {E : XE} {l2 : Int32} {u3 : Option Value} {l4 : Int32} {l5 : Int32} {u6 : Option Value} {u7 : Option Value} {l8 : Int32} {u9 : Option Value} {u10 : Option Value} {u11 : Option Int32} {u12 : Option Value} {u13 : Option Value} {u14 : Option Value} {s0 : Int32} (hd : 70 ≤ d) (hs : Sg h.1 y) (H : b_L_law_1266 d 0 1 l2 s0 l4 l5 (u6) (u7) l8 (u9) (u10) u11 (u12) (u13) (u14) h K E) : b_L_law_836 d 0 1 l2 u3 l4 l5 u6 u7 l8 u9 u10 u11 u12 u13 u14 s0 h K E := by
  cases u11 with
  | none =>
    show Ex d [] tb_L_law (836, [some (.ref 0), some (.ref 1), some (.int l2), u3, some (.int l4), some (.int l5), u6, u7, some (.int l8), u9, u10, (xoi none), u12, u13, u14], [.int s0]) h _
    refine Ex.pure 2 (fr2 := (1266, [some (.ref 0), some (.ref 1), some (.int l2), some (.int s0), some (.int l4), some (.int l5), u6, u7, some (.int l8), u9, u10, (xoi none), u12, u13, u14], [])) rfl ?_
    exact H
  | some v11 =>
    show Ex d [] tb_L_law (836, [some (.ref 0), some (.ref 1), some (.int l2), u3, some (.int l4), some (.int l5), u6, u7, some (.int l8), u9, u10, (xoi (some v11)), u12, u13, u14], [.int s0]) h _
    refine Ex.pure 2 (fr2 := (1266, [some (.ref 0), some (.ref 1), some (.int l2), some (.int s0), some (.int l4), some (.int l5), u6, u7, some (.int l8), u9, u10, (xoi (some v11)), u12, u13, u14], [])) rfl ?_
    exact H
set_option maxRecDepth 100000 in
theorem w_L_law_840 {d : Nat} {h : XH} {y : Nat → Nat} {K : XK} {E : XE} {l2 : Int32} {u3 : Option Value} {l4 : Int32} {l5 : Int32} {l6 : Int32} {l7 : Int32} {l8 : Int32} {l9 : Int32} {l10 : Int32} {u11 : Option Int32} {u12 : Option Value} {u13 : Option Value} {u14 : Option Value} (hd : 70 ≤ d) (hs : Sg h.1 y) (H : (¬ l7 = 23 → b_L_law_976 d 0 1 l2 (u3) l4 l5 (some (.int l6)) l7 l8 l9 l10 u11 (u12) (u13) (u14) h K E) ∧ (¬ (¬ l7 = 23) → (20 ≤ l2 → b_L_law_976 d 0 1 l2 (u3) l4 l5 (some (.int l6)) l7 l8 l9 l10 u11 (u12) (u13) (u14) h K E) ∧ (¬ (20 ≤ l2) → b_L_law_853 d 0 1 l2 (u3) l4 l5 l6 (some (.int l7)) l8 l9 (some (.int l10)) u11 (u12) (u13) (u14) h K E))) : b_L_law_840 d 0 1 l2 u3 l4 l5 l6 l7 l8 l9 l10 u11 u12 u13 u14 h K E := by
  cases u11 with
  | none =>
    show Ex d [] tb_L_law (840, [some (.ref 0), some (.ref 1), some (.int l2), u3, some (.int l4), some (.int l5), some (.int l6), some (.int l7), some (.int l8), some (.int l9), some (.int l10), (xoi none), u12, u13, u14], []) h _
    refine Ex.pure 2 (fr2 := (844, [some (.ref 0), some (.ref 1), some (.int l2), u3, some (.int l4), some (.int l5), some (.int l6), some (.int l7), some (.int l8), some (.int l9), some (.int l10), (xoi none), u12, u13, u14], [.int 23, .int l7])) rfl ?_
    refine Ex.br (x := (976, [some (.ref 0), some (.ref 1), some (.int l2), u3, some (.int l4), some (.int l5), some (.int l6), some (.int l7), some (.int l8), some (.int l9), some (.int l10), (xoi none), u12, u13, u14], [])) (y := (847, [some (.ref 0), some (.ref 1), some (.int l2), u3, some (.int l4), some (.int l5), some (.int l6), some (.int l7), some (.int l8), some (.int l9), some (.int l10), (xoi none), u12, u13, u14], [])) (b := ¬ l7 = 23) rfl (fun hb => ?_) (fun hb => ?_)
    · replace H := H.1 (hb)
      exact H
    · replace H := H.2 (hb)
      refine Ex.pure 2 (fr2 := (850, [some (.ref 0), some (.ref 1), some (.int l2), u3, some (.int l4), some (.int l5), some (.int l6), some (.int l7), some (.int l8), some (.int l9), some (.int l10), (xoi none), u12, u13, u14], [.int 20, .int l2])) rfl ?_
      refine Ex.br (x := (976, [some (.ref 0), some (.ref 1), some (.int l2), u3, some (.int l4), some (.int l5), some (.int l6), some (.int l7), some (.int l8), some (.int l9), some (.int l10), (xoi none), u12, u13, u14], [])) (y := (853, [some (.ref 0), some (.ref 1), some (.int l2), u3, some (.int l4), some (.int l5), some (.int l6), some (.int l7), some (.int l8), some (.int l9), some (.int l10), (xoi none), u12, u13, u14], [])) (b := 20 ≤ l2) rfl (fun hb => ?_) (fun hb => ?_)
      · replace H := H.1 (hb)
        exact H
      · replace H := H.2 (hb)
        exact H
  | some v11 =>
    show Ex d [] tb_L_law (840, [some (.ref 0), some (.ref 1), some (.int l2), u3, some (.int l4), some (.int l5), some (.int l6), some (.int l7), some (.int l8), some (.int l9), some (.int l10), (xoi (some v11)), u12, u13, u14], []) h _
    refine Ex.pure 2 (fr2 := (844, [some (.ref 0), some (.ref 1), some (.int l2), u3, some (.int l4), some (.int l5), some (.int l6), some (.int l7), some (.int l8), some (.int l9), some (.int l10), (xoi (some v11)), u12, u13, u14], [.int 23, .int l7])) rfl ?_
    refine Ex.br (x := (976, [some (.ref 0), some (.ref 1), some (.int l2), u3, some (.int l4), some (.int l5), some (.int l6), some (.int l7), some (.int l8), some (.int l9), some (.int l10), (xoi (some v11)), u12, u13, u14], [])) (y := (847, [some (.ref 0), some (.ref 1), some (.int l2), u3, some (.int l4), some (.int l5), some (.int l6), some (.int l7), some (.int l8), some (.int l9), some (.int l10), (xoi (some v11)), u12, u13, u14], [])) (b := ¬ l7 = 23) rfl (fun hb => ?_) (fun hb => ?_)
    · replace H := H.1 (hb)
      exact H
    · replace H := H.2 (hb)
      refine Ex.pure 2 (fr2 := (850, [some (.ref 0), some (.ref 1), some (.int l2), u3, some (.int l4), some (.int l5), some (.int l6), some (.int l7), some (.int l8), some (.int l9), some (.int l10), (xoi (some v11)), u12, u13, u14], [.int 20, .int l2])) rfl ?_
      refine Ex.br (x := (976, [some (.ref 0), some (.ref 1), some (.int l2), u3, some (.int l4), some (.int l5), some (.int l6), some (.int l7), some (.int l8), some (.int l9), some (.int l10), (xoi (some v11)), u12, u13, u14], [])) (y := (853, [some (.ref 0), some (.ref 1), some (.int l2), u3, some (.int l4), some (.int l5), some (.int l6), some (.int l7), some (.int l8), some (.int l9), some (.int l10), (xoi (some v11)), u12, u13, u14], [])) (b := 20 ≤ l2) rfl (fun hb => ?_) (fun hb => ?_)
      · replace H := H.1 (hb)
        exact H
      · replace H := H.2 (hb)
        exact H
set_option maxRecDepth 100000 in
theorem w_L_law_853 {d : Nat} {h : XH} {y : Nat → Nat} {K : XK} {E : XE} {l2 : Int32} {u3 : Option Value} {l4 : Int32} {l5 : Int32} {l6 : Int32} {u7 : Option Value} {l8 : Int32} {l9 : Int32} {u10 : Option Value} {u11 : Option Int32} {u12 : Option Value} {u13 : Option Value} {u14 : Option Value} (hd : 70 ≤ d) (hs : Sg h.1 y) (H : (Ca d m_L_ask [.ref 1, .int 13, .int l9, .int (1 + ((l6 >>> ((12 : Int32) &&& 31)) - (l6 >>> ((12 : Int32) &&& 31)) / 5 * 5)), .int 40] h (fun rv h1 => ∃ x2, rv = some (.int x2) ∧ ∃ y3 : Nat → Nat, Sg h1.1 y3 ∧ (x2 = (-1013) → b_L_law_967 d 0 1 (l2 + 1) (u3) l4 l5 (some (.int l6)) (u7) l8 (some (.int l9)) (u10) u11 (some (.int x2)) (u13) (u14) h1 K E) ∧ (¬ (x2 = (-1013)) → (x2 < (-1) → b_L_law_971 d 0 1 (l2 + 1) (u3) l4 l5 (some (.int l6)) (u7) l8 (some (.int l9)) (u10) u11 (some (.int x2)) (u13) (u14) h1 K E) ∧ (¬ (x2 < (-1)) → (40 < x2 → b_L_law_971 d 0 1 (l2 + 1) (u3) l4 l5 (some (.int l6)) (u7) l8 (some (.int l9)) (u10) u11 (some (.int x2)) (u13) (u14) h1 K E) ∧ (¬ (40 < x2) → (¬ x2 = 0 → b_L_law_912 d 0 1 (l2 + 1) (u3) l4 l5 l6 (u7) l8 l9 (u10) u11 x2 (u13) (u14) h1 K E) ∧ (¬ (¬ x2 = 0) → (Ca d m_X6_powers [.ref 1, .int l9] h1 (fun rv h4 => ∃ x5, rv = some (.int x5) ∧ ∃ y6 : Nat → Nat, Sg h4.1 y6 ∧ (¬ x5 = 0 → b_L_law_971 d 0 1 (l2 + 1) (u3) l4 l5 (some (.int l6)) (u7) l8 (some (.int l9)) (u10) u11 (some (.int x2)) (u13) (u14) h4 K E) ∧ (¬ (¬ x5 = 0) → b_L_law_912 d 0 1 (l2 + 1) (u3) l4 l5 l6 (u7) l8 l9 (u10) u11 x2 (u13) (u14) h4 K E)) E)))))) E)) : b_L_law_853 d 0 1 l2 u3 l4 l5 l6 u7 l8 l9 u10 u11 u12 u13 u14 h K E := by
  cases u11 with
  | none =>
    show Ex d [] tb_L_law (853, [some (.ref 0), some (.ref 1), some (.int l2), u3, some (.int l4), some (.int l5), some (.int l6), u7, some (.int l8), some (.int l9), u10, (xoi none), u12, u13, u14], []) h _
    refine Ex.pure 9 (fr2 := (868, [some (.ref 0), some (.ref 1), some (.int (l2 + 1)), u3, some (.int l4), some (.int l5), some (.int l6), u7, some (.int l8), some (.int l9), u10, (xoi none), u12, u13, u14], [.int 5, .int (l6 >>> ((12 : Int32) &&& 31)), .int 1, .int l9, .int 13, .ref 1])) rfl ?_
    refine Ex.irem rfl (by decide) ?_
    refine Ex.pure 2 (fr2 := (872, [some (.ref 0), some (.ref 1), some (.int (l2 + 1)), u3, some (.int l4), some (.int l5), some (.int l6), u7, some (.int l8), some (.int l9), u10, (xoi none), u12, u13, u14], [.int 40, .int (1 + ((l6 >>> ((12 : Int32) &&& 31)) - (l6 >>> ((12 : Int32) &&& 31)) / 5 * 5)), .int l9, .int 13, .ref 1])) rfl ?_
    refine Ex.cal (rest := []) (j := m_L_ask) (as := [.ref 1, .int 13, .int l9, .int (1 + ((l6 >>> ((12 : Int32) &&& 31)) - (l6 >>> ((12 : Int32) &&& 31)) / 5 * 5)), .int 40]) (fun c => rfl) (H.imp ?_)
    intro rv h1 H
    obtain ⟨x2, rfl, H⟩ := H
    obtain ⟨y3, hs, H⟩ := H
    show Ex d [] tb_L_law (875, [some (.ref 0), some (.ref 1), some (.int (l2 + 1)), u3, some (.int l4), some (.int l5), some (.int l6), u7, some (.int l8), some (.int l9), u10, (xoi none), u12, u13, u14], [.int x2]) h1 _
    refine Ex.pure 3 (fr2 := (882, [some (.ref 0), some (.ref 1), some (.int (l2 + 1)), u3, some (.int l4), some (.int l5), some (.int l6), u7, some (.int l8), some (.int l9), u10, (xoi none), some (.int x2), u13, u14], [.int (-1013), .int x2])) rfl ?_
    refine Ex.br (x := (967, [some (.ref 0), some (.ref 1), some (.int (l2 + 1)), u3, some (.int l4), some (.int l5), some (.int l6), u7, some (.int l8), some (.int l9), u10, (xoi none), some (.int x2), u13, u14], [])) (y := (885, [some (.ref 0), some (.ref 1), some (.int (l2 + 1)), u3, some (.int l4), some (.int l5), some (.int l6), u7, some (.int l8), some (.int l9), u10, (xoi none), some (.int x2), u13, u14], [])) (b := x2 = (-1013)) rfl (fun hb => ?_) (fun hb => ?_)
    · replace H := H.1 (hb)
      exact H
    · replace H := H.2 (hb)
      refine Ex.pure 2 (fr2 := (888, [some (.ref 0), some (.ref 1), some (.int (l2 + 1)), u3, some (.int l4), some (.int l5), some (.int l6), u7, some (.int l8), some (.int l9), u10, (xoi none), some (.int x2), u13, u14], [.int (-1), .int x2])) rfl ?_
      refine Ex.br (x := (971, [some (.ref 0), some (.ref 1), some (.int (l2 + 1)), u3, some (.int l4), some (.int l5), some (.int l6), u7, some (.int l8), some (.int l9), u10, (xoi none), some (.int x2), u13, u14], [])) (y := (891, [some (.ref 0), some (.ref 1), some (.int (l2 + 1)), u3, some (.int l4), some (.int l5), some (.int l6), u7, some (.int l8), some (.int l9), u10, (xoi none), some (.int x2), u13, u14], [])) (b := x2 < (-1)) rfl (fun hb => ?_) (fun hb => ?_)
      · replace H := H.1 (hb)
        exact H
      · replace H := H.2 (hb)
        refine Ex.pure 2 (fr2 := (895, [some (.ref 0), some (.ref 1), some (.int (l2 + 1)), u3, some (.int l4), some (.int l5), some (.int l6), u7, some (.int l8), some (.int l9), u10, (xoi none), some (.int x2), u13, u14], [.int 40, .int x2])) rfl ?_
        refine Ex.br (x := (971, [some (.ref 0), some (.ref 1), some (.int (l2 + 1)), u3, some (.int l4), some (.int l5), some (.int l6), u7, some (.int l8), some (.int l9), u10, (xoi none), some (.int x2), u13, u14], [])) (y := (898, [some (.ref 0), some (.ref 1), some (.int (l2 + 1)), u3, some (.int l4), some (.int l5), some (.int l6), u7, some (.int l8), some (.int l9), u10, (xoi none), some (.int x2), u13, u14], [])) (b := 40 < x2) rfl (fun hb => ?_) (fun hb => ?_)
        · replace H := H.1 (hb)
          exact H
        · replace H := H.2 (hb)
          refine Ex.pure 1 (fr2 := (900, [some (.ref 0), some (.ref 1), some (.int (l2 + 1)), u3, some (.int l4), some (.int l5), some (.int l6), u7, some (.int l8), some (.int l9), u10, (xoi none), some (.int x2), u13, u14], [.int x2])) rfl ?_
          refine Ex.br (x := (912, [some (.ref 0), some (.ref 1), some (.int (l2 + 1)), u3, some (.int l4), some (.int l5), some (.int l6), u7, some (.int l8), some (.int l9), u10, (xoi none), some (.int x2), u13, u14], [])) (y := (903, [some (.ref 0), some (.ref 1), some (.int (l2 + 1)), u3, some (.int l4), some (.int l5), some (.int l6), u7, some (.int l8), some (.int l9), u10, (xoi none), some (.int x2), u13, u14], [])) (b := ¬ x2 = 0) rfl (fun hb => ?_) (fun hb => ?_)
          · replace H := H.1 (hb)
            exact H
          · replace H := H.2 (hb)
            refine Ex.pure 2 (fr2 := (906, [some (.ref 0), some (.ref 1), some (.int (l2 + 1)), u3, some (.int l4), some (.int l5), some (.int l6), u7, some (.int l8), some (.int l9), u10, (xoi none), some (.int x2), u13, u14], [.int l9, .ref 1])) rfl ?_
            refine Ex.cal (rest := []) (j := m_X6_powers) (as := [.ref 1, .int l9]) (vst (a := 82) (b := 2) (c := 5) (rest := []) (vs := [.int l9]) rfl ⟨Nat.le_of_ble_eq_true rfl, Nat.le_of_ble_eq_true rfl⟩ rfl rfl (sg_1 hs)) (H.imp ?_)
            intro rv h4 H
            obtain ⟨x5, rfl, H⟩ := H
            obtain ⟨y6, hs, H⟩ := H
            show Ex d [] tb_L_law (909, [some (.ref 0), some (.ref 1), some (.int (l2 + 1)), u3, some (.int l4), some (.int l5), some (.int l6), u7, some (.int l8), some (.int l9), u10, (xoi none), some (.int x2), u13, u14], [.int x5]) h4 _
            refine Ex.br (x := (971, [some (.ref 0), some (.ref 1), some (.int (l2 + 1)), u3, some (.int l4), some (.int l5), some (.int l6), u7, some (.int l8), some (.int l9), u10, (xoi none), some (.int x2), u13, u14], [])) (y := (912, [some (.ref 0), some (.ref 1), some (.int (l2 + 1)), u3, some (.int l4), some (.int l5), some (.int l6), u7, some (.int l8), some (.int l9), u10, (xoi none), some (.int x2), u13, u14], [])) (b := ¬ x5 = 0) rfl (fun hb => ?_) (fun hb => ?_)
            · replace H := H.1 (hb)
              exact H
            · replace H := H.2 (hb)
              exact H
  | some v11 =>
    show Ex d [] tb_L_law (853, [some (.ref 0), some (.ref 1), some (.int l2), u3, some (.int l4), some (.int l5), some (.int l6), u7, some (.int l8), some (.int l9), u10, (xoi (some v11)), u12, u13, u14], []) h _
    refine Ex.pure 9 (fr2 := (868, [some (.ref 0), some (.ref 1), some (.int (l2 + 1)), u3, some (.int l4), some (.int l5), some (.int l6), u7, some (.int l8), some (.int l9), u10, (xoi (some v11)), u12, u13, u14], [.int 5, .int (l6 >>> ((12 : Int32) &&& 31)), .int 1, .int l9, .int 13, .ref 1])) rfl ?_
    refine Ex.irem rfl (by decide) ?_
    refine Ex.pure 2 (fr2 := (872, [some (.ref 0), some (.ref 1), some (.int (l2 + 1)), u3, some (.int l4), some (.int l5), some (.int l6), u7, some (.int l8), some (.int l9), u10, (xoi (some v11)), u12, u13, u14], [.int 40, .int (1 + ((l6 >>> ((12 : Int32) &&& 31)) - (l6 >>> ((12 : Int32) &&& 31)) / 5 * 5)), .int l9, .int 13, .ref 1])) rfl ?_
    refine Ex.cal (rest := []) (j := m_L_ask) (as := [.ref 1, .int 13, .int l9, .int (1 + ((l6 >>> ((12 : Int32) &&& 31)) - (l6 >>> ((12 : Int32) &&& 31)) / 5 * 5)), .int 40]) (fun c => rfl) (H.imp ?_)
    intro rv h1 H
    obtain ⟨x2, rfl, H⟩ := H
    obtain ⟨y3, hs, H⟩ := H
    show Ex d [] tb_L_law (875, [some (.ref 0), some (.ref 1), some (.int (l2 + 1)), u3, some (.int l4), some (.int l5), some (.int l6), u7, some (.int l8), some (.int l9), u10, (xoi (some v11)), u12, u13, u14], [.int x2]) h1 _
    refine Ex.pure 3 (fr2 := (882, [some (.ref 0), some (.ref 1), some (.int (l2 + 1)), u3, some (.int l4), some (.int l5), some (.int l6), u7, some (.int l8), some (.int l9), u10, (xoi (some v11)), some (.int x2), u13, u14], [.int (-1013), .int x2])) rfl ?_
    refine Ex.br (x := (967, [some (.ref 0), some (.ref 1), some (.int (l2 + 1)), u3, some (.int l4), some (.int l5), some (.int l6), u7, some (.int l8), some (.int l9), u10, (xoi (some v11)), some (.int x2), u13, u14], [])) (y := (885, [some (.ref 0), some (.ref 1), some (.int (l2 + 1)), u3, some (.int l4), some (.int l5), some (.int l6), u7, some (.int l8), some (.int l9), u10, (xoi (some v11)), some (.int x2), u13, u14], [])) (b := x2 = (-1013)) rfl (fun hb => ?_) (fun hb => ?_)
    · replace H := H.1 (hb)
      exact H
    · replace H := H.2 (hb)
      refine Ex.pure 2 (fr2 := (888, [some (.ref 0), some (.ref 1), some (.int (l2 + 1)), u3, some (.int l4), some (.int l5), some (.int l6), u7, some (.int l8), some (.int l9), u10, (xoi (some v11)), some (.int x2), u13, u14], [.int (-1), .int x2])) rfl ?_
      refine Ex.br (x := (971, [some (.ref 0), some (.ref 1), some (.int (l2 + 1)), u3, some (.int l4), some (.int l5), some (.int l6), u7, some (.int l8), some (.int l9), u10, (xoi (some v11)), some (.int x2), u13, u14], [])) (y := (891, [some (.ref 0), some (.ref 1), some (.int (l2 + 1)), u3, some (.int l4), some (.int l5), some (.int l6), u7, some (.int l8), some (.int l9), u10, (xoi (some v11)), some (.int x2), u13, u14], [])) (b := x2 < (-1)) rfl (fun hb => ?_) (fun hb => ?_)
      · replace H := H.1 (hb)
        exact H
      · replace H := H.2 (hb)
        refine Ex.pure 2 (fr2 := (895, [some (.ref 0), some (.ref 1), some (.int (l2 + 1)), u3, some (.int l4), some (.int l5), some (.int l6), u7, some (.int l8), some (.int l9), u10, (xoi (some v11)), some (.int x2), u13, u14], [.int 40, .int x2])) rfl ?_
        refine Ex.br (x := (971, [some (.ref 0), some (.ref 1), some (.int (l2 + 1)), u3, some (.int l4), some (.int l5), some (.int l6), u7, some (.int l8), some (.int l9), u10, (xoi (some v11)), some (.int x2), u13, u14], [])) (y := (898, [some (.ref 0), some (.ref 1), some (.int (l2 + 1)), u3, some (.int l4), some (.int l5), some (.int l6), u7, some (.int l8), some (.int l9), u10, (xoi (some v11)), some (.int x2), u13, u14], [])) (b := 40 < x2) rfl (fun hb => ?_) (fun hb => ?_)
        · replace H := H.1 (hb)
          exact H
        · replace H := H.2 (hb)
          refine Ex.pure 1 (fr2 := (900, [some (.ref 0), some (.ref 1), some (.int (l2 + 1)), u3, some (.int l4), some (.int l5), some (.int l6), u7, some (.int l8), some (.int l9), u10, (xoi (some v11)), some (.int x2), u13, u14], [.int x2])) rfl ?_
          refine Ex.br (x := (912, [some (.ref 0), some (.ref 1), some (.int (l2 + 1)), u3, some (.int l4), some (.int l5), some (.int l6), u7, some (.int l8), some (.int l9), u10, (xoi (some v11)), some (.int x2), u13, u14], [])) (y := (903, [some (.ref 0), some (.ref 1), some (.int (l2 + 1)), u3, some (.int l4), some (.int l5), some (.int l6), u7, some (.int l8), some (.int l9), u10, (xoi (some v11)), some (.int x2), u13, u14], [])) (b := ¬ x2 = 0) rfl (fun hb => ?_) (fun hb => ?_)
          · replace H := H.1 (hb)
            exact H
          · replace H := H.2 (hb)
            refine Ex.pure 2 (fr2 := (906, [some (.ref 0), some (.ref 1), some (.int (l2 + 1)), u3, some (.int l4), some (.int l5), some (.int l6), u7, some (.int l8), some (.int l9), u10, (xoi (some v11)), some (.int x2), u13, u14], [.int l9, .ref 1])) rfl ?_
            refine Ex.cal (rest := []) (j := m_X6_powers) (as := [.ref 1, .int l9]) (vst (a := 82) (b := 2) (c := 5) (rest := []) (vs := [.int l9]) rfl ⟨Nat.le_of_ble_eq_true rfl, Nat.le_of_ble_eq_true rfl⟩ rfl rfl (sg_1 hs)) (H.imp ?_)
            intro rv h4 H
            obtain ⟨x5, rfl, H⟩ := H
            obtain ⟨y6, hs, H⟩ := H
            show Ex d [] tb_L_law (909, [some (.ref 0), some (.ref 1), some (.int (l2 + 1)), u3, some (.int l4), some (.int l5), some (.int l6), u7, some (.int l8), some (.int l9), u10, (xoi (some v11)), some (.int x2), u13, u14], [.int x5]) h4 _
            refine Ex.br (x := (971, [some (.ref 0), some (.ref 1), some (.int (l2 + 1)), u3, some (.int l4), some (.int l5), some (.int l6), u7, some (.int l8), some (.int l9), u10, (xoi (some v11)), some (.int x2), u13, u14], [])) (y := (912, [some (.ref 0), some (.ref 1), some (.int (l2 + 1)), u3, some (.int l4), some (.int l5), some (.int l6), u7, some (.int l8), some (.int l9), u10, (xoi (some v11)), some (.int x2), u13, u14], [])) (b := ¬ x5 = 0) rfl (fun hb => ?_) (fun hb => ?_)
            · replace H := H.1 (hb)
              exact H
            · replace H := H.2 (hb)
              exact H
set_option maxRecDepth 100000 in
theorem w_L_law_912 {d : Nat} {h : XH} {y : Nat → Nat} {K : XK} {E : XE} {l2 : Int32} {u3 : Option Value} {l4 : Int32} {l5 : Int32} {l6 : Int32} {u7 : Option Value} {l8 : Int32} {l9 : Int32} {u10 : Option Value} {u11 : Option Int32} {l12 : Int32} {u13 : Option Value} {u14 : Option Value} (hd : 70 ≤ d) (hs : Sg h.1 y) (H : (l12 < 1 → b_L_law_967 d 0 1 l2 (u3) l4 l5 (some (.int l6)) (u7) l8 (some (.int l9)) (u10) u11 (some (.int l12)) (u13) (u14) h K E) ∧ (¬ (l12 < 1) → (Ca d m_L_ask [.ref 1, .int 13, .int l9, .int (1 + ((l6 >>> ((12 : Int32) &&& 31)) - (l6 >>> ((12 : Int32) &&& 31)) / 5 * 5)), .int l12] h (fun rv h1 => ∃ x2, rv = some (.int x2) ∧ ∃ y3 : Nat → Nat, Sg h1.1 y3 ∧ (¬ x2 = l12 → b_L_law_971 d 0 1 l2 (u3) l4 l5 (some (.int l6)) (u7) l8 (some (.int l9)) (u10) u11 (some (.int l12)) (u13) (u14) h1 K E) ∧ (¬ (¬ x2 = l12) → (Ca d m_L_ask [.ref 1, .int 13, .int l9, .int (1 + ((l6 >>> ((12 : Int32) &&& 31)) - (l6 >>> ((12 : Int32) &&& 31)) / 5 * 5)), .int (l12 - 1)] h1 (fun rv h4 => ∃ x5, rv = some (.int x5) ∧ ∃ y6 : Nat → Nat, Sg h4.1 y6 ∧ (¬ x5 = (-1) → b_L_law_971 d 0 1 l2 (u3) l4 l5 (some (.int l6)) (u7) l8 (some (.int l9)) (u10) u11 (some (.int l12)) (u13) (u14) h4 K E) ∧ (¬ (¬ x5 = (-1)) → b_L_law_967 d 0 1 l2 (u3) l4 l5 (some (.int l6)) (u7) l8 (some (.int l9)) (u10) u11 (some (.int l12)) (u13) (u14) h4 K E)) E))) E))) : b_L_law_912 d 0 1 l2 u3 l4 l5 l6 u7 l8 l9 u10 u11 l12 u13 u14 h K E := by
  cases u11 with
  | none =>
    show Ex d [] tb_L_law (912, [some (.ref 0), some (.ref 1), some (.int l2), u3, some (.int l4), some (.int l5), some (.int l6), u7, some (.int l8), some (.int l9), u10, (xoi none), some (.int l12), u13, u14], []) h _
    refine Ex.pure 2 (fr2 := (915, [some (.ref 0), some (.ref 1), some (.int l2), u3, some (.int l4), some (.int l5), some (.int l6), u7, some (.int l8), some (.int l9), u10, (xoi none), some (.int l12), u13, u14], [.int 1, .int l12])) rfl ?_
    refine Ex.br (x := (967, [some (.ref 0), some (.ref 1), some (.int l2), u3, some (.int l4), some (.int l5), some (.int l6), u7, some (.int l8), some (.int l9), u10, (xoi none), some (.int l12), u13, u14], [])) (y := (918, [some (.ref 0), some (.ref 1), some (.int l2), u3, some (.int l4), some (.int l5), some (.int l6), u7, some (.int l8), some (.int l9), u10, (xoi none), some (.int l12), u13, u14], [])) (b := l12 < 1) rfl (fun hb => ?_) (fun hb => ?_)
    · replace H := H.1 (hb)
      exact H
    · replace H := H.2 (hb)
      refine Ex.pure 8 (fr2 := (930, [some (.ref 0), some (.ref 1), some (.int l2), u3, some (.int l4), some (.int l5), some (.int l6), u7, some (.int l8), some (.int l9), u10, (xoi none), some (.int l12), u13, u14], [.int 5, .int (l6 >>> ((12 : Int32) &&& 31)), .int 1, .int l9, .int 13, .ref 1])) rfl ?_
      refine Ex.irem rfl (by decide) ?_
      refine Ex.pure 2 (fr2 := (934, [some (.ref 0), some (.ref 1), some (.int l2), u3, some (.int l4), some (.int l5), some (.int l6), u7, some (.int l8), some (.int l9), u10, (xoi none), some (.int l12), u13, u14], [.int l12, .int (1 + ((l6 >>> ((12 : Int32) &&& 31)) - (l6 >>> ((12 : Int32) &&& 31)) / 5 * 5)), .int l9, .int 13, .ref 1])) rfl ?_
      refine Ex.cal (rest := []) (j := m_L_ask) (as := [.ref 1, .int 13, .int l9, .int (1 + ((l6 >>> ((12 : Int32) &&& 31)) - (l6 >>> ((12 : Int32) &&& 31)) / 5 * 5)), .int l12]) (fun c => rfl) (H.imp ?_)
      intro rv h1 H
      obtain ⟨x2, rfl, H⟩ := H
      obtain ⟨y3, hs, H⟩ := H
      show Ex d [] tb_L_law (937, [some (.ref 0), some (.ref 1), some (.int l2), u3, some (.int l4), some (.int l5), some (.int l6), u7, some (.int l8), some (.int l9), u10, (xoi none), some (.int l12), u13, u14], [.int x2]) h1 _
      refine Ex.pure 1 (fr2 := (939, [some (.ref 0), some (.ref 1), some (.int l2), u3, some (.int l4), some (.int l5), some (.int l6), u7, some (.int l8), some (.int l9), u10, (xoi none), some (.int l12), u13, u14], [.int l12, .int x2])) rfl ?_
      refine Ex.br (x := (971, [some (.ref 0), some (.ref 1), some (.int l2), u3, some (.int l4), some (.int l5), some (.int l6), u7, some (.int l8), some (.int l9), u10, (xoi none), some (.int l12), u13, u14], [])) (y := (942, [some (.ref 0), some (.ref 1), some (.int l2), u3, some (.int l4), some (.int l5), some (.int l6), u7, some (.int l8), some (.int l9), u10, (xoi none), some (.int l12), u13, u14], [])) (b := ¬ x2 = l12) rfl (fun hb => ?_) (fun hb => ?_)
      · replace H := H.1 (hb)
        exact H
      · replace H := H.2 (hb)
        refine Ex.pure 8 (fr2 := (954, [some (.ref 0), some (.ref 1), some (.int l2), u3, some (.int l4), some (.int l5), some (.int l6), u7, some (.int l8), some (.int l9), u10, (xoi none), some (.int l12), u13, u14], [.int 5, .int (l6 >>> ((12 : Int32) &&& 31)), .int 1, .int l9, .int 13, .ref 1])) rfl ?_
        refine Ex.irem rfl (by decide) ?_
        refine Ex.pure 4 (fr2 := (960, [some (.ref 0), some (.ref 1), some (.int l2), u3, some (.int l4), some (.int l5), some (.int l6), u7, some (.int l8), some (.int l9), u10, (xoi none), some (.int l12), u13, u14], [.int (l12 - 1), .int (1 + ((l6 >>> ((12 : Int32) &&& 31)) - (l6 >>> ((12 : Int32) &&& 31)) / 5 * 5)), .int l9, .int 13, .ref 1])) rfl ?_
        refine Ex.cal (rest := []) (j := m_L_ask) (as := [.ref 1, .int 13, .int l9, .int (1 + ((l6 >>> ((12 : Int32) &&& 31)) - (l6 >>> ((12 : Int32) &&& 31)) / 5 * 5)), .int (l12 - 1)]) (fun c => rfl) (H.imp ?_)
        intro rv h4 H
        obtain ⟨x5, rfl, H⟩ := H
        obtain ⟨y6, hs, H⟩ := H
        show Ex d [] tb_L_law (963, [some (.ref 0), some (.ref 1), some (.int l2), u3, some (.int l4), some (.int l5), some (.int l6), u7, some (.int l8), some (.int l9), u10, (xoi none), some (.int l12), u13, u14], [.int x5]) h4 _
        refine Ex.pure 1 (fr2 := (964, [some (.ref 0), some (.ref 1), some (.int l2), u3, some (.int l4), some (.int l5), some (.int l6), u7, some (.int l8), some (.int l9), u10, (xoi none), some (.int l12), u13, u14], [.int (-1), .int x5])) rfl ?_
        refine Ex.br (x := (971, [some (.ref 0), some (.ref 1), some (.int l2), u3, some (.int l4), some (.int l5), some (.int l6), u7, some (.int l8), some (.int l9), u10, (xoi none), some (.int l12), u13, u14], [])) (y := (967, [some (.ref 0), some (.ref 1), some (.int l2), u3, some (.int l4), some (.int l5), some (.int l6), u7, some (.int l8), some (.int l9), u10, (xoi none), some (.int l12), u13, u14], [])) (b := ¬ x5 = (-1)) rfl (fun hb => ?_) (fun hb => ?_)
        · replace H := H.1 (hb)
          exact H
        · replace H := H.2 (hb)
          exact H
  | some v11 =>
    show Ex d [] tb_L_law (912, [some (.ref 0), some (.ref 1), some (.int l2), u3, some (.int l4), some (.int l5), some (.int l6), u7, some (.int l8), some (.int l9), u10, (xoi (some v11)), some (.int l12), u13, u14], []) h _
    refine Ex.pure 2 (fr2 := (915, [some (.ref 0), some (.ref 1), some (.int l2), u3, some (.int l4), some (.int l5), some (.int l6), u7, some (.int l8), some (.int l9), u10, (xoi (some v11)), some (.int l12), u13, u14], [.int 1, .int l12])) rfl ?_
    refine Ex.br (x := (967, [some (.ref 0), some (.ref 1), some (.int l2), u3, some (.int l4), some (.int l5), some (.int l6), u7, some (.int l8), some (.int l9), u10, (xoi (some v11)), some (.int l12), u13, u14], [])) (y := (918, [some (.ref 0), some (.ref 1), some (.int l2), u3, some (.int l4), some (.int l5), some (.int l6), u7, some (.int l8), some (.int l9), u10, (xoi (some v11)), some (.int l12), u13, u14], [])) (b := l12 < 1) rfl (fun hb => ?_) (fun hb => ?_)
    · replace H := H.1 (hb)
      exact H
    · replace H := H.2 (hb)
      refine Ex.pure 8 (fr2 := (930, [some (.ref 0), some (.ref 1), some (.int l2), u3, some (.int l4), some (.int l5), some (.int l6), u7, some (.int l8), some (.int l9), u10, (xoi (some v11)), some (.int l12), u13, u14], [.int 5, .int (l6 >>> ((12 : Int32) &&& 31)), .int 1, .int l9, .int 13, .ref 1])) rfl ?_
      refine Ex.irem rfl (by decide) ?_
      refine Ex.pure 2 (fr2 := (934, [some (.ref 0), some (.ref 1), some (.int l2), u3, some (.int l4), some (.int l5), some (.int l6), u7, some (.int l8), some (.int l9), u10, (xoi (some v11)), some (.int l12), u13, u14], [.int l12, .int (1 + ((l6 >>> ((12 : Int32) &&& 31)) - (l6 >>> ((12 : Int32) &&& 31)) / 5 * 5)), .int l9, .int 13, .ref 1])) rfl ?_
      refine Ex.cal (rest := []) (j := m_L_ask) (as := [.ref 1, .int 13, .int l9, .int (1 + ((l6 >>> ((12 : Int32) &&& 31)) - (l6 >>> ((12 : Int32) &&& 31)) / 5 * 5)), .int l12]) (fun c => rfl) (H.imp ?_)
      intro rv h1 H
      obtain ⟨x2, rfl, H⟩ := H
      obtain ⟨y3, hs, H⟩ := H
      show Ex d [] tb_L_law (937, [some (.ref 0), some (.ref 1), some (.int l2), u3, some (.int l4), some (.int l5), some (.int l6), u7, some (.int l8), some (.int l9), u10, (xoi (some v11)), some (.int l12), u13, u14], [.int x2]) h1 _
      refine Ex.pure 1 (fr2 := (939, [some (.ref 0), some (.ref 1), some (.int l2), u3, some (.int l4), some (.int l5), some (.int l6), u7, some (.int l8), some (.int l9), u10, (xoi (some v11)), some (.int l12), u13, u14], [.int l12, .int x2])) rfl ?_
      refine Ex.br (x := (971, [some (.ref 0), some (.ref 1), some (.int l2), u3, some (.int l4), some (.int l5), some (.int l6), u7, some (.int l8), some (.int l9), u10, (xoi (some v11)), some (.int l12), u13, u14], [])) (y := (942, [some (.ref 0), some (.ref 1), some (.int l2), u3, some (.int l4), some (.int l5), some (.int l6), u7, some (.int l8), some (.int l9), u10, (xoi (some v11)), some (.int l12), u13, u14], [])) (b := ¬ x2 = l12) rfl (fun hb => ?_) (fun hb => ?_)
      · replace H := H.1 (hb)
        exact H
      · replace H := H.2 (hb)
        refine Ex.pure 8 (fr2 := (954, [some (.ref 0), some (.ref 1), some (.int l2), u3, some (.int l4), some (.int l5), some (.int l6), u7, some (.int l8), some (.int l9), u10, (xoi (some v11)), some (.int l12), u13, u14], [.int 5, .int (l6 >>> ((12 : Int32) &&& 31)), .int 1, .int l9, .int 13, .ref 1])) rfl ?_
        refine Ex.irem rfl (by decide) ?_
        refine Ex.pure 4 (fr2 := (960, [some (.ref 0), some (.ref 1), some (.int l2), u3, some (.int l4), some (.int l5), some (.int l6), u7, some (.int l8), some (.int l9), u10, (xoi (some v11)), some (.int l12), u13, u14], [.int (l12 - 1), .int (1 + ((l6 >>> ((12 : Int32) &&& 31)) - (l6 >>> ((12 : Int32) &&& 31)) / 5 * 5)), .int l9, .int 13, .ref 1])) rfl ?_
        refine Ex.cal (rest := []) (j := m_L_ask) (as := [.ref 1, .int 13, .int l9, .int (1 + ((l6 >>> ((12 : Int32) &&& 31)) - (l6 >>> ((12 : Int32) &&& 31)) / 5 * 5)), .int (l12 - 1)]) (fun c => rfl) (H.imp ?_)
        intro rv h4 H
        obtain ⟨x5, rfl, H⟩ := H
        obtain ⟨y6, hs, H⟩ := H
        show Ex d [] tb_L_law (963, [some (.ref 0), some (.ref 1), some (.int l2), u3, some (.int l4), some (.int l5), some (.int l6), u7, some (.int l8), some (.int l9), u10, (xoi (some v11)), some (.int l12), u13, u14], [.int x5]) h4 _
        refine Ex.pure 1 (fr2 := (964, [some (.ref 0), some (.ref 1), some (.int l2), u3, some (.int l4), some (.int l5), some (.int l6), u7, some (.int l8), some (.int l9), u10, (xoi (some v11)), some (.int l12), u13, u14], [.int (-1), .int x5])) rfl ?_
        refine Ex.br (x := (971, [some (.ref 0), some (.ref 1), some (.int l2), u3, some (.int l4), some (.int l5), some (.int l6), u7, some (.int l8), some (.int l9), u10, (xoi (some v11)), some (.int l12), u13, u14], [])) (y := (967, [some (.ref 0), some (.ref 1), some (.int l2), u3, some (.int l4), some (.int l5), some (.int l6), u7, some (.int l8), some (.int l9), u10, (xoi (some v11)), some (.int l12), u13, u14], [])) (b := ¬ x5 = (-1)) rfl (fun hb => ?_) (fun hb => ?_)
        · replace H := H.1 (hb)
          exact H
        · replace H := H.2 (hb)
          exact H
set_option maxRecDepth 100000 in
theorem w_L_law_967 {d : Nat} {h : XH} {y : Nat → Nat} {K : XK} {E : XE} {l2 : Int32} {u3 : Option Value} {l4 : Int32} {l5 : Int32} {u6 : Option Value} {u7 : Option Value} {l8 : Int32} {u9 : Option Value} {u10 : Option Value} {u11 : Option Int32} {u12 : Option Value} {u13 : Option Value} {u14 : Option Value} (hd : 70 ≤ d) (hs : Sg h.1 y) (H : b_L_law_972 d 0 1 l2 (u3) l4 l5 (u6) (u7) l8 (u9) (u10) u11 (u12) (u13) (u14) 1 h K E) : b_L_law_967 d 0 1 l2 u3 l4 l5 u6 u7 l8 u9 u10 u11 u12 u13 u14 h K E := by
  cases u11 with
  | none =>
    show Ex d [] tb_L_law (967, [some (.ref 0), some (.ref 1), some (.int l2), u3, some (.int l4), some (.int l5), u6, u7, some (.int l8), u9, u10, (xoi none), u12, u13, u14], []) h _
    refine Ex.pure 2 (fr2 := (972, [some (.ref 0), some (.ref 1), some (.int l2), u3, some (.int l4), some (.int l5), u6, u7, some (.int l8), u9, u10, (xoi none), u12, u13, u14], [.int 1])) rfl ?_
    exact H
  | some v11 =>
    show Ex d [] tb_L_law (967, [some (.ref 0), some (.ref 1), some (.int l2), u3, some (.int l4), some (.int l5), u6, u7, some (.int l8), u9, u10, (xoi (some v11)), u12, u13, u14], []) h _
    refine Ex.pure 2 (fr2 := (972, [some (.ref 0), some (.ref 1), some (.int l2), u3, some (.int l4), some (.int l5), u6, u7, some (.int l8), u9, u10, (xoi (some v11)), u12, u13, u14], [.int 1])) rfl ?_
    exact H
set_option maxRecDepth 100000 in
theorem w_L_law_971 {d : Nat} {h : XH} {y : Nat → Nat} {K : XK} {E : XE} {l2 : Int32} {u3 : Option Value} {l4 : Int32} {l5 : Int32} {u6 : Option Value} {u7 : Option Value} {l8 : Int32} {u9 : Option Value} {u10 : Option Value} {u11 : Option Int32} {u12 : Option Value} {u13 : Option Value} {u14 : Option Value} (hd : 70 ≤ d) (hs : Sg h.1 y) (H : b_L_law_972 d 0 1 l2 (u3) l4 l5 (u6) (u7) l8 (u9) (u10) u11 (u12) (u13) (u14) 0 h K E) : b_L_law_971 d 0 1 l2 u3 l4 l5 u6 u7 l8 u9 u10 u11 u12 u13 u14 h K E := by
  cases u11 with
  | none =>
    show Ex d [] tb_L_law (971, [some (.ref 0), some (.ref 1), some (.int l2), u3, some (.int l4), some (.int l5), u6, u7, some (.int l8), u9, u10, (xoi none), u12, u13, u14], []) h _
    refine Ex.pure 1 (fr2 := (972, [some (.ref 0), some (.ref 1), some (.int l2), u3, some (.int l4), some (.int l5), u6, u7, some (.int l8), u9, u10, (xoi none), u12, u13, u14], [.int 0])) rfl ?_
    exact H
  | some v11 =>
    show Ex d [] tb_L_law (971, [some (.ref 0), some (.ref 1), some (.int l2), u3, some (.int l4), some (.int l5), u6, u7, some (.int l8), u9, u10, (xoi (some v11)), u12, u13, u14], []) h _
    refine Ex.pure 1 (fr2 := (972, [some (.ref 0), some (.ref 1), some (.int l2), u3, some (.int l4), some (.int l5), u6, u7, some (.int l8), u9, u10, (xoi (some v11)), u12, u13, u14], [.int 0])) rfl ?_
    exact H
set_option maxRecDepth 100000 in
theorem w_L_law_972 {d : Nat} {h : XH} {y : Nat → Nat} {K : XK} {E : XE} {l2 : Int32} {u3 : Option Value} {l4 : Int32} {l5 : Int32} {u6 : Option Value} {u7 : Option Value} {l8 : Int32} {u9 : Option Value} {u10 : Option Value} {u11 : Option Int32} {u12 : Option Value} {u13 : Option Value} {u14 : Option Value} {s0 : Int32} (hd : 70 ≤ d) (hs : Sg h.1 y) (H : b_L_law_1266 d 0 1 l2 s0 l4 l5 (u6) (u7) l8 (u9) (u10) u11 (u12) (u13) (u14) h K E) : b_L_law_972 d 0 1 l2 u3 l4 l5 u6 u7 l8 u9 u10 u11 u12 u13 u14 s0 h K E := by
  cases u11 with
  | none =>
    show Ex d [] tb_L_law (972, [some (.ref 0), some (.ref 1), some (.int l2), u3, some (.int l4), some (.int l5), u6, u7, some (.int l8), u9, u10, (xoi none), u12, u13, u14], [.int s0]) h _
    refine Ex.pure 2 (fr2 := (1266, [some (.ref 0), some (.ref 1), some (.int l2), some (.int s0), some (.int l4), some (.int l5), u6, u7, some (.int l8), u9, u10, (xoi none), u12, u13, u14], [])) rfl ?_
    exact H
  | some v11 =>
    show Ex d [] tb_L_law (972, [some (.ref 0), some (.ref 1), some (.int l2), u3, some (.int l4), some (.int l5), u6, u7, some (.int l8), u9, u10, (xoi (some v11)), u12, u13, u14], [.int s0]) h _
    refine Ex.pure 2 (fr2 := (1266, [some (.ref 0), some (.ref 1), some (.int l2), some (.int s0), some (.int l4), some (.int l5), u6, u7, some (.int l8), u9, u10, (xoi (some v11)), u12, u13, u14], [])) rfl ?_
    exact H
set_option maxRecDepth 100000 in
theorem w_L_law_976 {d : Nat} {h : XH} {y : Nat → Nat} {K : XK} {E : XE} {l2 : Int32} {u3 : Option Value} {l4 : Int32} {l5 : Int32} {u6 : Option Value} {l7 : Int32} {l8 : Int32} {l9 : Int32} {l10 : Int32} {u11 : Option Int32} {u12 : Option Value} {u13 : Option Value} {u14 : Option Value} (hd : 70 ≤ d) (hs : Sg h.1 y) (H : (27 ≤ l7 → b_L_law_1166 d 0 1 l2 (u3) l4 l5 (u6) (some (.int l7)) l8 l9 l10 u11 (u12) (u13) (u14) h K E) ∧ (¬ (27 ≤ l7) → (Ca d m_L_ask [.ref 1, .int 14, .int 9, .int (1 <<< (l9 &&& 31)), .int (1 <<< (l10 &&& 31))] h (fun rv h1 => ∃ x2, rv = some (.int x2) ∧ ∃ y3 : Nat → Nat, Sg h1.1 y3 ∧ (x2 = (-1013) → b_L_law_1055 d 0 1 l2 (u3) l4 l5 (u6) (some (.int l7)) l8 l9 l10 u11 x2 (u13) (u14) h1 K E) ∧ (¬ (x2 = (-1013)) → (x2 < 0 → b_L_law_1059 d 0 1 l2 (u3) l4 l5 (u6) (some (.int l7)) l8 l9 l10 u11 x2 (u13) (u14) h1 K E) ∧ (¬ (x2 < 0) → (Ca d m_X6_birthday [.ref 1, .int 9] h1 (fun rv h4 => ∃ x5, rv = some (.int x5) ∧ ∃ y6 : Nat → Nat, Sg h4.1 y6 ∧ (¬ x5 = x2 → b_L_law_1059 d 0 1 l2 (u3) l4 l5 (u6) (some (.int l7)) l8 l9 l10 u11 x2 (u13) (u14) h4 K E) ∧ (¬ (¬ x5 = x2) → (Ca d m_L_ask [.ref 1, .int 12, .int l9, .int 9, .int 0] h4 (fun rv h7 => ∃ x8, rv = some (.int x8) ∧ ∃ y9 : Nat → Nat, Sg h7.1 y9 ∧ (¬ x8 = (-1) → b_L_law_1059 d 0 1 l2 (u3) l4 l5 (u6) (some (.int l7)) l8 l9 l10 u11 x2 (u13) (u14) h7 K E) ∧ (¬ (¬ x8 = (-1)) → (Ca d m_L_ask [.ref 1, .int 12, .int 9, .int l10, .int 0] h7 (fun rv h10 => ∃ x11, rv = some (.int x11) ∧ ∃ y12 : Nat → Nat, Sg h10.1 y12 ∧ (¬ x11 = (-1) → b_L_law_1059 d 0 1 l2 (u3) l4 l5 (u6) (some (.int l7)) l8 l9 l10 u11 x2 (u13) (u14) h10 K E) ∧ (¬ (¬ x11 = (-1)) → b_L_law_1055 d 0 1 l2 (u3) l4 l5 (u6) (some (.int l7)) l8 l9 l10 u11 x2 (u13) (u14) h10 K E)) E))) E))) E)))) E))) : b_L_law_976 d 0 1 l2 u3 l4 l5 u6 l7 l8 l9 l10 u11 u12 u13 u14 h K E := by
  cases u11 with
  | none =>
    show Ex d [] tb_L_law (976, [some (.ref 0), some (.ref 1), some (.int l2), u3, some (.int l4), some (.int l5), u6, some (.int l7), some (.int l8), some (.int l9), some (.int l10), (xoi none), u12, u13, u14], []) h _
    refine Ex.pure 2 (fr2 := (980, [some (.ref 0), some (.ref 1), some (.int l2), u3, some (.int l4), some (.int l5), u6, some (.int l7), some (.int l8), some (.int l9), some (.int l10), (xoi none), u12, u13, u14], [.int 27, .int l7])) rfl ?_
    refine Ex.br (x := (1166, [some (.ref 0), some (.ref 1), some (.int l2), u3, some (.int l4), some (.int l5), u6, some (.int l7), some (.int l8), some (.int l9), some (.int l10), (xoi none), u12, u13, u14], [])) (y := (983, [some (.ref 0), some (.ref 1), some (.int l2), u3, some (.int l4), some (.int l5), u6, some (.int l7), some (.int l8), some (.int l9), some (.int l10), (xoi none), u12, u13, u14], [])) (b := 27 ≤ l7) rfl (fun hb => ?_) (fun hb => ?_)
    · replace H := H.1 (hb)
      exact H
    · replace H := H.2 (hb)
      refine Ex.pure 9 (fr2 := (996, [some (.ref 0), some (.ref 1), some (.int l2), u3, some (.int l4), some (.int l5), u6, some (.int l7), some (.int l8), some (.int l9), some (.int l10), (xoi none), u12, u13, u14], [.int (1 <<< (l10 &&& 31)), .int (1 <<< (l9 &&& 31)), .int 9, .int 14, .ref 1])) rfl ?_
      refine Ex.cal (rest := []) (j := m_L_ask) (as := [.ref 1, .int 14, .int 9, .int (1 <<< (l9 &&& 31)), .int (1 <<< (l10 &&& 31))]) (fun c => rfl) (H.imp ?_)
      intro rv h1 H
      obtain ⟨x2, rfl, H⟩ := H
      obtain ⟨y3, hs, H⟩ := H
      show Ex d [] tb_L_law (999, [some (.ref 0), some (.ref 1), some (.int l2), u3, some (.int l4), some (.int l5), u6, some (.int l7), some (.int l8), some (.int l9), some (.int l10), (xoi none), u12, u13, u14], [.int x2]) h1 _
      refine Ex.pure 3 (fr2 := (1006, [some (.ref 0), some (.ref 1), some (.int l2), u3, some (.int l4), some (.int l5), u6, some (.int l7), some (.int l8), some (.int l9), some (.int l10), (xoi none), some (.int x2), u13, u14], [.int (-1013), .int x2])) rfl ?_
      refine Ex.br (x := (1055, [some (.ref 0), some (.ref 1), some (.int l2), u3, some (.int l4), some (.int l5), u6, some (.int l7), some (.int l8), some (.int l9), some (.int l10), (xoi none), some (.int x2), u13, u14], [])) (y := (1009, [some (.ref 0), some (.ref 1), some (.int l2), u3, some (.int l4), some (.int l5), u6, some (.int l7), some (.int l8), some (.int l9), some (.int l10), (xoi none), some (.int x2), u13, u14], [])) (b := x2 = (-1013)) rfl (fun hb => ?_) (fun hb => ?_)
      · replace H := H.1 (hb)
        exact H
      · replace H := H.2 (hb)
        refine Ex.pure 1 (fr2 := (1011, [some (.ref 0), some (.ref 1), some (.int l2), u3, some (.int l4), some (.int l5), u6, some (.int l7), some (.int l8), some (.int l9), some (.int l10), (xoi none), some (.int x2), u13, u14], [.int x2])) rfl ?_
        refine Ex.br (x := (1059, [some (.ref 0), some (.ref 1), some (.int l2), u3, some (.int l4), some (.int l5), u6, some (.int l7), some (.int l8), some (.int l9), some (.int l10), (xoi none), some (.int x2), u13, u14], [])) (y := (1014, [some (.ref 0), some (.ref 1), some (.int l2), u3, some (.int l4), some (.int l5), u6, some (.int l7), some (.int l8), some (.int l9), some (.int l10), (xoi none), some (.int x2), u13, u14], [])) (b := x2 < 0) rfl (fun hb => ?_) (fun hb => ?_)
        · replace H := H.1 (hb)
          exact H
        · replace H := H.2 (hb)
          refine Ex.pure 2 (fr2 := (1017, [some (.ref 0), some (.ref 1), some (.int l2), u3, some (.int l4), some (.int l5), u6, some (.int l7), some (.int l8), some (.int l9), some (.int l10), (xoi none), some (.int x2), u13, u14], [.int 9, .ref 1])) rfl ?_
          refine Ex.cal (rest := []) (j := m_X6_birthday) (as := [.ref 1, .int 9]) (vst (a := 86) (b := 2) (c := 5) (rest := []) (vs := [.int 9]) rfl ⟨Nat.le_of_ble_eq_true rfl, Nat.le_of_ble_eq_true rfl⟩ rfl rfl (sg_1 hs)) (H.imp ?_)
          intro rv h4 H
          obtain ⟨x5, rfl, H⟩ := H
          obtain ⟨y6, hs, H⟩ := H
          show Ex d [] tb_L_law (1020, [some (.ref 0), some (.ref 1), some (.int l2), u3, some (.int l4), some (.int l5), u6, some (.int l7), some (.int l8), some (.int l9), some (.int l10), (xoi none), some (.int x2), u13, u14], [.int x5]) h4 _
          refine Ex.pure 1 (fr2 := (1022, [some (.ref 0), some (.ref 1), some (.int l2), u3, some (.int l4), some (.int l5), u6, some (.int l7), some (.int l8), some (.int l9), some (.int l10), (xoi none), some (.int x2), u13, u14], [.int x2, .int x5])) rfl ?_
          refine Ex.br (x := (1059, [some (.ref 0), some (.ref 1), some (.int l2), u3, some (.int l4), some (.int l5), u6, some (.int l7), some (.int l8), some (.int l9), some (.int l10), (xoi none), some (.int x2), u13, u14], [])) (y := (1025, [some (.ref 0), some (.ref 1), some (.int l2), u3, some (.int l4), some (.int l5), u6, some (.int l7), some (.int l8), some (.int l9), some (.int l10), (xoi none), some (.int x2), u13, u14], [])) (b := ¬ x5 = x2) rfl (fun hb => ?_) (fun hb => ?_)
          · replace H := H.1 (hb)
            exact H
          · replace H := H.2 (hb)
            refine Ex.pure 5 (fr2 := (1033, [some (.ref 0), some (.ref 1), some (.int l2), u3, some (.int l4), some (.int l5), u6, some (.int l7), some (.int l8), some (.int l9), some (.int l10), (xoi none), some (.int x2), u13, u14], [.int 0, .int 9, .int l9, .int 12, .ref 1])) rfl ?_
            refine Ex.cal (rest := []) (j := m_L_ask) (as := [.ref 1, .int 12, .int l9, .int 9, .int 0]) (fun c => rfl) (H.imp ?_)
            intro rv h7 H
            obtain ⟨x8, rfl, H⟩ := H
            obtain ⟨y9, hs, H⟩ := H
            show Ex d [] tb_L_law (1036, [some (.ref 0), some (.ref 1), some (.int l2), u3, some (.int l4), some (.int l5), u6, some (.int l7), some (.int l8), some (.int l9), some (.int l10), (xoi none), some (.int x2), u13, u14], [.int x8]) h7 _
            refine Ex.pure 1 (fr2 := (1037, [some (.ref 0), some (.ref 1), some (.int l2), u3, some (.int l4), some (.int l5), u6, some (.int l7), some (.int l8), some (.int l9), some (.int l10), (xoi none), some (.int x2), u13, u14], [.int (-1), .int x8])) rfl ?_
            refine Ex.br (x := (1059, [some (.ref 0), some (.ref 1), some (.int l2), u3, some (.int l4), some (.int l5), u6, some (.int l7), some (.int l8), some (.int l9), some (.int l10), (xoi none), some (.int x2), u13, u14], [])) (y := (1040, [some (.ref 0), some (.ref 1), some (.int l2), u3, some (.int l4), some (.int l5), u6, some (.int l7), some (.int l8), some (.int l9), some (.int l10), (xoi none), some (.int x2), u13, u14], [])) (b := ¬ x8 = (-1)) rfl (fun hb => ?_) (fun hb => ?_)
            · replace H := H.1 (hb)
              exact H
            · replace H := H.2 (hb)
              refine Ex.pure 5 (fr2 := (1048, [some (.ref 0), some (.ref 1), some (.int l2), u3, some (.int l4), some (.int l5), u6, some (.int l7), some (.int l8), some (.int l9), some (.int l10), (xoi none), some (.int x2), u13, u14], [.int 0, .int l10, .int 9, .int 12, .ref 1])) rfl ?_
              refine Ex.cal (rest := []) (j := m_L_ask) (as := [.ref 1, .int 12, .int 9, .int l10, .int 0]) (fun c => rfl) (H.imp ?_)
              intro rv h10 H
              obtain ⟨x11, rfl, H⟩ := H
              obtain ⟨y12, hs, H⟩ := H
              show Ex d [] tb_L_law (1051, [some (.ref 0), some (.ref 1), some (.int l2), u3, some (.int l4), some (.int l5), u6, some (.int l7), some (.int l8), some (.int l9), some (.int l10), (xoi none), some (.int x2), u13, u14], [.int x11]) h10 _
              refine Ex.pure 1 (fr2 := (1052, [some (.ref 0), some (.ref 1), some (.int l2), u3, some (.int l4), some (.int l5), u6, some (.int l7), some (.int l8), some (.int l9), some (.int l10), (xoi none), some (.int x2), u13, u14], [.int (-1), .int x11])) rfl ?_
              refine Ex.br (x := (1059, [some (.ref 0), some (.ref 1), some (.int l2), u3, some (.int l4), some (.int l5), u6, some (.int l7), some (.int l8), some (.int l9), some (.int l10), (xoi none), some (.int x2), u13, u14], [])) (y := (1055, [some (.ref 0), some (.ref 1), some (.int l2), u3, some (.int l4), some (.int l5), u6, some (.int l7), some (.int l8), some (.int l9), some (.int l10), (xoi none), some (.int x2), u13, u14], [])) (b := ¬ x11 = (-1)) rfl (fun hb => ?_) (fun hb => ?_)
              · replace H := H.1 (hb)
                exact H
              · replace H := H.2 (hb)
                exact H
  | some v11 =>
    show Ex d [] tb_L_law (976, [some (.ref 0), some (.ref 1), some (.int l2), u3, some (.int l4), some (.int l5), u6, some (.int l7), some (.int l8), some (.int l9), some (.int l10), (xoi (some v11)), u12, u13, u14], []) h _
    refine Ex.pure 2 (fr2 := (980, [some (.ref 0), some (.ref 1), some (.int l2), u3, some (.int l4), some (.int l5), u6, some (.int l7), some (.int l8), some (.int l9), some (.int l10), (xoi (some v11)), u12, u13, u14], [.int 27, .int l7])) rfl ?_
    refine Ex.br (x := (1166, [some (.ref 0), some (.ref 1), some (.int l2), u3, some (.int l4), some (.int l5), u6, some (.int l7), some (.int l8), some (.int l9), some (.int l10), (xoi (some v11)), u12, u13, u14], [])) (y := (983, [some (.ref 0), some (.ref 1), some (.int l2), u3, some (.int l4), some (.int l5), u6, some (.int l7), some (.int l8), some (.int l9), some (.int l10), (xoi (some v11)), u12, u13, u14], [])) (b := 27 ≤ l7) rfl (fun hb => ?_) (fun hb => ?_)
    · replace H := H.1 (hb)
      exact H
    · replace H := H.2 (hb)
      refine Ex.pure 9 (fr2 := (996, [some (.ref 0), some (.ref 1), some (.int l2), u3, some (.int l4), some (.int l5), u6, some (.int l7), some (.int l8), some (.int l9), some (.int l10), (xoi (some v11)), u12, u13, u14], [.int (1 <<< (l10 &&& 31)), .int (1 <<< (l9 &&& 31)), .int 9, .int 14, .ref 1])) rfl ?_
      refine Ex.cal (rest := []) (j := m_L_ask) (as := [.ref 1, .int 14, .int 9, .int (1 <<< (l9 &&& 31)), .int (1 <<< (l10 &&& 31))]) (fun c => rfl) (H.imp ?_)
      intro rv h1 H
      obtain ⟨x2, rfl, H⟩ := H
      obtain ⟨y3, hs, H⟩ := H
      show Ex d [] tb_L_law (999, [some (.ref 0), some (.ref 1), some (.int l2), u3, some (.int l4), some (.int l5), u6, some (.int l7), some (.int l8), some (.int l9), some (.int l10), (xoi (some v11)), u12, u13, u14], [.int x2]) h1 _
      refine Ex.pure 3 (fr2 := (1006, [some (.ref 0), some (.ref 1), some (.int l2), u3, some (.int l4), some (.int l5), u6, some (.int l7), some (.int l8), some (.int l9), some (.int l10), (xoi (some v11)), some (.int x2), u13, u14], [.int (-1013), .int x2])) rfl ?_
      refine Ex.br (x := (1055, [some (.ref 0), some (.ref 1), some (.int l2), u3, some (.int l4), some (.int l5), u6, some (.int l7), some (.int l8), some (.int l9), some (.int l10), (xoi (some v11)), some (.int x2), u13, u14], [])) (y := (1009, [some (.ref 0), some (.ref 1), some (.int l2), u3, some (.int l4), some (.int l5), u6, some (.int l7), some (.int l8), some (.int l9), some (.int l10), (xoi (some v11)), some (.int x2), u13, u14], [])) (b := x2 = (-1013)) rfl (fun hb => ?_) (fun hb => ?_)
      · replace H := H.1 (hb)
        exact H
      · replace H := H.2 (hb)
        refine Ex.pure 1 (fr2 := (1011, [some (.ref 0), some (.ref 1), some (.int l2), u3, some (.int l4), some (.int l5), u6, some (.int l7), some (.int l8), some (.int l9), some (.int l10), (xoi (some v11)), some (.int x2), u13, u14], [.int x2])) rfl ?_
        refine Ex.br (x := (1059, [some (.ref 0), some (.ref 1), some (.int l2), u3, some (.int l4), some (.int l5), u6, some (.int l7), some (.int l8), some (.int l9), some (.int l10), (xoi (some v11)), some (.int x2), u13, u14], [])) (y := (1014, [some (.ref 0), some (.ref 1), some (.int l2), u3, some (.int l4), some (.int l5), u6, some (.int l7), some (.int l8), some (.int l9), some (.int l10), (xoi (some v11)), some (.int x2), u13, u14], [])) (b := x2 < 0) rfl (fun hb => ?_) (fun hb => ?_)
        · replace H := H.1 (hb)
          exact H
        · replace H := H.2 (hb)
          refine Ex.pure 2 (fr2 := (1017, [some (.ref 0), some (.ref 1), some (.int l2), u3, some (.int l4), some (.int l5), u6, some (.int l7), some (.int l8), some (.int l9), some (.int l10), (xoi (some v11)), some (.int x2), u13, u14], [.int 9, .ref 1])) rfl ?_
          refine Ex.cal (rest := []) (j := m_X6_birthday) (as := [.ref 1, .int 9]) (vst (a := 86) (b := 2) (c := 5) (rest := []) (vs := [.int 9]) rfl ⟨Nat.le_of_ble_eq_true rfl, Nat.le_of_ble_eq_true rfl⟩ rfl rfl (sg_1 hs)) (H.imp ?_)
          intro rv h4 H
          obtain ⟨x5, rfl, H⟩ := H
          obtain ⟨y6, hs, H⟩ := H
          show Ex d [] tb_L_law (1020, [some (.ref 0), some (.ref 1), some (.int l2), u3, some (.int l4), some (.int l5), u6, some (.int l7), some (.int l8), some (.int l9), some (.int l10), (xoi (some v11)), some (.int x2), u13, u14], [.int x5]) h4 _
          refine Ex.pure 1 (fr2 := (1022, [some (.ref 0), some (.ref 1), some (.int l2), u3, some (.int l4), some (.int l5), u6, some (.int l7), some (.int l8), some (.int l9), some (.int l10), (xoi (some v11)), some (.int x2), u13, u14], [.int x2, .int x5])) rfl ?_
          refine Ex.br (x := (1059, [some (.ref 0), some (.ref 1), some (.int l2), u3, some (.int l4), some (.int l5), u6, some (.int l7), some (.int l8), some (.int l9), some (.int l10), (xoi (some v11)), some (.int x2), u13, u14], [])) (y := (1025, [some (.ref 0), some (.ref 1), some (.int l2), u3, some (.int l4), some (.int l5), u6, some (.int l7), some (.int l8), some (.int l9), some (.int l10), (xoi (some v11)), some (.int x2), u13, u14], [])) (b := ¬ x5 = x2) rfl (fun hb => ?_) (fun hb => ?_)
          · replace H := H.1 (hb)
            exact H
          · replace H := H.2 (hb)
            refine Ex.pure 5 (fr2 := (1033, [some (.ref 0), some (.ref 1), some (.int l2), u3, some (.int l4), some (.int l5), u6, some (.int l7), some (.int l8), some (.int l9), some (.int l10), (xoi (some v11)), some (.int x2), u13, u14], [.int 0, .int 9, .int l9, .int 12, .ref 1])) rfl ?_
            refine Ex.cal (rest := []) (j := m_L_ask) (as := [.ref 1, .int 12, .int l9, .int 9, .int 0]) (fun c => rfl) (H.imp ?_)
            intro rv h7 H
            obtain ⟨x8, rfl, H⟩ := H
            obtain ⟨y9, hs, H⟩ := H
            show Ex d [] tb_L_law (1036, [some (.ref 0), some (.ref 1), some (.int l2), u3, some (.int l4), some (.int l5), u6, some (.int l7), some (.int l8), some (.int l9), some (.int l10), (xoi (some v11)), some (.int x2), u13, u14], [.int x8]) h7 _
            refine Ex.pure 1 (fr2 := (1037, [some (.ref 0), some (.ref 1), some (.int l2), u3, some (.int l4), some (.int l5), u6, some (.int l7), some (.int l8), some (.int l9), some (.int l10), (xoi (some v11)), some (.int x2), u13, u14], [.int (-1), .int x8])) rfl ?_
            refine Ex.br (x := (1059, [some (.ref 0), some (.ref 1), some (.int l2), u3, some (.int l4), some (.int l5), u6, some (.int l7), some (.int l8), some (.int l9), some (.int l10), (xoi (some v11)), some (.int x2), u13, u14], [])) (y := (1040, [some (.ref 0), some (.ref 1), some (.int l2), u3, some (.int l4), some (.int l5), u6, some (.int l7), some (.int l8), some (.int l9), some (.int l10), (xoi (some v11)), some (.int x2), u13, u14], [])) (b := ¬ x8 = (-1)) rfl (fun hb => ?_) (fun hb => ?_)
            · replace H := H.1 (hb)
              exact H
            · replace H := H.2 (hb)
              refine Ex.pure 5 (fr2 := (1048, [some (.ref 0), some (.ref 1), some (.int l2), u3, some (.int l4), some (.int l5), u6, some (.int l7), some (.int l8), some (.int l9), some (.int l10), (xoi (some v11)), some (.int x2), u13, u14], [.int 0, .int l10, .int 9, .int 12, .ref 1])) rfl ?_
              refine Ex.cal (rest := []) (j := m_L_ask) (as := [.ref 1, .int 12, .int 9, .int l10, .int 0]) (fun c => rfl) (H.imp ?_)
              intro rv h10 H
              obtain ⟨x11, rfl, H⟩ := H
              obtain ⟨y12, hs, H⟩ := H
              show Ex d [] tb_L_law (1051, [some (.ref 0), some (.ref 1), some (.int l2), u3, some (.int l4), some (.int l5), u6, some (.int l7), some (.int l8), some (.int l9), some (.int l10), (xoi (some v11)), some (.int x2), u13, u14], [.int x11]) h10 _
              refine Ex.pure 1 (fr2 := (1052, [some (.ref 0), some (.ref 1), some (.int l2), u3, some (.int l4), some (.int l5), u6, some (.int l7), some (.int l8), some (.int l9), some (.int l10), (xoi (some v11)), some (.int x2), u13, u14], [.int (-1), .int x11])) rfl ?_
              refine Ex.br (x := (1059, [some (.ref 0), some (.ref 1), some (.int l2), u3, some (.int l4), some (.int l5), u6, some (.int l7), some (.int l8), some (.int l9), some (.int l10), (xoi (some v11)), some (.int x2), u13, u14], [])) (y := (1055, [some (.ref 0), some (.ref 1), some (.int l2), u3, some (.int l4), some (.int l5), u6, some (.int l7), some (.int l8), some (.int l9), some (.int l10), (xoi (some v11)), some (.int x2), u13, u14], [])) (b := ¬ x11 = (-1)) rfl (fun hb => ?_) (fun hb => ?_)
              · replace H := H.1 (hb)
                exact H
              · replace H := H.2 (hb)
                exact H
set_option maxRecDepth 100000 in
theorem w_L_law_1055 {d : Nat} {h : XH} {y : Nat → Nat} {K : XK} {E : XE} {l2 : Int32} {u3 : Option Value} {l4 : Int32} {l5 : Int32} {u6 : Option Value} {u7 : Option Value} {l8 : Int32} {l9 : Int32} {l10 : Int32} {u11 : Option Int32} {l12 : Int32} {u13 : Option Value} {u14 : Option Value} (hd : 70 ≤ d) (hs : Sg h.1 y) (H : b_L_law_1060 d 0 1 l2 (u3) l4 l5 (u6) (u7) l8 l9 l10 u11 l12 (u13) (u14) 1 h K E) : b_L_law_1055 d 0 1 l2 u3 l4 l5 u6 u7 l8 l9 l10 u11 l12 u13 u14 h K E := by
  cases u11 with
  | none =>
    show Ex d [] tb_L_law (1055, [some (.ref 0), some (.ref 1), some (.int l2), u3, some (.int l4), some (.int l5), u6, u7, some (.int l8), some (.int l9), some (.int l10), (xoi none), some (.int l12), u13, u14], []) h _
    refine Ex.pure 2 (fr2 := (1060, [some (.ref 0), some (.ref 1), some (.int l2), u3, some (.int l4), some (.int l5), u6, u7, some (.int l8), some (.int l9), some (.int l10), (xoi none), some (.int l12), u13, u14], [.int 1])) rfl ?_
    exact H
  | some v11 =>
    show Ex d [] tb_L_law (1055, [some (.ref 0), some (.ref 1), some (.int l2), u3, some (.int l4), some (.int l5), u6, u7, some (.int l8), some (.int l9), some (.int l10), (xoi (some v11)), some (.int l12), u13, u14], []) h _
    refine Ex.pure 2 (fr2 := (1060, [some (.ref 0), some (.ref 1), some (.int l2), u3, some (.int l4), some (.int l5), u6, u7, some (.int l8), some (.int l9), some (.int l10), (xoi (some v11)), some (.int l12), u13, u14], [.int 1])) rfl ?_
    exact H
set_option maxRecDepth 100000 in
theorem w_L_law_1059 {d : Nat} {h : XH} {y : Nat → Nat} {K : XK} {E : XE} {l2 : Int32} {u3 : Option Value} {l4 : Int32} {l5 : Int32} {u6 : Option Value} {u7 : Option Value} {l8 : Int32} {l9 : Int32} {l10 : Int32} {u11 : Option Int32} {l12 : Int32} {u13 : Option Value} {u14 : Option Value} (hd : 70 ≤ d) (hs : Sg h.1 y) (H : b_L_law_1060 d 0 1 l2 (u3) l4 l5 (u6) (u7) l8 l9 l10 u11 l12 (u13) (u14) 0 h K E) : b_L_law_1059 d 0 1 l2 u3 l4 l5 u6 u7 l8 l9 l10 u11 l12 u13 u14 h K E := by
  cases u11 with
  | none =>
    show Ex d [] tb_L_law (1059, [some (.ref 0), some (.ref 1), some (.int l2), u3, some (.int l4), some (.int l5), u6, u7, some (.int l8), some (.int l9), some (.int l10), (xoi none), some (.int l12), u13, u14], []) h _
    refine Ex.pure 1 (fr2 := (1060, [some (.ref 0), some (.ref 1), some (.int l2), u3, some (.int l4), some (.int l5), u6, u7, some (.int l8), some (.int l9), some (.int l10), (xoi none), some (.int l12), u13, u14], [.int 0])) rfl ?_
    exact H
  | some v11 =>
    show Ex d [] tb_L_law (1059, [some (.ref 0), some (.ref 1), some (.int l2), u3, some (.int l4), some (.int l5), u6, u7, some (.int l8), some (.int l9), some (.int l10), (xoi (some v11)), some (.int l12), u13, u14], []) h _
    refine Ex.pure 1 (fr2 := (1060, [some (.ref 0), some (.ref 1), some (.int l2), u3, some (.int l4), some (.int l5), u6, u7, some (.int l8), some (.int l9), some (.int l10), (xoi (some v11)), some (.int l12), u13, u14], [.int 0])) rfl ?_
    exact H
set_option maxRecDepth 100000 in
theorem w_L_law_1060 {d : Nat} {h : XH} {y : Nat → Nat} {K : XK} {E : XE} {l2 : Int32} {u3 : Option Value} {l4 : Int32} {l5 : Int32} {u6 : Option Value} {u7 : Option Value} {l8 : Int32} {l9 : Int32} {l10 : Int32} {u11 : Option Int32} {l12 : Int32} {u13 : Option Value} {u14 : Option Value} {s0 : Int32} (hd : 70 ≤ d) (hs : Sg h.1 y) (H : (s0 = 0 → b_L_law_1111 d 0 1 l2 (some (.int s0)) l4 l5 (u6) (u7) l8 l9 l10 u11 l12 (u13) (u14) h K E) ∧ (¬ (s0 = 0) → (l12 < 0 → b_L_law_1107 d 0 1 l2 (some (.int s0)) l4 l5 (u6) (u7) l8 l9 l10 u11 l12 (u13) (u14) h K E) ∧ (¬ (l12 < 0) → (Ca d m_L_ask [.ref 1, .int 14, .int 10, .int ((1 <<< (l9 &&& 31)) ||| 512), .int (1 <<< (l10 &&& 31))] h (fun rv h1 => ∃ x2, rv = some (.int x2) ∧ ∃ y3 : Nat → Nat, Sg h1.1 y3 ∧ (x2 = (-1013) → b_L_law_1107 d 0 1 l2 (some (.int s0)) l4 l5 (u6) (u7) l8 l9 l10 u11 l12 (u13) (u14) h1 K E) ∧ (¬ (x2 = (-1013)) → (Ca d m_X6_birthday [.ref 1, .int 10] h1 (fun rv h4 => ∃ x5, rv = some (.int x5) ∧ ∃ y6 : Nat → Nat, Sg h4.1 y6 ∧ (x5 ≤ l12 → b_L_law_1111 d 0 1 l2 (some (.int s0)) l4 l5 (u6) (u7) l8 l9 l10 u11 l12 (u13) (u14) h4 K E) ∧ (¬ (x5 ≤ l12) → b_L_law_1107 d 0 1 l2 (some (.int s0)) l4 l5 (u6) (u7) l8 l9 l10 u11 l12 (u13) (u14) h4 K E)) E))) E)))) : b_L_law_1060 d 0 1 l2 u3 l4 l5 u6 u7 l8 l9 l10 u11 l12 u13 u14 s0 h K E := by
  cases u11 with
  | none =>
    show Ex d [] tb_L_law (1060, [some (.ref 0), some (.ref 1), some (.int l2), u3, some (.int l4), some (.int l5), u6, u7, some (.int l8), some (.int l9), some (.int l10), (xoi none), some (.int l12), u13, u14], [.int s0]) h _
    refine Ex.pure 2 (fr2 := (1062, [some (.ref 0), some (.ref 1), some (.int l2), some (.int s0), some (.int l4), some (.int l5), u6, u7, some (.int l8), some (.int l9), some (.int l10), (xoi none), some (.int l12), u13, u14], [.int s0])) rfl ?_
    refine Ex.br (x := (1111, [some (.ref 0), some (.ref 1), some (.int l2), some (.int s0), some (.int l4), some (.int l5), u6, u7, some (.int l8), some (.int l9), some (.int l10), (xoi none), some (.int l12), u13, u14], [])) (y := (1065, [some (.ref 0), some (.ref 1), some (.int l2), some (.int s0), some (.int l4), some (.int l5), u6, u7, some (.int l8), some (.int l9), some (.int l10), (xoi none), some (.int l12), u13, u14], [])) (b := s0 = 0) rfl (fun hb => ?_) (fun hb => ?_)
    · replace H := H.1 (hb)
      exact H
    · replace H := H.2 (hb)
      refine Ex.pure 1 (fr2 := (1067, [some (.ref 0), some (.ref 1), some (.int l2), some (.int s0), some (.int l4), some (.int l5), u6, u7, some (.int l8), some (.int l9), some (.int l10), (xoi none), some (.int l12), u13, u14], [.int l12])) rfl ?_
      refine Ex.br (x := (1107, [some (.ref 0), some (.ref 1), some (.int l2), some (.int s0), some (.int l4), some (.int l5), u6, u7, some (.int l8), some (.int l9), some (.int l10), (xoi none), some (.int l12), u13, u14], [])) (y := (1070, [some (.ref 0), some (.ref 1), some (.int l2), some (.int s0), some (.int l4), some (.int l5), u6, u7, some (.int l8), some (.int l9), some (.int l10), (xoi none), some (.int l12), u13, u14], [])) (b := l12 < 0) rfl (fun hb => ?_) (fun hb => ?_)
      · replace H := H.1 (hb)
        exact H
      · replace H := H.2 (hb)
        refine Ex.pure 11 (fr2 := (1087, [some (.ref 0), some (.ref 1), some (.int l2), some (.int s0), some (.int l4), some (.int l5), u6, u7, some (.int l8), some (.int l9), some (.int l10), (xoi none), some (.int l12), u13, u14], [.int (1 <<< (l10 &&& 31)), .int ((1 <<< (l9 &&& 31)) ||| 512), .int 10, .int 14, .ref 1])) rfl ?_
        refine Ex.cal (rest := []) (j := m_L_ask) (as := [.ref 1, .int 14, .int 10, .int ((1 <<< (l9 &&& 31)) ||| 512), .int (1 <<< (l10 &&& 31))]) (fun c => rfl) (H.imp ?_)
        intro rv h1 H
        obtain ⟨x2, rfl, H⟩ := H
        obtain ⟨y3, hs, H⟩ := H
        show Ex d [] tb_L_law (1090, [some (.ref 0), some (.ref 1), some (.int l2), some (.int s0), some (.int l4), some (.int l5), u6, u7, some (.int l8), some (.int l9), some (.int l10), (xoi none), some (.int l12), u13, u14], [.int x2]) h1 _
        refine Ex.pure 1 (fr2 := (1093, [some (.ref 0), some (.ref 1), some (.int l2), some (.int s0), some (.int l4), some (.int l5), u6, u7, some (.int l8), some (.int l9), some (.int l10), (xoi none), some (.int l12), u13, u14], [.int (-1013), .int x2])) rfl ?_
        refine Ex.br (x := (1107, [some (.ref 0), some (.ref 1), some (.int l2), some (.int s0), some (.int l4), some (.int l5), u6, u7, some (.int l8), some (.int l9), some (.int l10), (xoi none), some (.int l12), u13, u14], [])) (y := (1096, [some (.ref 0), some (.ref 1), some (.int l2), some (.int s0), some (.int l4), some (.int l5), u6, u7, some (.int l8), some (.int l9), some (.int l10), (xoi none), some (.int l12), u13, u14], [])) (b := x2 = (-1013)) rfl (fun hb => ?_) (fun hb => ?_)
        · replace H := H.1 (hb)
          exact H
        · replace H := H.2 (hb)
          refine Ex.pure 2 (fr2 := (1099, [some (.ref 0), some (.ref 1), some (.int l2), some (.int s0), some (.int l4), some (.int l5), u6, u7, some (.int l8), some (.int l9), some (.int l10), (xoi none), some (.int l12), u13, u14], [.int 10, .ref 1])) rfl ?_
          refine Ex.cal (rest := []) (j := m_X6_birthday) (as := [.ref 1, .int 10]) (vst (a := 86) (b := 2) (c := 5) (rest := []) (vs := [.int 10]) rfl ⟨Nat.le_of_ble_eq_true rfl, Nat.le_of_ble_eq_true rfl⟩ rfl rfl (sg_1 hs)) (H.imp ?_)
          intro rv h4 H
          obtain ⟨x5, rfl, H⟩ := H
          obtain ⟨y6, hs, H⟩ := H
          show Ex d [] tb_L_law (1102, [some (.ref 0), some (.ref 1), some (.int l2), some (.int s0), some (.int l4), some (.int l5), u6, u7, some (.int l8), some (.int l9), some (.int l10), (xoi none), some (.int l12), u13, u14], [.int x5]) h4 _
          refine Ex.pure 1 (fr2 := (1104, [some (.ref 0), some (.ref 1), some (.int l2), some (.int s0), some (.int l4), some (.int l5), u6, u7, some (.int l8), some (.int l9), some (.int l10), (xoi none), some (.int l12), u13, u14], [.int l12, .int x5])) rfl ?_
          refine Ex.br (x := (1111, [some (.ref 0), some (.ref 1), some (.int l2), some (.int s0), some (.int l4), some (.int l5), u6, u7, some (.int l8), some (.int l9), some (.int l10), (xoi none), some (.int l12), u13, u14], [])) (y := (1107, [some (.ref 0), some (.ref 1), some (.int l2), some (.int s0), some (.int l4), some (.int l5), u6, u7, some (.int l8), some (.int l9), some (.int l10), (xoi none), some (.int l12), u13, u14], [])) (b := x5 ≤ l12) rfl (fun hb => ?_) (fun hb => ?_)
          · replace H := H.1 (hb)
            exact H
          · replace H := H.2 (hb)
            exact H
  | some v11 =>
    show Ex d [] tb_L_law (1060, [some (.ref 0), some (.ref 1), some (.int l2), u3, some (.int l4), some (.int l5), u6, u7, some (.int l8), some (.int l9), some (.int l10), (xoi (some v11)), some (.int l12), u13, u14], [.int s0]) h _
    refine Ex.pure 2 (fr2 := (1062, [some (.ref 0), some (.ref 1), some (.int l2), some (.int s0), some (.int l4), some (.int l5), u6, u7, some (.int l8), some (.int l9), some (.int l10), (xoi (some v11)), some (.int l12), u13, u14], [.int s0])) rfl ?_
    refine Ex.br (x := (1111, [some (.ref 0), some (.ref 1), some (.int l2), some (.int s0), some (.int l4), some (.int l5), u6, u7, some (.int l8), some (.int l9), some (.int l10), (xoi (some v11)), some (.int l12), u13, u14], [])) (y := (1065, [some (.ref 0), some (.ref 1), some (.int l2), some (.int s0), some (.int l4), some (.int l5), u6, u7, some (.int l8), some (.int l9), some (.int l10), (xoi (some v11)), some (.int l12), u13, u14], [])) (b := s0 = 0) rfl (fun hb => ?_) (fun hb => ?_)
    · replace H := H.1 (hb)
      exact H
    · replace H := H.2 (hb)
      refine Ex.pure 1 (fr2 := (1067, [some (.ref 0), some (.ref 1), some (.int l2), some (.int s0), some (.int l4), some (.int l5), u6, u7, some (.int l8), some (.int l9), some (.int l10), (xoi (some v11)), some (.int l12), u13, u14], [.int l12])) rfl ?_
      refine Ex.br (x := (1107, [some (.ref 0), some (.ref 1), some (.int l2), some (.int s0), some (.int l4), some (.int l5), u6, u7, some (.int l8), some (.int l9), some (.int l10), (xoi (some v11)), some (.int l12), u13, u14], [])) (y := (1070, [some (.ref 0), some (.ref 1), some (.int l2), some (.int s0), some (.int l4), some (.int l5), u6, u7, some (.int l8), some (.int l9), some (.int l10), (xoi (some v11)), some (.int l12), u13, u14], [])) (b := l12 < 0) rfl (fun hb => ?_) (fun hb => ?_)
      · replace H := H.1 (hb)
        exact H
      · replace H := H.2 (hb)
        refine Ex.pure 11 (fr2 := (1087, [some (.ref 0), some (.ref 1), some (.int l2), some (.int s0), some (.int l4), some (.int l5), u6, u7, some (.int l8), some (.int l9), some (.int l10), (xoi (some v11)), some (.int l12), u13, u14], [.int (1 <<< (l10 &&& 31)), .int ((1 <<< (l9 &&& 31)) ||| 512), .int 10, .int 14, .ref 1])) rfl ?_
        refine Ex.cal (rest := []) (j := m_L_ask) (as := [.ref 1, .int 14, .int 10, .int ((1 <<< (l9 &&& 31)) ||| 512), .int (1 <<< (l10 &&& 31))]) (fun c => rfl) (H.imp ?_)
        intro rv h1 H
        obtain ⟨x2, rfl, H⟩ := H
        obtain ⟨y3, hs, H⟩ := H
        show Ex d [] tb_L_law (1090, [some (.ref 0), some (.ref 1), some (.int l2), some (.int s0), some (.int l4), some (.int l5), u6, u7, some (.int l8), some (.int l9), some (.int l10), (xoi (some v11)), some (.int l12), u13, u14], [.int x2]) h1 _
        refine Ex.pure 1 (fr2 := (1093, [some (.ref 0), some (.ref 1), some (.int l2), some (.int s0), some (.int l4), some (.int l5), u6, u7, some (.int l8), some (.int l9), some (.int l10), (xoi (some v11)), some (.int l12), u13, u14], [.int (-1013), .int x2])) rfl ?_
        refine Ex.br (x := (1107, [some (.ref 0), some (.ref 1), some (.int l2), some (.int s0), some (.int l4), some (.int l5), u6, u7, some (.int l8), some (.int l9), some (.int l10), (xoi (some v11)), some (.int l12), u13, u14], [])) (y := (1096, [some (.ref 0), some (.ref 1), some (.int l2), some (.int s0), some (.int l4), some (.int l5), u6, u7, some (.int l8), some (.int l9), some (.int l10), (xoi (some v11)), some (.int l12), u13, u14], [])) (b := x2 = (-1013)) rfl (fun hb => ?_) (fun hb => ?_)
        · replace H := H.1 (hb)
          exact H
        · replace H := H.2 (hb)
          refine Ex.pure 2 (fr2 := (1099, [some (.ref 0), some (.ref 1), some (.int l2), some (.int s0), some (.int l4), some (.int l5), u6, u7, some (.int l8), some (.int l9), some (.int l10), (xoi (some v11)), some (.int l12), u13, u14], [.int 10, .ref 1])) rfl ?_
          refine Ex.cal (rest := []) (j := m_X6_birthday) (as := [.ref 1, .int 10]) (vst (a := 86) (b := 2) (c := 5) (rest := []) (vs := [.int 10]) rfl ⟨Nat.le_of_ble_eq_true rfl, Nat.le_of_ble_eq_true rfl⟩ rfl rfl (sg_1 hs)) (H.imp ?_)
          intro rv h4 H
          obtain ⟨x5, rfl, H⟩ := H
          obtain ⟨y6, hs, H⟩ := H
          show Ex d [] tb_L_law (1102, [some (.ref 0), some (.ref 1), some (.int l2), some (.int s0), some (.int l4), some (.int l5), u6, u7, some (.int l8), some (.int l9), some (.int l10), (xoi (some v11)), some (.int l12), u13, u14], [.int x5]) h4 _
          refine Ex.pure 1 (fr2 := (1104, [some (.ref 0), some (.ref 1), some (.int l2), some (.int s0), some (.int l4), some (.int l5), u6, u7, some (.int l8), some (.int l9), some (.int l10), (xoi (some v11)), some (.int l12), u13, u14], [.int l12, .int x5])) rfl ?_
          refine Ex.br (x := (1111, [some (.ref 0), some (.ref 1), some (.int l2), some (.int s0), some (.int l4), some (.int l5), u6, u7, some (.int l8), some (.int l9), some (.int l10), (xoi (some v11)), some (.int l12), u13, u14], [])) (y := (1107, [some (.ref 0), some (.ref 1), some (.int l2), some (.int s0), some (.int l4), some (.int l5), u6, u7, some (.int l8), some (.int l9), some (.int l10), (xoi (some v11)), some (.int l12), u13, u14], [])) (b := x5 ≤ l12) rfl (fun hb => ?_) (fun hb => ?_)
          · replace H := H.1 (hb)
            exact H
          · replace H := H.2 (hb)
            exact H
set_option maxRecDepth 100000 in
theorem w_L_law_1107 {d : Nat} {h : XH} {y : Nat → Nat} {K : XK} {E : XE} {l2 : Int32} {u3 : Option Value} {l4 : Int32} {l5 : Int32} {u6 : Option Value} {u7 : Option Value} {l8 : Int32} {l9 : Int32} {l10 : Int32} {u11 : Option Int32} {l12 : Int32} {u13 : Option Value} {u14 : Option Value} (hd : 70 ≤ d) (hs : Sg h.1 y) (H : b_L_law_1112 d 0 1 l2 (u3) l4 l5 (u6) (u7) l8 l9 l10 u11 l12 (u13) (u14) 1 h K E) : b_L_law_1107 d 0 1 l2 u3 l4 l5 u6 u7 l8 l9 l10 u11 l12 u13 u14 h K E := by
  cases u11 with
  | none =>
    show Ex d [] tb_L_law (1107, [some (.ref 0), some (.ref 1), some (.int l2), u3, some (.int l4), some (.int l5), u6, u7, some (.int l8), some (.int l9), some (.int l10), (xoi none), some (.int l12), u13, u14], []) h _
    refine Ex.pure 2 (fr2 := (1112, [some (.ref 0), some (.ref 1), some (.int l2), u3, some (.int l4), some (.int l5), u6, u7, some (.int l8), some (.int l9), some (.int l10), (xoi none), some (.int l12), u13, u14], [.int 1])) rfl ?_
    exact H
  | some v11 =>
    show Ex d [] tb_L_law (1107, [some (.ref 0), some (.ref 1), some (.int l2), u3, some (.int l4), some (.int l5), u6, u7, some (.int l8), some (.int l9), some (.int l10), (xoi (some v11)), some (.int l12), u13, u14], []) h _
    refine Ex.pure 2 (fr2 := (1112, [some (.ref 0), some (.ref 1), some (.int l2), u3, some (.int l4), some (.int l5), u6, u7, some (.int l8), some (.int l9), some (.int l10), (xoi (some v11)), some (.int l12), u13, u14], [.int 1])) rfl ?_
    exact H
set_option maxRecDepth 100000 in
theorem w_L_law_1111 {d : Nat} {h : XH} {y : Nat → Nat} {K : XK} {E : XE} {l2 : Int32} {u3 : Option Value} {l4 : Int32} {l5 : Int32} {u6 : Option Value} {u7 : Option Value} {l8 : Int32} {l9 : Int32} {l10 : Int32} {u11 : Option Int32} {l12 : Int32} {u13 : Option Value} {u14 : Option Value} (hd : 70 ≤ d) (hs : Sg h.1 y) (H : b_L_law_1112 d 0 1 l2 (u3) l4 l5 (u6) (u7) l8 l9 l10 u11 l12 (u13) (u14) 0 h K E) : b_L_law_1111 d 0 1 l2 u3 l4 l5 u6 u7 l8 l9 l10 u11 l12 u13 u14 h K E := by
  cases u11 with
  | none =>
    show Ex d [] tb_L_law (1111, [some (.ref 0), some (.ref 1), some (.int l2), u3, some (.int l4), some (.int l5), u6, u7, some (.int l8), some (.int l9), some (.int l10), (xoi none), some (.int l12), u13, u14], []) h _
    refine Ex.pure 1 (fr2 := (1112, [some (.ref 0), some (.ref 1), some (.int l2), u3, some (.int l4), some (.int l5), u6, u7, some (.int l8), some (.int l9), some (.int l10), (xoi none), some (.int l12), u13, u14], [.int 0])) rfl ?_
    exact H
  | some v11 =>
    show Ex d [] tb_L_law (1111, [some (.ref 0), some (.ref 1), some (.int l2), u3, some (.int l4), some (.int l5), u6, u7, some (.int l8), some (.int l9), some (.int l10), (xoi (some v11)), some (.int l12), u13, u14], []) h _
    refine Ex.pure 1 (fr2 := (1112, [some (.ref 0), some (.ref 1), some (.int l2), u3, some (.int l4), some (.int l5), u6, u7, some (.int l8), some (.int l9), some (.int l10), (xoi (some v11)), some (.int l12), u13, u14], [.int 0])) rfl ?_
    exact H
set_option maxRecDepth 100000 in
theorem w_L_law_1112 {d : Nat} {h : XH} {y : Nat → Nat} {K : XK} {E : XE} {l2 : Int32} {u3 : Option Value} {l4 : Int32} {l5 : Int32} {u6 : Option Value} {u7 : Option Value} {l8 : Int32} {l9 : Int32} {l10 : Int32} {u11 : Option Int32} {l12 : Int32} {u13 : Option Value} {u14 : Option Value} {s0 : Int32} (hd : 70 ≤ d) (hs : Sg h.1 y) (H : (s0 = 0 → b_L_law_1161 d 0 1 l2 (some (.int s0)) l4 l5 (u6) (u7) l8 (some (.int l9)) (some (.int l10)) u11 (some (.int l12)) (u13) (u14) h K E) ∧ (¬ (s0 = 0) → (l12 < 0 → b_L_law_1157 d 0 1 l2 (some (.int s0)) l4 l5 (u6) (u7) l8 (some (.int l9)) (some (.int l10)) u11 (some (.int l12)) (u13) (u14) h K E) ∧ (¬ (l12 < 0) → (Ca d m_L_ask [.ref 1, .int 14, .int l8, .int (1 <<< (l9 &&& 31)), .int (1 <<< (l10 &&& 31))] h (fun rv h1 => ∃ x2, rv = some (.int x2) ∧ ∃ y3 : Nat → Nat, Sg h1.1 y3 ∧ (¬ x2 = l12 → b_L_law_1161 d 0 1 l2 (some (.int s0)) l4 l5 (u6) (u7) l8 (some (.int l9)) (some (.int l10)) u11 (some (.int l12)) (u13) (u14) h1 K E) ∧ (¬ (¬ x2 = l12) → (Ca d m_L_ask [.ref 1, .int 12, .int l8, .int 9, .int 0] h1 (fun rv h4 => ∃ x5, rv = some (.int x5) ∧ ∃ y6 : Nat → Nat, Sg h4.1 y6 ∧ (¬ x5 = 0 → b_L_law_1161 d 0 1 l2 (some (.int s0)) l4 l5 (u6) (u7) l8 (some (.int l9)) (some (.int l10)) u11 (some (.int l12)) (u13) (u14) h4 K E) ∧ (¬ (¬ x5 = 0) → b_L_law_1157 d 0 1 l2 (some (.int s0)) l4 l5 (u6) (u7) l8 (some (.int l9)) (some (.int l10)) u11 (some (.int l12)) (u13) (u14) h4 K E)) E))) E)))) : b_L_law_1112 d 0 1 l2 u3 l4 l5 u6 u7 l8 l9 l10 u11 l12 u13 u14 s0 h K E := by
  cases u11 with
  | none =>
    show Ex d [] tb_L_law (1112, [some (.ref 0), some (.ref 1), some (.int l2), u3, some (.int l4), some (.int l5), u6, u7, some (.int l8), some (.int l9), some (.int l10), (xoi none), some (.int l12), u13, u14], [.int s0]) h _
    refine Ex.pure 2 (fr2 := (1114, [some (.ref 0), some (.ref 1), some (.int l2), some (.int s0), some (.int l4), some (.int l5), u6, u7, some (.int l8), some (.int l9), some (.int l10), (xoi none), some (.int l12), u13, u14], [.int s0])) rfl ?_
    refine Ex.br (x := (1161, [some (.ref 0), some (.ref 1), some (.int l2), some (.int s0), some (.int l4), some (.int l5), u6, u7, some (.int l8), some (.int l9), some (.int l10), (xoi none), some (.int l12), u13, u14], [])) (y := (1117, [some (.ref 0), some (.ref 1), some (.int l2), some (.int s0), some (.int l4), some (.int l5), u6, u7, some (.int l8), some (.int l9), some (.int l10), (xoi none), some (.int l12), u13, u14], [])) (b := s0 = 0) rfl (fun hb => ?_) (fun hb => ?_)
    · replace H := H.1 (hb)
      exact H
    · replace H := H.2 (hb)
      refine Ex.pure 1 (fr2 := (1119, [some (.ref 0), some (.ref 1), some (.int l2), some (.int s0), some (.int l4), some (.int l5), u6, u7, some (.int l8), some (.int l9), some (.int l10), (xoi none), some (.int l12), u13, u14], [.int l12])) rfl ?_
      refine Ex.br (x := (1157, [some (.ref 0), some (.ref 1), some (.int l2), some (.int s0), some (.int l4), some (.int l5), u6, u7, some (.int l8), some (.int l9), some (.int l10), (xoi none), some (.int l12), u13, u14], [])) (y := (1122, [some (.ref 0), some (.ref 1), some (.int l2), some (.int s0), some (.int l4), some (.int l5), u6, u7, some (.int l8), some (.int l9), some (.int l10), (xoi none), some (.int l12), u13, u14], [])) (b := l12 < 0) rfl (fun hb => ?_) (fun hb => ?_)
      · replace H := H.1 (hb)
        exact H
      · replace H := H.2 (hb)
        refine Ex.pure 9 (fr2 := (1135, [some (.ref 0), some (.ref 1), some (.int l2), some (.int s0), some (.int l4), some (.int l5), u6, u7, some (.int l8), some (.int l9), some (.int l10), (xoi none), some (.int l12), u13, u14], [.int (1 <<< (l10 &&& 31)), .int (1 <<< (l9 &&& 31)), .int l8, .int 14, .ref 1])) rfl ?_
        refine Ex.cal (rest := []) (j := m_L_ask) (as := [.ref 1, .int 14, .int l8, .int (1 <<< (l9 &&& 31)), .int (1 <<< (l10 &&& 31))]) (fun c => rfl) (H.imp ?_)
        intro rv h1 H
        obtain ⟨x2, rfl, H⟩ := H
        obtain ⟨y3, hs, H⟩ := H
        show Ex d [] tb_L_law (1138, [some (.ref 0), some (.ref 1), some (.int l2), some (.int s0), some (.int l4), some (.int l5), u6, u7, some (.int l8), some (.int l9), some (.int l10), (xoi none), some (.int l12), u13, u14], [.int x2]) h1 _
        refine Ex.pure 1 (fr2 := (1140, [some (.ref 0), some (.ref 1), some (.int l2), some (.int s0), some (.int l4), some (.int l5), u6, u7, some (.int l8), some (.int l9), some (.int l10), (xoi none), some (.int l12), u13, u14], [.int l12, .int x2])) rfl ?_
        refine Ex.br (x := (1161, [some (.ref 0), some (.ref 1), some (.int l2), some (.int s0), some (.int l4), some (.int l5), u6, u7, some (.int l8), some (.int l9), some (.int l10), (xoi none), some (.int l12), u13, u14], [])) (y := (1143, [some (.ref 0), some (.ref 1), some (.int l2), some (.int s0), some (.int l4), some (.int l5), u6, u7, some (.int l8), some (.int l9), some (.int l10), (xoi none), some (.int l12), u13, u14], [])) (b := ¬ x2 = l12) rfl (fun hb => ?_) (fun hb => ?_)
        · replace H := H.1 (hb)
          exact H
        · replace H := H.2 (hb)
          refine Ex.pure 5 (fr2 := (1151, [some (.ref 0), some (.ref 1), some (.int l2), some (.int s0), some (.int l4), some (.int l5), u6, u7, some (.int l8), some (.int l9), some (.int l10), (xoi none), some (.int l12), u13, u14], [.int 0, .int 9, .int l8, .int 12, .ref 1])) rfl ?_
          refine Ex.cal (rest := []) (j := m_L_ask) (as := [.ref 1, .int 12, .int l8, .int 9, .int 0]) (fun c => rfl) (H.imp ?_)
          intro rv h4 H
          obtain ⟨x5, rfl, H⟩ := H
          obtain ⟨y6, hs, H⟩ := H
          show Ex d [] tb_L_law (1154, [some (.ref 0), some (.ref 1), some (.int l2), some (.int s0), some (.int l4), some (.int l5), u6, u7, some (.int l8), some (.int l9), some (.int l10), (xoi none), some (.int l12), u13, u14], [.int x5]) h4 _
          refine Ex.br (x := (1161, [some (.ref 0), some (.ref 1), some (.int l2), some (.int s0), some (.int l4), some (.int l5), u6, u7, some (.int l8), some (.int l9), some (.int l10), (xoi none), some (.int l12), u13, u14], [])) (y := (1157, [some (.ref 0), some (.ref 1), some (.int l2), some (.int s0), some (.int l4), some (.int l5), u6, u7, some (.int l8), some (.int l9), some (.int l10), (xoi none), some (.int l12), u13, u14], [])) (b := ¬ x5 = 0) rfl (fun hb => ?_) (fun hb => ?_)
          · replace H := H.1 (hb)
            exact H
          · replace H := H.2 (hb)
            exact H
  | some v11 =>
    show Ex d [] tb_L_law (1112, [some (.ref 0), some (.ref 1), some (.int l2), u3, some (.int l4), some (.int l5), u6, u7, some (.int l8), some (.int l9), some (.int l10), (xoi (some v11)), some (.int l12), u13, u14], [.int s0]) h _
    refine Ex.pure 2 (fr2 := (1114, [some (.ref 0), some (.ref 1), some (.int l2), some (.int s0), some (.int l4), some (.int l5), u6, u7, some (.int l8), some (.int l9), some (.int l10), (xoi (some v11)), some (.int l12), u13, u14], [.int s0])) rfl ?_
    refine Ex.br (x := (1161, [some (.ref 0), some (.ref 1), some (.int l2), some (.int s0), some (.int l4), some (.int l5), u6, u7, some (.int l8), some (.int l9), some (.int l10), (xoi (some v11)), some (.int l12), u13, u14], [])) (y := (1117, [some (.ref 0), some (.ref 1), some (.int l2), some (.int s0), some (.int l4), some (.int l5), u6, u7, some (.int l8), some (.int l9), some (.int l10), (xoi (some v11)), some (.int l12), u13, u14], [])) (b := s0 = 0) rfl (fun hb => ?_) (fun hb => ?_)
    · replace H := H.1 (hb)
      exact H
    · replace H := H.2 (hb)
      refine Ex.pure 1 (fr2 := (1119, [some (.ref 0), some (.ref 1), some (.int l2), some (.int s0), some (.int l4), some (.int l5), u6, u7, some (.int l8), some (.int l9), some (.int l10), (xoi (some v11)), some (.int l12), u13, u14], [.int l12])) rfl ?_
      refine Ex.br (x := (1157, [some (.ref 0), some (.ref 1), some (.int l2), some (.int s0), some (.int l4), some (.int l5), u6, u7, some (.int l8), some (.int l9), some (.int l10), (xoi (some v11)), some (.int l12), u13, u14], [])) (y := (1122, [some (.ref 0), some (.ref 1), some (.int l2), some (.int s0), some (.int l4), some (.int l5), u6, u7, some (.int l8), some (.int l9), some (.int l10), (xoi (some v11)), some (.int l12), u13, u14], [])) (b := l12 < 0) rfl (fun hb => ?_) (fun hb => ?_)
      · replace H := H.1 (hb)
        exact H
      · replace H := H.2 (hb)
        refine Ex.pure 9 (fr2 := (1135, [some (.ref 0), some (.ref 1), some (.int l2), some (.int s0), some (.int l4), some (.int l5), u6, u7, some (.int l8), some (.int l9), some (.int l10), (xoi (some v11)), some (.int l12), u13, u14], [.int (1 <<< (l10 &&& 31)), .int (1 <<< (l9 &&& 31)), .int l8, .int 14, .ref 1])) rfl ?_
        refine Ex.cal (rest := []) (j := m_L_ask) (as := [.ref 1, .int 14, .int l8, .int (1 <<< (l9 &&& 31)), .int (1 <<< (l10 &&& 31))]) (fun c => rfl) (H.imp ?_)
        intro rv h1 H
        obtain ⟨x2, rfl, H⟩ := H
        obtain ⟨y3, hs, H⟩ := H
        show Ex d [] tb_L_law (1138, [some (.ref 0), some (.ref 1), some (.int l2), some (.int s0), some (.int l4), some (.int l5), u6, u7, some (.int l8), some (.int l9), some (.int l10), (xoi (some v11)), some (.int l12), u13, u14], [.int x2]) h1 _
        refine Ex.pure 1 (fr2 := (1140, [some (.ref 0), some (.ref 1), some (.int l2), some (.int s0), some (.int l4), some (.int l5), u6, u7, some (.int l8), some (.int l9), some (.int l10), (xoi (some v11)), some (.int l12), u13, u14], [.int l12, .int x2])) rfl ?_
        refine Ex.br (x := (1161, [some (.ref 0), some (.ref 1), some (.int l2), some (.int s0), some (.int l4), some (.int l5), u6, u7, some (.int l8), some (.int l9), some (.int l10), (xoi (some v11)), some (.int l12), u13, u14], [])) (y := (1143, [some (.ref 0), some (.ref 1), some (.int l2), some (.int s0), some (.int l4), some (.int l5), u6, u7, some (.int l8), some (.int l9), some (.int l10), (xoi (some v11)), some (.int l12), u13, u14], [])) (b := ¬ x2 = l12) rfl (fun hb => ?_) (fun hb => ?_)
        · replace H := H.1 (hb)
          exact H
        · replace H := H.2 (hb)
          refine Ex.pure 5 (fr2 := (1151, [some (.ref 0), some (.ref 1), some (.int l2), some (.int s0), some (.int l4), some (.int l5), u6, u7, some (.int l8), some (.int l9), some (.int l10), (xoi (some v11)), some (.int l12), u13, u14], [.int 0, .int 9, .int l8, .int 12, .ref 1])) rfl ?_
          refine Ex.cal (rest := []) (j := m_L_ask) (as := [.ref 1, .int 12, .int l8, .int 9, .int 0]) (fun c => rfl) (H.imp ?_)
          intro rv h4 H
          obtain ⟨x5, rfl, H⟩ := H
          obtain ⟨y6, hs, H⟩ := H
          show Ex d [] tb_L_law (1154, [some (.ref 0), some (.ref 1), some (.int l2), some (.int s0), some (.int l4), some (.int l5), u6, u7, some (.int l8), some (.int l9), some (.int l10), (xoi (some v11)), some (.int l12), u13, u14], [.int x5]) h4 _
          refine Ex.br (x := (1161, [some (.ref 0), some (.ref 1), some (.int l2), some (.int s0), some (.int l4), some (.int l5), u6, u7, some (.int l8), some (.int l9), some (.int l10), (xoi (some v11)), some (.int l12), u13, u14], [])) (y := (1157, [some (.ref 0), some (.ref 1), some (.int l2), some (.int s0), some (.int l4), some (.int l5), u6, u7, some (.int l8), some (.int l9), some (.int l10), (xoi (some v11)), some (.int l12), u13, u14], [])) (b := ¬ x5 = 0) rfl (fun hb => ?_) (fun hb => ?_)
          · replace H := H.1 (hb)
            exact H
          · replace H := H.2 (hb)
            exact H
set_option maxRecDepth 100000 in
theorem w_L_law_1157 {d : Nat} {h : XH} {y : Nat → Nat} {K : XK} {E : XE} {l2 : Int32} {u3 : Option Value} {l4 : Int32} {l5 : Int32} {u6 : Option Value} {u7 : Option Value} {l8 : Int32} {u9 : Option Value} {u10 : Option Value} {u11 : Option Int32} {u12 : Option Value} {u13 : Option Value} {u14 : Option Value} (hd : 70 ≤ d) (hs : Sg h.1 y) (H : b_L_law_1162 d 0 1 l2 (u3) l4 l5 (u6) (u7) l8 (u9) (u10) u11 (u12) (u13) (u14) 1 h K E) : b_L_law_1157 d 0 1 l2 u3 l4 l5 u6 u7 l8 u9 u10 u11 u12 u13 u14 h K E := by
  cases u11 with
  | none =>
    show Ex d [] tb_L_law (1157, [some (.ref 0), some (.ref 1), some (.int l2), u3, some (.int l4), some (.int l5), u6, u7, some (.int l8), u9, u10, (xoi none), u12, u13, u14], []) h _
    refine Ex.pure 2 (fr2 := (1162, [some (.ref 0), some (.ref 1), some (.int l2), u3, some (.int l4), some (.int l5), u6, u7, some (.int l8), u9, u10, (xoi none), u12, u13, u14], [.int 1])) rfl ?_
    exact H
  | some v11 =>
    show Ex d [] tb_L_law (1157, [some (.ref 0), some (.ref 1), some (.int l2), u3, some (.int l4), some (.int l5), u6, u7, some (.int l8), u9, u10, (xoi (some v11)), u12, u13, u14], []) h _
    refine Ex.pure 2 (fr2 := (1162, [some (.ref 0), some (.ref 1), some (.int l2), u3, some (.int l4), some (.int l5), u6, u7, some (.int l8), u9, u10, (xoi (some v11)), u12, u13, u14], [.int 1])) rfl ?_
    exact H
set_option maxRecDepth 100000 in
theorem w_L_law_1161 {d : Nat} {h : XH} {y : Nat → Nat} {K : XK} {E : XE} {l2 : Int32} {u3 : Option Value} {l4 : Int32} {l5 : Int32} {u6 : Option Value} {u7 : Option Value} {l8 : Int32} {u9 : Option Value} {u10 : Option Value} {u11 : Option Int32} {u12 : Option Value} {u13 : Option Value} {u14 : Option Value} (hd : 70 ≤ d) (hs : Sg h.1 y) (H : b_L_law_1162 d 0 1 l2 (u3) l4 l5 (u6) (u7) l8 (u9) (u10) u11 (u12) (u13) (u14) 0 h K E) : b_L_law_1161 d 0 1 l2 u3 l4 l5 u6 u7 l8 u9 u10 u11 u12 u13 u14 h K E := by
  cases u11 with
  | none =>
    show Ex d [] tb_L_law (1161, [some (.ref 0), some (.ref 1), some (.int l2), u3, some (.int l4), some (.int l5), u6, u7, some (.int l8), u9, u10, (xoi none), u12, u13, u14], []) h _
    refine Ex.pure 1 (fr2 := (1162, [some (.ref 0), some (.ref 1), some (.int l2), u3, some (.int l4), some (.int l5), u6, u7, some (.int l8), u9, u10, (xoi none), u12, u13, u14], [.int 0])) rfl ?_
    exact H
  | some v11 =>
    show Ex d [] tb_L_law (1161, [some (.ref 0), some (.ref 1), some (.int l2), u3, some (.int l4), some (.int l5), u6, u7, some (.int l8), u9, u10, (xoi (some v11)), u12, u13, u14], []) h _
    refine Ex.pure 1 (fr2 := (1162, [some (.ref 0), some (.ref 1), some (.int l2), u3, some (.int l4), some (.int l5), u6, u7, some (.int l8), u9, u10, (xoi (some v11)), u12, u13, u14], [.int 0])) rfl ?_
    exact H
set_option maxRecDepth 100000 in
theorem w_L_law_1162 {d : Nat} {h : XH} {y : Nat → Nat} {K : XK} {E : XE} {l2 : Int32} {u3 : Option Value} {l4 : Int32} {l5 : Int32} {u6 : Option Value} {u7 : Option Value} {l8 : Int32} {u9 : Option Value} {u10 : Option Value} {u11 : Option Int32} {u12 : Option Value} {u13 : Option Value} {u14 : Option Value} {s0 : Int32} (hd : 70 ≤ d) (hs : Sg h.1 y) (H : b_L_law_1266 d 0 1 l2 s0 l4 l5 (u6) (u7) l8 (u9) (u10) u11 (u12) (u13) (u14) h K E) : b_L_law_1162 d 0 1 l2 u3 l4 l5 u6 u7 l8 u9 u10 u11 u12 u13 u14 s0 h K E := by
  cases u11 with
  | none =>
    show Ex d [] tb_L_law (1162, [some (.ref 0), some (.ref 1), some (.int l2), u3, some (.int l4), some (.int l5), u6, u7, some (.int l8), u9, u10, (xoi none), u12, u13, u14], [.int s0]) h _
    refine Ex.pure 2 (fr2 := (1266, [some (.ref 0), some (.ref 1), some (.int l2), some (.int s0), some (.int l4), some (.int l5), u6, u7, some (.int l8), u9, u10, (xoi none), u12, u13, u14], [])) rfl ?_
    exact H
  | some v11 =>
    show Ex d [] tb_L_law (1162, [some (.ref 0), some (.ref 1), some (.int l2), u3, some (.int l4), some (.int l5), u6, u7, some (.int l8), u9, u10, (xoi (some v11)), u12, u13, u14], [.int s0]) h _
    refine Ex.pure 2 (fr2 := (1266, [some (.ref 0), some (.ref 1), some (.int l2), some (.int s0), some (.int l4), some (.int l5), u6, u7, some (.int l8), u9, u10, (xoi (some v11)), u12, u13, u14], [])) rfl ?_
    exact H
set_option maxRecDepth 100000 in
theorem w_L_law_1166 {d : Nat} {h : XH} {y : Nat → Nat} {K : XK} {E : XE} {l2 : Int32} {u3 : Option Value} {l4 : Int32} {l5 : Int32} {u6 : Option Value} {u7 : Option Value} {l8 : Int32} {l9 : Int32} {l10 : Int32} {u11 : Option Int32} {u12 : Option Value} {u13 : Option Value} {u14 : Option Value} (hd : 70 ≤ d) (hs : Sg h.1 y) (H : (Ca d m_L_ask [.ref 1, .int 12, .int l9, .int l10, .int 0] h (fun rv h1 => ∃ x2, rv = some (.int x2) ∧ ∃ y3 : Nat → Nat, Sg h1.1 y3 ∧ (¬ x2 = (-1013) → (x2 < (-1) → b_L_law_1264 d 0 1 l2 (u3) l4 l5 (u6) (u7) l8 (some (.int l9)) (some (.int l10)) u11 (some (.int x2)) (u13) (u14) h1 K E) ∧ (¬ (x2 < (-1)) → (1 < x2 → b_L_law_1264 d 0 1 l2 (u3) l4 l5 (u6) (u7) l8 (some (.int l9)) (some (.int l10)) u11 (some (.int x2)) (u13) (u14) h1 K E) ∧ (¬ (1 < x2) → (Ca d m_L_ask [.ref 1, .int 12, .int l10, .int l9, .int 0] h1 (fun rv h4 => ∃ x5, rv = some (.int x5) ∧ ∃ y6 : Nat → Nat, Sg h4.1 y6 ∧ (¬ x5 = (-x2) → b_L_law_1264 d 0 1 l2 (u3) l4 l5 (u6) (u7) l8 (some (.int l9)) (some (.int l10)) u11 (some (.int x2)) (u13) (u14) h4 K E) ∧ (¬ (¬ x5 = (-x2)) → (¬ l9 = l10 → b_L_law_1260 d 0 1 l2 (u3) l4 l5 (u6) (u7) l8 (some (.int l9)) (some (.int l10)) u11 (some (.int x2)) (u13) (u14) h4 K E) ∧ (¬ (¬ l9 = l10) → (¬ x2 = 0 → b_L_law_1264 d 0 1 l2 (u3) l4 l5 (u6) (u7) l8 (some (.int l9)) (some (.int l10)) u11 (some (.int x2)) (u13) (u14) h4 K E) ∧ (¬ (¬ x2 = 0) → b_L_law_1260 d 0 1 l2 (u3) l4 l5 (u6) (u7) l8 (some (.int l9)) (some (.int l10)) u11 (some (.int x2)) (u13) (u14) h4 K E)))) E)))) ∧ (¬ (¬ x2 = (-1013)) → (Ca d m_X6_kind [.ref 1, .int l9] h1 (fun rv h7 => ∃ x8, rv = some (.int x8) ∧ ∃ y9 : Nat → Nat, Sg h7.1 y9 ∧ (Ca d m_X6_kind [.ref 1, .int l10] h7 (fun rv h10 => ∃ x11, rv = some (.int x11) ∧ ∃ y12 : Nat → Nat, Sg h10.1 y12 ∧ (¬ x8 = x11 → b_L_law_1211 d 0 1 l2 (u3) l4 l5 (u6) (u7) l8 (some (.int l9)) (some (.int l10)) u11 (some (.int x2)) (u13) (u14) h10 K E) ∧ (¬ (¬ x8 = x11) → (Ca d m_X6_kind [.ref 1, .int l9] h10 (fun rv h13 => ∃ x14, rv = some (.int x14) ∧ ∃ y15 : Nat → Nat, Sg h13.1 y15 ∧ (¬ x14 = 0 → b_L_law_1265 d 0 1 l2 (u3) l4 l5 (u6) (u7) l8 (some (.int l9)) (some (.int l10)) u11 (some (.int x2)) (u13) (u14) 0 h13 K E) ∧ (¬ (¬ x14 = 0) → b_L_law_1211 d 0 1 l2 (u3) l4 l5 (u6) (u7) l8 (some (.int l9)) (some (.int l10)) u11 (some (.int x2)) (u13) (u14) h13 K E)) E))) E)) E))) E)) : b_L_law_1166 d 0 1 l2 u3 l4 l5 u6 u7 l8 l9 l10 u11 u12 u13 u14 h K E := by
  cases u11 with
  | none =>
    show Ex d [] tb_L_law (1166, [some (.ref 0), some (.ref 1), some (.int l2), u3, some (.int l4), some (.int l5), u6, u7, some (.int l8), some (.int l9), some (.int l10), (xoi none), u12, u13, u14], []) h _
    refine Ex.pure 5 (fr2 := (1174, [some (.ref 0), some (.ref 1), some (.int l2), u3, some (.int l4), some (.int l5), u6, u7, some (.int l8), some (.int l9), some (.int l10), (xoi none), u12, u13, u14], [.int 0, .int l10, .int l9, .int 12, .ref 1])) rfl ?_
    refine Ex.cal (rest := []) (j := m_L_ask) (as := [.ref 1, .int 12, .int l9, .int l10, .int 0]) (fun c => rfl) (H.imp ?_)
    intro rv h1 H
    obtain ⟨x2, rfl, H⟩ := H
    obtain ⟨y3, hs, H⟩ := H
    show Ex d [] tb_L_law (1177, [some (.ref 0), some (.ref 1), some (.int l2), u3, some (.int l4), some (.int l5), u6, u7, some (.int l8), some (.int l9), some (.int l10), (xoi none), u12, u13, u14], [.int x2]) h1 _
    refine Ex.pure 3 (fr2 := (1184, [some (.ref 0), some (.ref 1), some (.int l2), u3, some (.int l4), some (.int l5), u6, u7, some (.int l8), some (.int l9), some (.int l10), (xoi none), some (.int x2), u13, u14], [.int (-1013), .int x2])) rfl ?_
    refine Ex.br (x := (1219, [some (.ref 0), some (.ref 1), some (.int l2), u3, some (.int l4), some (.int l5), u6, u7, some (.int l8), some (.int l9), some (.int l10), (xoi none), some (.int x2), u13, u14], [])) (y := (1187, [some (.ref 0), some (.ref 1), some (.int l2), u3, some (.int l4), some (.int l5), u6, u7, some (.int l8), some (.int l9), some (.int l10), (xoi none), some (.int x2), u13, u14], [])) (b := ¬ x2 = (-1013)) rfl (fun hb => ?_) (fun hb => ?_)
    · replace H := H.1 (hb)
      refine Ex.pure 2 (fr2 := (1222, [some (.ref 0), some (.ref 1), some (.int l2), u3, some (.int l4), some (.int l5), u6, u7, some (.int l8), some (.int l9), some (.int l10), (xoi none), some (.int x2), u13, u14], [.int (-1), .int x2])) rfl ?_
      refine Ex.br (x := (1264, [some (.ref 0), some (.ref 1), some (.int l2), u3, some (.int l4), some (.int l5), u6, u7, some (.int l8), some (.int l9), some (.int l10), (xoi none), some (.int x2), u13, u14], [])) (y := (1225, [some (.ref 0), some (.ref 1), some (.int l2), u3, some (.int l4), some (.int l5), u6, u7, some (.int l8), some (.int l9), some (.int l10), (xoi none), some (.int x2), u13, u14], [])) (b := x2 < (-1)) rfl (fun hb => ?_) (fun hb => ?_)
      · replace H := H.1 (hb)
        exact H
      · replace H := H.2 (hb)
        refine Ex.pure 2 (fr2 := (1228, [some (.ref 0), some (.ref 1), some (.int l2), u3, some (.int l4), some (.int l5), u6, u7, some (.int l8), some (.int l9), some (.int l10), (xoi none), some (.int x2), u13, u14], [.int 1, .int x2])) rfl ?_
        refine Ex.br (x := (1264, [some (.ref 0), some (.ref 1), some (.int l2), u3, some (.int l4), some (.int l5), u6, u7, some (.int l8), some (.int l9), some (.int l10), (xoi none), some (.int x2), u13, u14], [])) (y := (1231, [some (.ref 0), some (.ref 1), some (.int l2), u3, some (.int l4), some (.int l5), u6, u7, some (.int l8), some (.int l9), some (.int l10), (xoi none), some (.int x2), u13, u14], [])) (b := 1 < x2) rfl (fun hb => ?_) (fun hb => ?_)
        · replace H := H.1 (hb)
          exact H
        · replace H := H.2 (hb)
          refine Ex.pure 5 (fr2 := (1239, [some (.ref 0), some (.ref 1), some (.int l2), u3, some (.int l4), some (.int l5), u6, u7, some (.int l8), some (.int l9), some (.int l10), (xoi none), some (.int x2), u13, u14], [.int 0, .int l9, .int l10, .int 12, .ref 1])) rfl ?_
          refine Ex.cal (rest := []) (j := m_L_ask) (as := [.ref 1, .int 12, .int l10, .int l9, .int 0]) (fun c => rfl) (H.imp ?_)
          intro rv h4 H
          obtain ⟨x5, rfl, H⟩ := H
          obtain ⟨y6, hs, H⟩ := H
          show Ex d [] tb_L_law (1242, [some (.ref 0), some (.ref 1), some (.int l2), u3, some (.int l4), some (.int l5), u6, u7, some (.int l8), some (.int l9), some (.int l10), (xoi none), some (.int x2), u13, u14], [.int x5]) h4 _
          refine Ex.pure 2 (fr2 := (1245, [some (.ref 0), some (.ref 1), some (.int l2), u3, some (.int l4), some (.int l5), u6, u7, some (.int l8), some (.int l9), some (.int l10), (xoi none), some (.int x2), u13, u14], [.int (-x2), .int x5])) rfl ?_
          refine Ex.br (x := (1264, [some (.ref 0), some (.ref 1), some (.int l2), u3, some (.int l4), some (.int l5), u6, u7, some (.int l8), some (.int l9), some (.int l10), (xoi none), some (.int x2), u13, u14], [])) (y := (1248, [some (.ref 0), some (.ref 1), some (.int l2), u3, some (.int l4), some (.int l5), u6, u7, some (.int l8), some (.int l9), some (.int l10), (xoi none), some (.int x2), u13, u14], [])) (b := ¬ x5 = (-x2)) rfl (fun hb => ?_) (fun hb => ?_)
          · replace H := H.1 (hb)
            exact H
          · replace H := H.2 (hb)
            refine Ex.pure 2 (fr2 := (1252, [some (.ref 0), some (.ref 1), some (.int l2), u3, some (.int l4), some (.int l5), u6, u7, some (.int l8), some (.int l9), some (.int l10), (xoi none), some (.int x2), u13, u14], [.int l10, .int l9])) rfl ?_
            refine Ex.br (x := (1260, [some (.ref 0), some (.ref 1), some (.int l2), u3, some (.int l4), some (.int l5), u6, u7, some (.int l8), some (.int l9), some (.int l10), (xoi none), some (.int x2), u13, u14], [])) (y := (1255, [some (.ref 0), some (.ref 1), some (.int l2), u3, some (.int l4), some (.int l5), u6, u7, some (.int l8), some (.int l9), some (.int l10), (xoi none), some (.int x2), u13, u14], [])) (b := ¬ l9 = l10) rfl (fun hb => ?_) (fun hb => ?_)
            · replace H := H.1 (hb)
              exact H
            · replace H := H.2 (hb)
              refine Ex.pure 1 (fr2 := (1257, [some (.ref 0), some (.ref 1), some (.int l2), u3, some (.int l4), some (.int l5), u6, u7, some (.int l8), some (.int l9), some (.int l10), (xoi none), some (.int x2), u13, u14], [.int x2])) rfl ?_
              refine Ex.br (x := (1264, [some (.ref 0), some (.ref 1), some (.int l2), u3, some (.int l4), some (.int l5), u6, u7, some (.int l8), some (.int l9), some (.int l10), (xoi none), some (.int x2), u13, u14], [])) (y := (1260, [some (.ref 0), some (.ref 1), some (.int l2), u3, some (.int l4), some (.int l5), u6, u7, some (.int l8), some (.int l9), some (.int l10), (xoi none), some (.int x2), u13, u14], [])) (b := ¬ x2 = 0) rfl (fun hb => ?_) (fun hb => ?_)
              · replace H := H.1 (hb)
                exact H
              · replace H := H.2 (hb)
                exact H
    · replace H := H.2 (hb)
      refine Ex.pure 2 (fr2 := (1190, [some (.ref 0), some (.ref 1), some (.int l2), u3, some (.int l4), some (.int l5), u6, u7, some (.int l8), some (.int l9), some (.int l10), (xoi none), some (.int x2), u13, u14], [.int l9, .ref 1])) rfl ?_
      refine Ex.cal (rest := []) (j := m_X6_kind) (as := [.ref 1, .int l9]) (vst (a := 68) (b := 2) (c := 5) (rest := []) (vs := [.int l9]) rfl ⟨Nat.le_of_ble_eq_true rfl, Nat.le_of_ble_eq_true rfl⟩ rfl rfl (sg_1 hs)) (H.imp ?_)
      intro rv h7 H
      obtain ⟨x8, rfl, H⟩ := H
      obtain ⟨y9, hs, H⟩ := H
      show Ex d [] tb_L_law (1193, [some (.ref 0), some (.ref 1), some (.int l2), u3, some (.int l4), some (.int l5), u6, u7, some (.int l8), some (.int l9), some (.int l10), (xoi none), some (.int x2), u13, u14], [.int x8]) h7 _
      refine Ex.pure 2 (fr2 := (1196, [some (.ref 0), some (.ref 1), some (.int l2), u3, some (.int l4), some (.int l5), u6, u7, some (.int l8), some (.int l9), some (.int l10), (xoi none), some (.int x2), u13, u14], [.int l10, .ref 1, .int x8])) rfl ?_
      refine Ex.cal (rest := [.int x8]) (j := m_X6_kind) (as := [.ref 1, .int l10]) (vst (a := 68) (b := 2) (c := 5) (rest := [.int x8]) (vs := [.int l10]) rfl ⟨Nat.le_of_ble_eq_true rfl, Nat.le_of_ble_eq_true rfl⟩ rfl rfl (sg_1 hs)) (H.imp ?_)
      intro rv h10 H
      obtain ⟨x11, rfl, H⟩ := H
      obtain ⟨y12, hs, H⟩ := H
      show Ex d [] tb_L_law (1199, [some (.ref 0), some (.ref 1), some (.int l2), u3, some (.int l4), some (.int l5), u6, u7, some (.int l8), some (.int l9), some (.int l10), (xoi none), some (.int x2), u13, u14], [.int x11, .int x8]) h10 _
      refine Ex.br (x := (1211, [some (.ref 0), some (.ref 1), some (.int l2), u3, some (.int l4), some (.int l5), u6, u7, some (.int l8), some (.int l9), some (.int l10), (xoi none), some (.int x2), u13, u14], [])) (y := (1202, [some (.ref 0), some (.ref 1), some (.int l2), u3, some (.int l4), some (.int l5), u6, u7, some (.int l8), some (.int l9), some (.int l10), (xoi none), some (.int x2), u13, u14], [])) (b := ¬ x8 = x11) rfl (fun hb => ?_) (fun hb => ?_)
      · replace H := H.1 (hb)
        exact H
      · replace H := H.2 (hb)
        refine Ex.pure 2 (fr2 := (1205, [some (.ref 0), some (.ref 1), some (.int l2), u3, some (.int l4), some (.int l5), u6, u7, some (.int l8), some (.int l9), some (.int l10), (xoi none), some (.int x2), u13, u14], [.int l9, .ref 1])) rfl ?_
        refine Ex.cal (rest := []) (j := m_X6_kind) (as := [.ref 1, .int l9]) (vst (a := 68) (b := 2) (c := 5) (rest := []) (vs := [.int l9]) rfl ⟨Nat.le_of_ble_eq_true rfl, Nat.le_of_ble_eq_true rfl⟩ rfl rfl (sg_1 hs)) (H.imp ?_)
        intro rv h13 H
        obtain ⟨x14, rfl, H⟩ := H
        obtain ⟨y15, hs, H⟩ := H
        show Ex d [] tb_L_law (1208, [some (.ref 0), some (.ref 1), some (.int l2), u3, some (.int l4), some (.int l5), u6, u7, some (.int l8), some (.int l9), some (.int l10), (xoi none), some (.int x2), u13, u14], [.int x14]) h13 _
        refine Ex.br (x := (1215, [some (.ref 0), some (.ref 1), some (.int l2), u3, some (.int l4), some (.int l5), u6, u7, some (.int l8), some (.int l9), some (.int l10), (xoi none), some (.int x2), u13, u14], [])) (y := (1211, [some (.ref 0), some (.ref 1), some (.int l2), u3, some (.int l4), some (.int l5), u6, u7, some (.int l8), some (.int l9), some (.int l10), (xoi none), some (.int x2), u13, u14], [])) (b := ¬ x14 = 0) rfl (fun hb => ?_) (fun hb => ?_)
        · replace H := H.1 (hb)
          refine Ex.pure 2 (fr2 := (1265, [some (.ref 0), some (.ref 1), some (.int l2), u3, some (.int l4), some (.int l5), u6, u7, some (.int l8), some (.int l9), some (.int l10), (xoi none), some (.int x2), u13, u14], [.int 0])) rfl ?_
          exact H
        · replace H := H.2 (hb)
          exact H
  | some v11 =>
    show Ex d [] tb_L_law (1166, [some (.ref 0), some (.ref 1), some (.int l2), u3, some (.int l4), some (.int l5), u6, u7, some (.int l8), some (.int l9), some (.int l10), (xoi (some v11)), u12, u13, u14], []) h _
    refine Ex.pure 5 (fr2 := (1174, [some (.ref 0), some (.ref 1), some (.int l2), u3, some (.int l4), some (.int l5), u6, u7, some (.int l8), some (.int l9), some (.int l10), (xoi (some v11)), u12, u13, u14], [.int 0, .int l10, .int l9, .int 12, .ref 1])) rfl ?_
    refine Ex.cal (rest := []) (j := m_L_ask) (as := [.ref 1, .int 12, .int l9, .int l10, .int 0]) (fun c => rfl) (H.imp ?_)
    intro rv h1 H
    obtain ⟨x2, rfl, H⟩ := H
    obtain ⟨y3, hs, H⟩ := H
    show Ex d [] tb_L_law (1177, [some (.ref 0), some (.ref 1), some (.int l2), u3, some (.int l4), some (.int l5), u6, u7, some (.int l8), some (.int l9), some (.int l10), (xoi (some v11)), u12, u13, u14], [.int x2]) h1 _
    refine Ex.pure 3 (fr2 := (1184, [some (.ref 0), some (.ref 1), some (.int l2), u3, some (.int l4), some (.int l5), u6, u7, some (.int l8), some (.int l9), some (.int l10), (xoi (some v11)), some (.int x2), u13, u14], [.int (-1013), .int x2])) rfl ?_
    refine Ex.br (x := (1219, [some (.ref 0), some (.ref 1), some (.int l2), u3, some (.int l4), some (.int l5), u6, u7, some (.int l8), some (.int l9), some (.int l10), (xoi (some v11)), some (.int x2), u13, u14], [])) (y := (1187, [some (.ref 0), some (.ref 1), some (.int l2), u3, some (.int l4), some (.int l5), u6, u7, some (.int l8), some (.int l9), some (.int l10), (xoi (some v11)), some (.int x2), u13, u14], [])) (b := ¬ x2 = (-1013)) rfl (fun hb => ?_) (fun hb => ?_)
    · replace H := H.1 (hb)
      refine Ex.pure 2 (fr2 := (1222, [some (.ref 0), some (.ref 1), some (.int l2), u3, some (.int l4), some (.int l5), u6, u7, some (.int l8), some (.int l9), some (.int l10), (xoi (some v11)), some (.int x2), u13, u14], [.int (-1), .int x2])) rfl ?_
      refine Ex.br (x := (1264, [some (.ref 0), some (.ref 1), some (.int l2), u3, some (.int l4), some (.int l5), u6, u7, some (.int l8), some (.int l9), some (.int l10), (xoi (some v11)), some (.int x2), u13, u14], [])) (y := (1225, [some (.ref 0), some (.ref 1), some (.int l2), u3, some (.int l4), some (.int l5), u6, u7, some (.int l8), some (.int l9), some (.int l10), (xoi (some v11)), some (.int x2), u13, u14], [])) (b := x2 < (-1)) rfl (fun hb => ?_) (fun hb => ?_)
      · replace H := H.1 (hb)
        exact H
      · replace H := H.2 (hb)
        refine Ex.pure 2 (fr2 := (1228, [some (.ref 0), some (.ref 1), some (.int l2), u3, some (.int l4), some (.int l5), u6, u7, some (.int l8), some (.int l9), some (.int l10), (xoi (some v11)), some (.int x2), u13, u14], [.int 1, .int x2])) rfl ?_
        refine Ex.br (x := (1264, [some (.ref 0), some (.ref 1), some (.int l2), u3, some (.int l4), some (.int l5), u6, u7, some (.int l8), some (.int l9), some (.int l10), (xoi (some v11)), some (.int x2), u13, u14], [])) (y := (1231, [some (.ref 0), some (.ref 1), some (.int l2), u3, some (.int l4), some (.int l5), u6, u7, some (.int l8), some (.int l9), some (.int l10), (xoi (some v11)), some (.int x2), u13, u14], [])) (b := 1 < x2) rfl (fun hb => ?_) (fun hb => ?_)
        · replace H := H.1 (hb)
          exact H
        · replace H := H.2 (hb)
          refine Ex.pure 5 (fr2 := (1239, [some (.ref 0), some (.ref 1), some (.int l2), u3, some (.int l4), some (.int l5), u6, u7, some (.int l8), some (.int l9), some (.int l10), (xoi (some v11)), some (.int x2), u13, u14], [.int 0, .int l9, .int l10, .int 12, .ref 1])) rfl ?_
          refine Ex.cal (rest := []) (j := m_L_ask) (as := [.ref 1, .int 12, .int l10, .int l9, .int 0]) (fun c => rfl) (H.imp ?_)
          intro rv h4 H
          obtain ⟨x5, rfl, H⟩ := H
          obtain ⟨y6, hs, H⟩ := H
          show Ex d [] tb_L_law (1242, [some (.ref 0), some (.ref 1), some (.int l2), u3, some (.int l4), some (.int l5), u6, u7, some (.int l8), some (.int l9), some (.int l10), (xoi (some v11)), some (.int x2), u13, u14], [.int x5]) h4 _
          refine Ex.pure 2 (fr2 := (1245, [some (.ref 0), some (.ref 1), some (.int l2), u3, some (.int l4), some (.int l5), u6, u7, some (.int l8), some (.int l9), some (.int l10), (xoi (some v11)), some (.int x2), u13, u14], [.int (-x2), .int x5])) rfl ?_
          refine Ex.br (x := (1264, [some (.ref 0), some (.ref 1), some (.int l2), u3, some (.int l4), some (.int l5), u6, u7, some (.int l8), some (.int l9), some (.int l10), (xoi (some v11)), some (.int x2), u13, u14], [])) (y := (1248, [some (.ref 0), some (.ref 1), some (.int l2), u3, some (.int l4), some (.int l5), u6, u7, some (.int l8), some (.int l9), some (.int l10), (xoi (some v11)), some (.int x2), u13, u14], [])) (b := ¬ x5 = (-x2)) rfl (fun hb => ?_) (fun hb => ?_)
          · replace H := H.1 (hb)
            exact H
          · replace H := H.2 (hb)
            refine Ex.pure 2 (fr2 := (1252, [some (.ref 0), some (.ref 1), some (.int l2), u3, some (.int l4), some (.int l5), u6, u7, some (.int l8), some (.int l9), some (.int l10), (xoi (some v11)), some (.int x2), u13, u14], [.int l10, .int l9])) rfl ?_
            refine Ex.br (x := (1260, [some (.ref 0), some (.ref 1), some (.int l2), u3, some (.int l4), some (.int l5), u6, u7, some (.int l8), some (.int l9), some (.int l10), (xoi (some v11)), some (.int x2), u13, u14], [])) (y := (1255, [some (.ref 0), some (.ref 1), some (.int l2), u3, some (.int l4), some (.int l5), u6, u7, some (.int l8), some (.int l9), some (.int l10), (xoi (some v11)), some (.int x2), u13, u14], [])) (b := ¬ l9 = l10) rfl (fun hb => ?_) (fun hb => ?_)
            · replace H := H.1 (hb)
              exact H
            · replace H := H.2 (hb)
              refine Ex.pure 1 (fr2 := (1257, [some (.ref 0), some (.ref 1), some (.int l2), u3, some (.int l4), some (.int l5), u6, u7, some (.int l8), some (.int l9), some (.int l10), (xoi (some v11)), some (.int x2), u13, u14], [.int x2])) rfl ?_
              refine Ex.br (x := (1264, [some (.ref 0), some (.ref 1), some (.int l2), u3, some (.int l4), some (.int l5), u6, u7, some (.int l8), some (.int l9), some (.int l10), (xoi (some v11)), some (.int x2), u13, u14], [])) (y := (1260, [some (.ref 0), some (.ref 1), some (.int l2), u3, some (.int l4), some (.int l5), u6, u7, some (.int l8), some (.int l9), some (.int l10), (xoi (some v11)), some (.int x2), u13, u14], [])) (b := ¬ x2 = 0) rfl (fun hb => ?_) (fun hb => ?_)
              · replace H := H.1 (hb)
                exact H
              · replace H := H.2 (hb)
                exact H
    · replace H := H.2 (hb)
      refine Ex.pure 2 (fr2 := (1190, [some (.ref 0), some (.ref 1), some (.int l2), u3, some (.int l4), some (.int l5), u6, u7, some (.int l8), some (.int l9), some (.int l10), (xoi (some v11)), some (.int x2), u13, u14], [.int l9, .ref 1])) rfl ?_
      refine Ex.cal (rest := []) (j := m_X6_kind) (as := [.ref 1, .int l9]) (vst (a := 68) (b := 2) (c := 5) (rest := []) (vs := [.int l9]) rfl ⟨Nat.le_of_ble_eq_true rfl, Nat.le_of_ble_eq_true rfl⟩ rfl rfl (sg_1 hs)) (H.imp ?_)
      intro rv h7 H
      obtain ⟨x8, rfl, H⟩ := H
      obtain ⟨y9, hs, H⟩ := H
      show Ex d [] tb_L_law (1193, [some (.ref 0), some (.ref 1), some (.int l2), u3, some (.int l4), some (.int l5), u6, u7, some (.int l8), some (.int l9), some (.int l10), (xoi (some v11)), some (.int x2), u13, u14], [.int x8]) h7 _
      refine Ex.pure 2 (fr2 := (1196, [some (.ref 0), some (.ref 1), some (.int l2), u3, some (.int l4), some (.int l5), u6, u7, some (.int l8), some (.int l9), some (.int l10), (xoi (some v11)), some (.int x2), u13, u14], [.int l10, .ref 1, .int x8])) rfl ?_
      refine Ex.cal (rest := [.int x8]) (j := m_X6_kind) (as := [.ref 1, .int l10]) (vst (a := 68) (b := 2) (c := 5) (rest := [.int x8]) (vs := [.int l10]) rfl ⟨Nat.le_of_ble_eq_true rfl, Nat.le_of_ble_eq_true rfl⟩ rfl rfl (sg_1 hs)) (H.imp ?_)
      intro rv h10 H
      obtain ⟨x11, rfl, H⟩ := H
      obtain ⟨y12, hs, H⟩ := H
      show Ex d [] tb_L_law (1199, [some (.ref 0), some (.ref 1), some (.int l2), u3, some (.int l4), some (.int l5), u6, u7, some (.int l8), some (.int l9), some (.int l10), (xoi (some v11)), some (.int x2), u13, u14], [.int x11, .int x8]) h10 _
      refine Ex.br (x := (1211, [some (.ref 0), some (.ref 1), some (.int l2), u3, some (.int l4), some (.int l5), u6, u7, some (.int l8), some (.int l9), some (.int l10), (xoi (some v11)), some (.int x2), u13, u14], [])) (y := (1202, [some (.ref 0), some (.ref 1), some (.int l2), u3, some (.int l4), some (.int l5), u6, u7, some (.int l8), some (.int l9), some (.int l10), (xoi (some v11)), some (.int x2), u13, u14], [])) (b := ¬ x8 = x11) rfl (fun hb => ?_) (fun hb => ?_)
      · replace H := H.1 (hb)
        exact H
      · replace H := H.2 (hb)
        refine Ex.pure 2 (fr2 := (1205, [some (.ref 0), some (.ref 1), some (.int l2), u3, some (.int l4), some (.int l5), u6, u7, some (.int l8), some (.int l9), some (.int l10), (xoi (some v11)), some (.int x2), u13, u14], [.int l9, .ref 1])) rfl ?_
        refine Ex.cal (rest := []) (j := m_X6_kind) (as := [.ref 1, .int l9]) (vst (a := 68) (b := 2) (c := 5) (rest := []) (vs := [.int l9]) rfl ⟨Nat.le_of_ble_eq_true rfl, Nat.le_of_ble_eq_true rfl⟩ rfl rfl (sg_1 hs)) (H.imp ?_)
        intro rv h13 H
        obtain ⟨x14, rfl, H⟩ := H
        obtain ⟨y15, hs, H⟩ := H
        show Ex d [] tb_L_law (1208, [some (.ref 0), some (.ref 1), some (.int l2), u3, some (.int l4), some (.int l5), u6, u7, some (.int l8), some (.int l9), some (.int l10), (xoi (some v11)), some (.int x2), u13, u14], [.int x14]) h13 _
        refine Ex.br (x := (1215, [some (.ref 0), some (.ref 1), some (.int l2), u3, some (.int l4), some (.int l5), u6, u7, some (.int l8), some (.int l9), some (.int l10), (xoi (some v11)), some (.int x2), u13, u14], [])) (y := (1211, [some (.ref 0), some (.ref 1), some (.int l2), u3, some (.int l4), some (.int l5), u6, u7, some (.int l8), some (.int l9), some (.int l10), (xoi (some v11)), some (.int x2), u13, u14], [])) (b := ¬ x14 = 0) rfl (fun hb => ?_) (fun hb => ?_)
        · replace H := H.1 (hb)
          refine Ex.pure 2 (fr2 := (1265, [some (.ref 0), some (.ref 1), some (.int l2), u3, some (.int l4), some (.int l5), u6, u7, some (.int l8), some (.int l9), some (.int l10), (xoi (some v11)), some (.int x2), u13, u14], [.int 0])) rfl ?_
          exact H
        · replace H := H.2 (hb)
          exact H
set_option maxRecDepth 100000 in
theorem w_L_law_1211 {d : Nat} {h : XH} {y : Nat → Nat} {K : XK} {E : XE} {l2 : Int32} {u3 : Option Value} {l4 : Int32} {l5 : Int32} {u6 : Option Value} {u7 : Option Value} {l8 : Int32} {u9 : Option Value} {u10 : Option Value} {u11 : Option Int32} {u12 : Option Value} {u13 : Option Value} {u14 : Option Value} (hd : 70 ≤ d) (hs : Sg h.1 y) (H : b_L_law_1265 d 0 1 l2 (u3) l4 l5 (u6) (u7) l8 (u9) (u10) u11 (u12) (u13) (u14) 1 h K E) : b_L_law_1211 d 0 1 l2 u3 l4 l5 u6 u7 l8 u9 u10 u11 u12 u13 u14 h K E := by
  cases u11 with
  | none =>
    show Ex d [] tb_L_law (1211, [some (.ref 0), some (.ref 1), some (.int l2), u3, some (.int l4), some (.int l5), u6, u7, some (.int l8), u9, u10, (xoi none), u12, u13, u14], []) h _
    refine Ex.pure 2 (fr2 := (1265, [some (.ref 0), some (.ref 1), some (.int l2), u3, some (.int l4), some (.int l5), u6, u7, some (.int l8), u9, u10, (xoi none), u12, u13, u14], [.int 1])) rfl ?_
    exact H
  | some v11 =>
    show Ex d [] tb_L_law (1211, [some (.ref 0), some (.ref 1), some (.int l2), u3, some (.int l4), some (.int l5), u6, u7, some (.int l8), u9, u10, (xoi (some v11)), u12, u13, u14], []) h _
    refine Ex.pure 2 (fr2 := (1265, [some (.ref 0), some (.ref 1), some (.int l2), u3, some (.int l4), some (.int l5), u6, u7, some (.int l8), u9, u10, (xoi (some v11)), u12, u13, u14], [.int 1])) rfl ?_
    exact H
set_option maxRecDepth 100000 in
theorem w_L_law_1260 {d : Nat} {h : XH} {y : Nat → Nat} {K : XK} {E : XE} {l2 : Int32} {u3 : Option Value} {l4 : Int32} {l5 : Int32} {u6 : Option Value} {u7 : Option Value} {l8 : Int32} {u9 : Option Value} {u10 : Option Value} {u11 : Option Int32} {u12 : Option Value} {u13 : Option Value} {u14 : Option Value} (hd : 70 ≤ d) (hs : Sg h.1 y) (H : b_L_law_1265 d 0 1 l2 (u3) l4 l5 (u6) (u7) l8 (u9) (u10) u11 (u12) (u13) (u14) 1 h K E) : b_L_law_1260 d 0 1 l2 u3 l4 l5 u6 u7 l8 u9 u10 u11 u12 u13 u14 h K E := by
  cases u11 with
  | none =>
    show Ex d [] tb_L_law (1260, [some (.ref 0), some (.ref 1), some (.int l2), u3, some (.int l4), some (.int l5), u6, u7, some (.int l8), u9, u10, (xoi none), u12, u13, u14], []) h _
    refine Ex.pure 2 (fr2 := (1265, [some (.ref 0), some (.ref 1), some (.int l2), u3, some (.int l4), some (.int l5), u6, u7, some (.int l8), u9, u10, (xoi none), u12, u13, u14], [.int 1])) rfl ?_
    exact H
  | some v11 =>
    show Ex d [] tb_L_law (1260, [some (.ref 0), some (.ref 1), some (.int l2), u3, some (.int l4), some (.int l5), u6, u7, some (.int l8), u9, u10, (xoi (some v11)), u12, u13, u14], []) h _
    refine Ex.pure 2 (fr2 := (1265, [some (.ref 0), some (.ref 1), some (.int l2), u3, some (.int l4), some (.int l5), u6, u7, some (.int l8), u9, u10, (xoi (some v11)), u12, u13, u14], [.int 1])) rfl ?_
    exact H
set_option maxRecDepth 100000 in
theorem w_L_law_1264 {d : Nat} {h : XH} {y : Nat → Nat} {K : XK} {E : XE} {l2 : Int32} {u3 : Option Value} {l4 : Int32} {l5 : Int32} {u6 : Option Value} {u7 : Option Value} {l8 : Int32} {u9 : Option Value} {u10 : Option Value} {u11 : Option Int32} {u12 : Option Value} {u13 : Option Value} {u14 : Option Value} (hd : 70 ≤ d) (hs : Sg h.1 y) (H : b_L_law_1265 d 0 1 l2 (u3) l4 l5 (u6) (u7) l8 (u9) (u10) u11 (u12) (u13) (u14) 0 h K E) : b_L_law_1264 d 0 1 l2 u3 l4 l5 u6 u7 l8 u9 u10 u11 u12 u13 u14 h K E := by
  cases u11 with
  | none =>
    show Ex d [] tb_L_law (1264, [some (.ref 0), some (.ref 1), some (.int l2), u3, some (.int l4), some (.int l5), u6, u7, some (.int l8), u9, u10, (xoi none), u12, u13, u14], []) h _
    refine Ex.pure 1 (fr2 := (1265, [some (.ref 0), some (.ref 1), some (.int l2), u3, some (.int l4), some (.int l5), u6, u7, some (.int l8), u9, u10, (xoi none), u12, u13, u14], [.int 0])) rfl ?_
    exact H
  | some v11 =>
    show Ex d [] tb_L_law (1264, [some (.ref 0), some (.ref 1), some (.int l2), u3, some (.int l4), some (.int l5), u6, u7, some (.int l8), u9, u10, (xoi (some v11)), u12, u13, u14], []) h _
    refine Ex.pure 1 (fr2 := (1265, [some (.ref 0), some (.ref 1), some (.int l2), u3, some (.int l4), some (.int l5), u6, u7, some (.int l8), u9, u10, (xoi (some v11)), u12, u13, u14], [.int 0])) rfl ?_
    exact H
set_option maxRecDepth 100000 in
theorem w_L_law_1265 {d : Nat} {h : XH} {y : Nat → Nat} {K : XK} {E : XE} {l2 : Int32} {u3 : Option Value} {l4 : Int32} {l5 : Int32} {u6 : Option Value} {u7 : Option Value} {l8 : Int32} {u9 : Option Value} {u10 : Option Value} {u11 : Option Int32} {u12 : Option Value} {u13 : Option Value} {u14 : Option Value} {s0 : Int32} (hd : 70 ≤ d) (hs : Sg h.1 y) (H : b_L_law_1266 d 0 1 l2 s0 l4 l5 (u6) (u7) l8 (u9) (u10) u11 (u12) (u13) (u14) h K E) : b_L_law_1265 d 0 1 l2 u3 l4 l5 u6 u7 l8 u9 u10 u11 u12 u13 u14 s0 h K E := by
  cases u11 with
  | none =>
    show Ex d [] tb_L_law (1265, [some (.ref 0), some (.ref 1), some (.int l2), u3, some (.int l4), some (.int l5), u6, u7, some (.int l8), u9, u10, (xoi none), u12, u13, u14], [.int s0]) h _
    refine Ex.pure 1 (fr2 := (1266, [some (.ref 0), some (.ref 1), some (.int l2), some (.int s0), some (.int l4), some (.int l5), u6, u7, some (.int l8), u9, u10, (xoi none), u12, u13, u14], [])) rfl ?_
    exact H
  | some v11 =>
    show Ex d [] tb_L_law (1265, [some (.ref 0), some (.ref 1), some (.int l2), u3, some (.int l4), some (.int l5), u6, u7, some (.int l8), u9, u10, (xoi (some v11)), u12, u13, u14], [.int s0]) h _
    refine Ex.pure 1 (fr2 := (1266, [some (.ref 0), some (.ref 1), some (.int l2), some (.int s0), some (.int l4), some (.int l5), u6, u7, some (.int l8), u9, u10, (xoi (some v11)), u12, u13, u14], [])) rfl ?_
    exact H
set_option maxRecDepth 100000 in
theorem w_L_law_1266 {d : Nat} {h : XH} {y : Nat → Nat} {K : XK} {E : XE} {l2 : Int32} {l3 : Int32} {l4 : Int32} {l5 : Int32} {u6 : Option Value} {u7 : Option Value} {l8 : Int32} {u9 : Option Value} {u10 : Option Value} {u11 : Option Int32} {u12 : Option Value} {u13 : Option Value} {u14 : Option Value} (hd : 70 ≤ d) (hs : Sg h.1 y) (H : (l3 = 0 → b_L_law_1283 d 0 1 l2 (some (.int l3)) l4 l5 (u6) (u7) (some (.int l8)) (u9) (u10) u11 (u12) (u13) (u14) h K E) ∧ (¬ (l3 = 0) → b_L_law_1270 d 0 1 l2 (some (.int l3)) l4 l5 (u6) (u7) l8 (u9) (u10) u11 (u12) (u13) (u14) h K E)) : b_L_law_1266 d 0 1 l2 l3 l4 l5 u6 u7 l8 u9 u10 u11 u12 u13 u14 h K E := by
  cases u11 with
  | none =>
    show Ex d [] tb_L_law (1266, [some (.ref 0), some (.ref 1), some (.int l2), some (.int l3), some (.int l4), some (.int l5), u6, u7, some (.int l8), u9, u10, (xoi none), u12, u13, u14], []) h _
    refine Ex.pure 1 (fr2 := (1267, [some (.ref 0), some (.ref 1), some (.int l2), some (.int l3), some (.int l4), some (.int l5), u6, u7, some (.int l8), u9, u10, (xoi none), u12, u13, u14], [.int l3])) rfl ?_
    refine Ex.br (x := (1283, [some (.ref 0), some (.ref 1), some (.int l2), some (.int l3), some (.int l4), some (.int l5), u6, u7, some (.int l8), u9, u10, (xoi none), u12, u13, u14], [])) (y := (1270, [some (.ref 0), some (.ref 1), some (.int l2), some (.int l3), some (.int l4), some (.int l5), u6, u7, some (.int l8), u9, u10, (xoi none), u12, u13, u14], [])) (b := l3 = 0) rfl (fun hb => ?_) (fun hb => ?_)
    · replace H := H.1 (hb)
      exact H
    · replace H := H.2 (hb)
      exact H
  | some v11 =>
    show Ex d [] tb_L_law (1266, [some (.ref 0), some (.ref 1), some (.int l2), some (.int l3), some (.int l4), some (.int l5), u6, u7, some (.int l8), u9, u10, (xoi (some v11)), u12, u13, u14], []) h _
    refine Ex.pure 1 (fr2 := (1267, [some (.ref 0), some (.ref 1), some (.int l2), some (.int l3), some (.int l4), some (.int l5), u6, u7, some (.int l8), u9, u10, (xoi (some v11)), u12, u13, u14], [.int l3])) rfl ?_
    refine Ex.br (x := (1283, [some (.ref 0), some (.ref 1), some (.int l2), some (.int l3), some (.int l4), some (.int l5), u6, u7, some (.int l8), u9, u10, (xoi (some v11)), u12, u13, u14], [])) (y := (1270, [some (.ref 0), some (.ref 1), some (.int l2), some (.int l3), some (.int l4), some (.int l5), u6, u7, some (.int l8), u9, u10, (xoi (some v11)), u12, u13, u14], [])) (b := l3 = 0) rfl (fun hb => ?_) (fun hb => ?_)
    · replace H := H.1 (hb)
      exact H
    · replace H := H.2 (hb)
      exact H
set_option maxRecDepth 100000 in
theorem w_L_law_1270 {d : Nat} {h : XH} {y : Nat → Nat} {K : XK} {E : XE} {l2 : Int32} {u3 : Option Value} {l4 : Int32} {l5 : Int32} {u6 : Option Value} {u7 : Option Value} {l8 : Int32} {u9 : Option Value} {u10 : Option Value} {u11 : Option Int32} {u12 : Option Value} {u13 : Option Value} {u14 : Option Value} (hd : 70 ≤ d) (hs : Sg h.1 y) (H : (Ca d m_L_isFine [.ref 1, .int l8] h (fun rv h1 => ∃ x2, rv = some (.int x2) ∧ ∃ y3 : Nat → Nat, Sg h1.1 y3 ∧ (x2 = 0 → b_L_law_1283 d 0 1 l2 (u3) l4 l5 (u6) (u7) (some (.int l8)) (u9) (u10) u11 (u12) (u13) (u14) h1 K E) ∧ (¬ (x2 = 0) → b_L_law_1284 d 0 1 l2 (u3) l4 l5 (u6) (u7) (some (.int l8)) (u9) (u10) u11 (u12) (u13) (u14) 1 h1 K E)) E)) : b_L_law_1270 d 0 1 l2 u3 l4 l5 u6 u7 l8 u9 u10 u11 u12 u13 u14 h K E := by
  cases u11 with
  | none =>
    show Ex d [] tb_L_law (1270, [some (.ref 0), some (.ref 1), some (.int l2), u3, some (.int l4), some (.int l5), u6, u7, some (.int l8), u9, u10, (xoi none), u12, u13, u14], []) h _
    refine Ex.pure 2 (fr2 := (1273, [some (.ref 0), some (.ref 1), some (.int l2), u3, some (.int l4), some (.int l5), u6, u7, some (.int l8), u9, u10, (xoi none), u12, u13, u14], [.int l8, .ref 1])) rfl ?_
    refine Ex.cal (rest := []) (j := m_L_isFine) (as := [.ref 1, .int l8]) (fun c => rfl) (H.imp ?_)
    intro rv h1 H
    obtain ⟨x2, rfl, H⟩ := H
    obtain ⟨y3, hs, H⟩ := H
    show Ex d [] tb_L_law (1276, [some (.ref 0), some (.ref 1), some (.int l2), u3, some (.int l4), some (.int l5), u6, u7, some (.int l8), u9, u10, (xoi none), u12, u13, u14], [.int x2]) h1 _
    refine Ex.br (x := (1283, [some (.ref 0), some (.ref 1), some (.int l2), u3, some (.int l4), some (.int l5), u6, u7, some (.int l8), u9, u10, (xoi none), u12, u13, u14], [])) (y := (1279, [some (.ref 0), some (.ref 1), some (.int l2), u3, some (.int l4), some (.int l5), u6, u7, some (.int l8), u9, u10, (xoi none), u12, u13, u14], [])) (b := x2 = 0) rfl (fun hb => ?_) (fun hb => ?_)
    · replace H := H.1 (hb)
      exact H
    · replace H := H.2 (hb)
      refine Ex.pure 2 (fr2 := (1284, [some (.ref 0), some (.ref 1), some (.int l2), u3, some (.int l4), some (.int l5), u6, u7, some (.int l8), u9, u10, (xoi none), u12, u13, u14], [.int 1])) rfl ?_
      exact H
  | some v11 =>
    show Ex d [] tb_L_law (1270, [some (.ref 0), some (.ref 1), some (.int l2), u3, some (.int l4), some (.int l5), u6, u7, some (.int l8), u9, u10, (xoi (some v11)), u12, u13, u14], []) h _
    refine Ex.pure 2 (fr2 := (1273, [some (.ref 0), some (.ref 1), some (.int l2), u3, some (.int l4), some (.int l5), u6, u7, some (.int l8), u9, u10, (xoi (some v11)), u12, u13, u14], [.int l8, .ref 1])) rfl ?_
    refine Ex.cal (rest := []) (j := m_L_isFine) (as := [.ref 1, .int l8]) (fun c => rfl) (H.imp ?_)
    intro rv h1 H
    obtain ⟨x2, rfl, H⟩ := H
    obtain ⟨y3, hs, H⟩ := H
    show Ex d [] tb_L_law (1276, [some (.ref 0), some (.ref 1), some (.int l2), u3, some (.int l4), some (.int l5), u6, u7, some (.int l8), u9, u10, (xoi (some v11)), u12, u13, u14], [.int x2]) h1 _
    refine Ex.br (x := (1283, [some (.ref 0), some (.ref 1), some (.int l2), u3, some (.int l4), some (.int l5), u6, u7, some (.int l8), u9, u10, (xoi (some v11)), u12, u13, u14], [])) (y := (1279, [some (.ref 0), some (.ref 1), some (.int l2), u3, some (.int l4), some (.int l5), u6, u7, some (.int l8), u9, u10, (xoi (some v11)), u12, u13, u14], [])) (b := x2 = 0) rfl (fun hb => ?_) (fun hb => ?_)
    · replace H := H.1 (hb)
      exact H
    · replace H := H.2 (hb)
      refine Ex.pure 2 (fr2 := (1284, [some (.ref 0), some (.ref 1), some (.int l2), u3, some (.int l4), some (.int l5), u6, u7, some (.int l8), u9, u10, (xoi (some v11)), u12, u13, u14], [.int 1])) rfl ?_
      exact H
set_option maxRecDepth 100000 in
theorem w_L_law_1283 {d : Nat} {h : XH} {y : Nat → Nat} {K : XK} {E : XE} {l2 : Int32} {u3 : Option Value} {l4 : Int32} {l5 : Int32} {u6 : Option Value} {u7 : Option Value} {u8 : Option Value} {u9 : Option Value} {u10 : Option Value} {u11 : Option Int32} {u12 : Option Value} {u13 : Option Value} {u14 : Option Value} (hd : 70 ≤ d) (hs : Sg h.1 y) (H : b_L_law_1284 d 0 1 l2 (u3) l4 l5 (u6) (u7) (u8) (u9) (u10) u11 (u12) (u13) (u14) 0 h K E) : b_L_law_1283 d 0 1 l2 u3 l4 l5 u6 u7 u8 u9 u10 u11 u12 u13 u14 h K E := by
  cases u11 with
  | none =>
    show Ex d [] tb_L_law (1283, [some (.ref 0), some (.ref 1), some (.int l2), u3, some (.int l4), some (.int l5), u6, u7, u8, u9, u10, (xoi none), u12, u13, u14], []) h _
    refine Ex.pure 1 (fr2 := (1284, [some (.ref 0), some (.ref 1), some (.int l2), u3, some (.int l4), some (.int l5), u6, u7, u8, u9, u10, (xoi none), u12, u13, u14], [.int 0])) rfl ?_
    exact H
  | some v11 =>
    show Ex d [] tb_L_law (1283, [some (.ref 0), some (.ref 1), some (.int l2), u3, some (.int l4), some (.int l5), u6, u7, u8, u9, u10, (xoi (some v11)), u12, u13, u14], []) h _
    refine Ex.pure 1 (fr2 := (1284, [some (.ref 0), some (.ref 1), some (.int l2), u3, some (.int l4), some (.int l5), u6, u7, u8, u9, u10, (xoi (some v11)), u12, u13, u14], [.int 0])) rfl ?_
    exact H
set_option maxRecDepth 100000 in
theorem w_L_law_1284 {d : Nat} {h : XH} {y : Nat → Nat} {K : XK} {E : XE} {l2 : Int32} {u3 : Option Value} {l4 : Int32} {l5 : Int32} {u6 : Option Value} {u7 : Option Value} {u8 : Option Value} {u9 : Option Value} {u10 : Option Value} {u11 : Option Int32} {u12 : Option Value} {u13 : Option Value} {u14 : Option Value} {s0 : Int32} (hd : 70 ≤ d) (hs : Sg h.1 y) (H : b_L_law_47 d 0 1 l2 s0 l4 (l5 + 1) (u6) (u7) (u8) (u9) (u10) u11 (u12) (u13) (u14) h K E) : b_L_law_1284 d 0 1 l2 u3 l4 l5 u6 u7 u8 u9 u10 u11 u12 u13 u14 s0 h K E := by
  cases u11 with
  | none =>
    show Ex d [] tb_L_law (1284, [some (.ref 0), some (.ref 1), some (.int l2), u3, some (.int l4), some (.int l5), u6, u7, u8, u9, u10, (xoi none), u12, u13, u14], [.int s0]) h _
    refine Ex.pure 3 (fr2 := (47, [some (.ref 0), some (.ref 1), some (.int l2), some (.int s0), some (.int l4), some (.int (l5 + 1)), u6, u7, u8, u9, u10, (xoi none), u12, u13, u14], [])) rfl ?_
    exact H
  | some v11 =>
    show Ex d [] tb_L_law (1284, [some (.ref 0), some (.ref 1), some (.int l2), u3, some (.int l4), some (.int l5), u6, u7, u8, u9, u10, (xoi (some v11)), u12, u13, u14], [.int s0]) h _
    refine Ex.pure 3 (fr2 := (47, [some (.ref 0), some (.ref 1), some (.int l2), some (.int s0), some (.int l4), some (.int (l5 + 1)), u6, u7, u8, u9, u10, (xoi (some v11)), u12, u13, u14], [])) rfl ?_
    exact H
set_option maxRecDepth 100000 in
theorem w_L_law_1291 {d : Nat} {h : XH} {y : Nat → Nat} {K : XK} {E : XE} {u0 : Option Value} {u2 : Option Int32} {l3 : Int32} {u4 : Option Int32} {u5 : Option Value} {u6 : Option Value} {u7 : Option Value} {u8 : Option Value} {u9 : Option Value} {u10 : Option Value} {u11 : Option Int32} {u12 : Option Value} {u13 : Option Value} {u14 : Option Value} (hd : 70 ≤ d) (hs : Sg h.1 y) (H : b_L_law_1294 d (u0) 1 u2 l3 u4 0 (u6) (u7) (u8) (u9) (u10) u11 (u12) (u13) (u14) h K E) : b_L_law_1291 d u0 1 u2 l3 u4 u5 u6 u7 u8 u9 u10 u11 u12 u13 u14 h K E := by
  cases u2 with
  | none =>
    cases u4 with
    | none =>
      cases u11 with
      | none =>
        show Ex d [] tb_L_law (1291, [u0, some (.ref 1), (xoi none), some (.int l3), (xoi none), u5, u6, u7, u8, u9, u10, (xoi none), u12, u13, u14], []) h _
        refine Ex.pure 2 (fr2 := (1294, [u0, some (.ref 1), (xoi none), some (.int l3), (xoi none), some (.int 0), u6, u7, u8, u9, u10, (xoi none), u12, u13, u14], [])) rfl ?_
        exact H
      | some v11 =>
        show Ex d [] tb_L_law (1291, [u0, some (.ref 1), (xoi none), some (.int l3), (xoi none), u5, u6, u7, u8, u9, u10, (xoi (some v11)), u12, u13, u14], []) h _
        refine Ex.pure 2 (fr2 := (1294, [u0, some (.ref 1), (xoi none), some (.int l3), (xoi none), some (.int 0), u6, u7, u8, u9, u10, (xoi (some v11)), u12, u13, u14], [])) rfl ?_
        exact H
    | some v4 =>
      cases u11 with
      | none =>
        show Ex d [] tb_L_law (1291, [u0, some (.ref 1), (xoi none), some (.int l3), (xoi (some v4)), u5, u6, u7, u8, u9, u10, (xoi none), u12, u13, u14], []) h _
        refine Ex.pure 2 (fr2 := (1294, [u0, some (.ref 1), (xoi none), some (.int l3), (xoi (some v4)), some (.int 0), u6, u7, u8, u9, u10, (xoi none), u12, u13, u14], [])) rfl ?_
        exact H
      | some v11 =>
        show Ex d [] tb_L_law (1291, [u0, some (.ref 1), (xoi none), some (.int l3), (xoi (some v4)), u5, u6, u7, u8, u9, u10, (xoi (some v11)), u12, u13, u14], []) h _
        refine Ex.pure 2 (fr2 := (1294, [u0, some (.ref 1), (xoi none), some (.int l3), (xoi (some v4)), some (.int 0), u6, u7, u8, u9, u10, (xoi (some v11)), u12, u13, u14], [])) rfl ?_
        exact H
  | some v2 =>
    cases u4 with
    | none =>
      cases u11 with
      | none =>
        show Ex d [] tb_L_law (1291, [u0, some (.ref 1), (xoi (some v2)), some (.int l3), (xoi none), u5, u6, u7, u8, u9, u10, (xoi none), u12, u13, u14], []) h _
        refine Ex.pure 2 (fr2 := (1294, [u0, some (.ref 1), (xoi (some v2)), some (.int l3), (xoi none), some (.int 0), u6, u7, u8, u9, u10, (xoi none), u12, u13, u14], [])) rfl ?_
        exact H
      | some v11 =>
        show Ex d [] tb_L_law (1291, [u0, some (.ref 1), (xoi (some v2)), some (.int l3), (xoi none), u5, u6, u7, u8, u9, u10, (xoi (some v11)), u12, u13, u14], []) h _
        refine Ex.pure 2 (fr2 := (1294, [u0, some (.ref 1), (xoi (some v2)), some (.int l3), (xoi none), some (.int 0), u6, u7, u8, u9, u10, (xoi (some v11)), u12, u13, u14], [])) rfl ?_
        exact H
    | some v4 =>
      cases u11 with
      | none =>
        show Ex d [] tb_L_law (1291, [u0, some (.ref 1), (xoi (some v2)), some (.int l3), (xoi (some v4)), u5, u6, u7, u8, u9, u10, (xoi none), u12, u13, u14], []) h _
        refine Ex.pure 2 (fr2 := (1294, [u0, some (.ref 1), (xoi (some v2)), some (.int l3), (xoi (some v4)), some (.int 0), u6, u7, u8, u9, u10, (xoi none), u12, u13, u14], [])) rfl ?_
        exact H
      | some v11 =>
        show Ex d [] tb_L_law (1291, [u0, some (.ref 1), (xoi (some v2)), some (.int l3), (xoi (some v4)), u5, u6, u7, u8, u9, u10, (xoi (some v11)), u12, u13, u14], []) h _
        refine Ex.pure 2 (fr2 := (1294, [u0, some (.ref 1), (xoi (some v2)), some (.int l3), (xoi (some v4)), some (.int 0), u6, u7, u8, u9, u10, (xoi (some v11)), u12, u13, u14], [])) rfl ?_
        exact H
set_option maxRecDepth 100000 in
theorem w_L_law_1294 {d : Nat} {h : XH} {y : Nat → Nat} {K : XK} {E : XE} {u0 : Option Value} {u2 : Option Int32} {l3 : Int32} {u4 : Option Int32} {l5 : Int32} {u6 : Option Value} {u7 : Option Value} {u8 : Option Value} {u9 : Option Value} {u10 : Option Value} {u11 : Option Int32} {u12 : Option Value} {u13 : Option Value} {u14 : Option Value} (hd : 70 ≤ d) (hs : Sg h.1 y) (H : (9 ≤ l5 → (l3 = 0 ∨ l3 = 1) ∧ K (some (.int l3)) h) ∧ (¬ (9 ≤ l5) → (l3 = 0 → (l3 = 0 ∨ l3 = 1) ∧ K (some (.int l3)) h) ∧ (¬ (l3 = 0) → (Ca d m_L_isFine [.ref 1, .int l5] h (fun rv h1 => ∃ x2, rv = some (.int x2) ∧ ∃ y3 : Nat → Nat, Sg h1.1 y3 ∧ b_L_law_1294 d (u0) 1 u2 x2 u4 (l5 + 1) (u6) (u7) (u8) (u9) (u10) u11 (u12) (u13) (u14) h1 K E) E)))) : b_L_law_1294 d u0 1 u2 l3 u4 l5 u6 u7 u8 u9 u10 u11 u12 u13 u14 h K E := by
  cases u2 with
  | none =>
    cases u4 with
    | none =>
      cases u11 with
      | none =>
        show Ex d [] tb_L_law (1294, [u0, some (.ref 1), (xoi none), some (.int l3), (xoi none), some (.int l5), u6, u7, u8, u9, u10, (xoi none), u12, u13, u14], []) h _
        refine Ex.pure 2 (fr2 := (1298, [u0, some (.ref 1), (xoi none), some (.int l3), (xoi none), some (.int l5), u6, u7, u8, u9, u10, (xoi none), u12, u13, u14], [.int 9, .int l5])) rfl ?_
        refine Ex.br (x := (1318, [u0, some (.ref 1), (xoi none), some (.int l3), (xoi none), some (.int l5), u6, u7, u8, u9, u10, (xoi none), u12, u13, u14], [])) (y := (1301, [u0, some (.ref 1), (xoi none), some (.int l3), (xoi none), some (.int l5), u6, u7, u8, u9, u10, (xoi none), u12, u13, u14], [])) (b := 9 ≤ l5) rfl (fun hb => ?_) (fun hb => ?_)
        · replace H := H.1 (hb)
          refine Ex.pure 1 (fr2 := (1319, [u0, some (.ref 1), (xoi none), some (.int l3), (xoi none), some (.int l5), u6, u7, u8, u9, u10, (xoi none), u12, u13, u14], [.int l3])) rfl ?_
          exact Ex.iret rfl (Or.inr ⟨rfl, H.1⟩) H.2
        · replace H := H.2 (hb)
          refine Ex.pure 1 (fr2 := (1302, [u0, some (.ref 1), (xoi none), some (.int l3), (xoi none), some (.int l5), u6, u7, u8, u9, u10, (xoi none), u12, u13, u14], [.int l3])) rfl ?_
          refine Ex.br (x := (1318, [u0, some (.ref 1), (xoi none), some (.int l3), (xoi none), some (.int l5), u6, u7, u8, u9, u10, (xoi none), u12, u13, u14], [])) (y := (1305, [u0, some (.ref 1), (xoi none), some (.int l3), (xoi none), some (.int l5), u6, u7, u8, u9, u10, (xoi none), u12, u13, u14], [])) (b := l3 = 0) rfl (fun hb => ?_) (fun hb => ?_)
          · replace H := H.1 (hb)
            refine Ex.pure 1 (fr2 := (1319, [u0, some (.ref 1), (xoi none), some (.int l3), (xoi none), some (.int l5), u6, u7, u8, u9, u10, (xoi none), u12, u13, u14], [.int l3])) rfl ?_
            exact Ex.iret rfl (Or.inr ⟨rfl, H.1⟩) H.2
          · replace H := H.2 (hb)
            refine Ex.pure 2 (fr2 := (1308, [u0, some (.ref 1), (xoi none), some (.int l3), (xoi none), some (.int l5), u6, u7, u8, u9, u10, (xoi none), u12, u13, u14], [.int l5, .ref 1])) rfl ?_
            refine Ex.cal (rest := []) (j := m_L_isFine) (as := [.ref 1, .int l5]) (fun c => rfl) (H.imp ?_)
            intro rv h1 H
            obtain ⟨x2, rfl, H⟩ := H
            obtain ⟨y3, hs, H⟩ := H
            show Ex d [] tb_L_law (1311, [u0, some (.ref 1), (xoi none), some (.int l3), (xoi none), some (.int l5), u6, u7, u8, u9, u10, (xoi none), u12, u13, u14], [.int x2]) h1 _
            refine Ex.pure 3 (fr2 := (1294, [u0, some (.ref 1), (xoi none), some (.int x2), (xoi none), some (.int (l5 + 1)), u6, u7, u8, u9, u10, (xoi none), u12, u13, u14], [])) rfl ?_
            exact H
      | some v11 =>
        show Ex d [] tb_L_law (1294, [u0, some (.ref 1), (xoi none), some (.int l3), (xoi none), some (.int l5), u6, u7, u8, u9, u10, (xoi (some v11)), u12, u13, u14], []) h _
        refine Ex.pure 2 (fr2 := (1298, [u0, some (.ref 1), (xoi none), some (.int l3), (xoi none), some (.int l5), u6, u7, u8, u9, u10, (xoi (some v11)), u12, u13, u14], [.int 9, .int l5])) rfl ?_
        refine Ex.br (x := (1318, [u0, some (.ref 1), (xoi none), some (.int l3), (xoi none), some (.int l5), u6, u7, u8, u9, u10, (xoi (some v11)), u12, u13, u14], [])) (y := (1301, [u0, some (.ref 1), (xoi none), some (.int l3), (xoi none), some (.int l5), u6, u7, u8, u9, u10, (xoi (some v11)), u12, u13, u14], [])) (b := 9 ≤ l5) rfl (fun hb => ?_) (fun hb => ?_)
        · replace H := H.1 (hb)
          refine Ex.pure 1 (fr2 := (1319, [u0, some (.ref 1), (xoi none), some (.int l3), (xoi none), some (.int l5), u6, u7, u8, u9, u10, (xoi (some v11)), u12, u13, u14], [.int l3])) rfl ?_
          exact Ex.iret rfl (Or.inr ⟨rfl, H.1⟩) H.2
        · replace H := H.2 (hb)
          refine Ex.pure 1 (fr2 := (1302, [u0, some (.ref 1), (xoi none), some (.int l3), (xoi none), some (.int l5), u6, u7, u8, u9, u10, (xoi (some v11)), u12, u13, u14], [.int l3])) rfl ?_
          refine Ex.br (x := (1318, [u0, some (.ref 1), (xoi none), some (.int l3), (xoi none), some (.int l5), u6, u7, u8, u9, u10, (xoi (some v11)), u12, u13, u14], [])) (y := (1305, [u0, some (.ref 1), (xoi none), some (.int l3), (xoi none), some (.int l5), u6, u7, u8, u9, u10, (xoi (some v11)), u12, u13, u14], [])) (b := l3 = 0) rfl (fun hb => ?_) (fun hb => ?_)
          · replace H := H.1 (hb)
            refine Ex.pure 1 (fr2 := (1319, [u0, some (.ref 1), (xoi none), some (.int l3), (xoi none), some (.int l5), u6, u7, u8, u9, u10, (xoi (some v11)), u12, u13, u14], [.int l3])) rfl ?_
            exact Ex.iret rfl (Or.inr ⟨rfl, H.1⟩) H.2
          · replace H := H.2 (hb)
            refine Ex.pure 2 (fr2 := (1308, [u0, some (.ref 1), (xoi none), some (.int l3), (xoi none), some (.int l5), u6, u7, u8, u9, u10, (xoi (some v11)), u12, u13, u14], [.int l5, .ref 1])) rfl ?_
            refine Ex.cal (rest := []) (j := m_L_isFine) (as := [.ref 1, .int l5]) (fun c => rfl) (H.imp ?_)
            intro rv h1 H
            obtain ⟨x2, rfl, H⟩ := H
            obtain ⟨y3, hs, H⟩ := H
            show Ex d [] tb_L_law (1311, [u0, some (.ref 1), (xoi none), some (.int l3), (xoi none), some (.int l5), u6, u7, u8, u9, u10, (xoi (some v11)), u12, u13, u14], [.int x2]) h1 _
            refine Ex.pure 3 (fr2 := (1294, [u0, some (.ref 1), (xoi none), some (.int x2), (xoi none), some (.int (l5 + 1)), u6, u7, u8, u9, u10, (xoi (some v11)), u12, u13, u14], [])) rfl ?_
            exact H
    | some v4 =>
      cases u11 with
      | none =>
        show Ex d [] tb_L_law (1294, [u0, some (.ref 1), (xoi none), some (.int l3), (xoi (some v4)), some (.int l5), u6, u7, u8, u9, u10, (xoi none), u12, u13, u14], []) h _
        refine Ex.pure 2 (fr2 := (1298, [u0, some (.ref 1), (xoi none), some (.int l3), (xoi (some v4)), some (.int l5), u6, u7, u8, u9, u10, (xoi none), u12, u13, u14], [.int 9, .int l5])) rfl ?_
        refine Ex.br (x := (1318, [u0, some (.ref 1), (xoi none), some (.int l3), (xoi (some v4)), some (.int l5), u6, u7, u8, u9, u10, (xoi none), u12, u13, u14], [])) (y := (1301, [u0, some (.ref 1), (xoi none), some (.int l3), (xoi (some v4)), some (.int l5), u6, u7, u8, u9, u10, (xoi none), u12, u13, u14], [])) (b := 9 ≤ l5) rfl (fun hb => ?_) (fun hb => ?_)
        · replace H := H.1 (hb)
          refine Ex.pure 1 (fr2 := (1319, [u0, some (.ref 1), (xoi none), some (.int l3), (xoi (some v4)), some (.int l5), u6, u7, u8, u9, u10, (xoi none), u12, u13, u14], [.int l3])) rfl ?_
          exact Ex.iret rfl (Or.inr ⟨rfl, H.1⟩) H.2
        · replace H := H.2 (hb)
          refine Ex.pure 1 (fr2 := (1302, [u0, some (.ref 1), (xoi none), some (.int l3), (xoi (some v4)), some (.int l5), u6, u7, u8, u9, u10, (xoi none), u12, u13, u14], [.int l3])) rfl ?_
          refine Ex.br (x := (1318, [u0, some (.ref 1), (xoi none), some (.int l3), (xoi (some v4)), some (.int l5), u6, u7, u8, u9, u10, (xoi none), u12, u13, u14], [])) (y := (1305, [u0, some (.ref 1), (xoi none), some (.int l3), (xoi (some v4)), some (.int l5), u6, u7, u8, u9, u10, (xoi none), u12, u13, u14], [])) (b := l3 = 0) rfl (fun hb => ?_) (fun hb => ?_)
          · replace H := H.1 (hb)
            refine Ex.pure 1 (fr2 := (1319, [u0, some (.ref 1), (xoi none), some (.int l3), (xoi (some v4)), some (.int l5), u6, u7, u8, u9, u10, (xoi none), u12, u13, u14], [.int l3])) rfl ?_
            exact Ex.iret rfl (Or.inr ⟨rfl, H.1⟩) H.2
          · replace H := H.2 (hb)
            refine Ex.pure 2 (fr2 := (1308, [u0, some (.ref 1), (xoi none), some (.int l3), (xoi (some v4)), some (.int l5), u6, u7, u8, u9, u10, (xoi none), u12, u13, u14], [.int l5, .ref 1])) rfl ?_
            refine Ex.cal (rest := []) (j := m_L_isFine) (as := [.ref 1, .int l5]) (fun c => rfl) (H.imp ?_)
            intro rv h1 H
            obtain ⟨x2, rfl, H⟩ := H
            obtain ⟨y3, hs, H⟩ := H
            show Ex d [] tb_L_law (1311, [u0, some (.ref 1), (xoi none), some (.int l3), (xoi (some v4)), some (.int l5), u6, u7, u8, u9, u10, (xoi none), u12, u13, u14], [.int x2]) h1 _
            refine Ex.pure 3 (fr2 := (1294, [u0, some (.ref 1), (xoi none), some (.int x2), (xoi (some v4)), some (.int (l5 + 1)), u6, u7, u8, u9, u10, (xoi none), u12, u13, u14], [])) rfl ?_
            exact H
      | some v11 =>
        show Ex d [] tb_L_law (1294, [u0, some (.ref 1), (xoi none), some (.int l3), (xoi (some v4)), some (.int l5), u6, u7, u8, u9, u10, (xoi (some v11)), u12, u13, u14], []) h _
        refine Ex.pure 2 (fr2 := (1298, [u0, some (.ref 1), (xoi none), some (.int l3), (xoi (some v4)), some (.int l5), u6, u7, u8, u9, u10, (xoi (some v11)), u12, u13, u14], [.int 9, .int l5])) rfl ?_
        refine Ex.br (x := (1318, [u0, some (.ref 1), (xoi none), some (.int l3), (xoi (some v4)), some (.int l5), u6, u7, u8, u9, u10, (xoi (some v11)), u12, u13, u14], [])) (y := (1301, [u0, some (.ref 1), (xoi none), some (.int l3), (xoi (some v4)), some (.int l5), u6, u7, u8, u9, u10, (xoi (some v11)), u12, u13, u14], [])) (b := 9 ≤ l5) rfl (fun hb => ?_) (fun hb => ?_)
        · replace H := H.1 (hb)
          refine Ex.pure 1 (fr2 := (1319, [u0, some (.ref 1), (xoi none), some (.int l3), (xoi (some v4)), some (.int l5), u6, u7, u8, u9, u10, (xoi (some v11)), u12, u13, u14], [.int l3])) rfl ?_
          exact Ex.iret rfl (Or.inr ⟨rfl, H.1⟩) H.2
        · replace H := H.2 (hb)
          refine Ex.pure 1 (fr2 := (1302, [u0, some (.ref 1), (xoi none), some (.int l3), (xoi (some v4)), some (.int l5), u6, u7, u8, u9, u10, (xoi (some v11)), u12, u13, u14], [.int l3])) rfl ?_
          refine Ex.br (x := (1318, [u0, some (.ref 1), (xoi none), some (.int l3), (xoi (some v4)), some (.int l5), u6, u7, u8, u9, u10, (xoi (some v11)), u12, u13, u14], [])) (y := (1305, [u0, some (.ref 1), (xoi none), some (.int l3), (xoi (some v4)), some (.int l5), u6, u7, u8, u9, u10, (xoi (some v11)), u12, u13, u14], [])) (b := l3 = 0) rfl (fun hb => ?_) (fun hb => ?_)
          · replace H := H.1 (hb)
            refine Ex.pure 1 (fr2 := (1319, [u0, some (.ref 1), (xoi none), some (.int l3), (xoi (some v4)), some (.int l5), u6, u7, u8, u9, u10, (xoi (some v11)), u12, u13, u14], [.int l3])) rfl ?_
            exact Ex.iret rfl (Or.inr ⟨rfl, H.1⟩) H.2
          · replace H := H.2 (hb)
            refine Ex.pure 2 (fr2 := (1308, [u0, some (.ref 1), (xoi none), some (.int l3), (xoi (some v4)), some (.int l5), u6, u7, u8, u9, u10, (xoi (some v11)), u12, u13, u14], [.int l5, .ref 1])) rfl ?_
            refine Ex.cal (rest := []) (j := m_L_isFine) (as := [.ref 1, .int l5]) (fun c => rfl) (H.imp ?_)
            intro rv h1 H
            obtain ⟨x2, rfl, H⟩ := H
            obtain ⟨y3, hs, H⟩ := H
            show Ex d [] tb_L_law (1311, [u0, some (.ref 1), (xoi none), some (.int l3), (xoi (some v4)), some (.int l5), u6, u7, u8, u9, u10, (xoi (some v11)), u12, u13, u14], [.int x2]) h1 _
            refine Ex.pure 3 (fr2 := (1294, [u0, some (.ref 1), (xoi none), some (.int x2), (xoi (some v4)), some (.int (l5 + 1)), u6, u7, u8, u9, u10, (xoi (some v11)), u12, u13, u14], [])) rfl ?_
            exact H
  | some v2 =>
    cases u4 with
    | none =>
      cases u11 with
      | none =>
        show Ex d [] tb_L_law (1294, [u0, some (.ref 1), (xoi (some v2)), some (.int l3), (xoi none), some (.int l5), u6, u7, u8, u9, u10, (xoi none), u12, u13, u14], []) h _
        refine Ex.pure 2 (fr2 := (1298, [u0, some (.ref 1), (xoi (some v2)), some (.int l3), (xoi none), some (.int l5), u6, u7, u8, u9, u10, (xoi none), u12, u13, u14], [.int 9, .int l5])) rfl ?_
        refine Ex.br (x := (1318, [u0, some (.ref 1), (xoi (some v2)), some (.int l3), (xoi none), some (.int l5), u6, u7, u8, u9, u10, (xoi none), u12, u13, u14], [])) (y := (1301, [u0, some (.ref 1), (xoi (some v2)), some (.int l3), (xoi none), some (.int l5), u6, u7, u8, u9, u10, (xoi none), u12, u13, u14], [])) (b := 9 ≤ l5) rfl (fun hb => ?_) (fun hb => ?_)
        · replace H := H.1 (hb)
          refine Ex.pure 1 (fr2 := (1319, [u0, some (.ref 1), (xoi (some v2)), some (.int l3), (xoi none), some (.int l5), u6, u7, u8, u9, u10, (xoi none), u12, u13, u14], [.int l3])) rfl ?_
          exact Ex.iret rfl (Or.inr ⟨rfl, H.1⟩) H.2
        · replace H := H.2 (hb)
          refine Ex.pure 1 (fr2 := (1302, [u0, some (.ref 1), (xoi (some v2)), some (.int l3), (xoi none), some (.int l5), u6, u7, u8, u9, u10, (xoi none), u12, u13, u14], [.int l3])) rfl ?_
          refine Ex.br (x := (1318, [u0, some (.ref 1), (xoi (some v2)), some (.int l3), (xoi none), some (.int l5), u6, u7, u8, u9, u10, (xoi none), u12, u13, u14], [])) (y := (1305, [u0, some (.ref 1), (xoi (some v2)), some (.int l3), (xoi none), some (.int l5), u6, u7, u8, u9, u10, (xoi none), u12, u13, u14], [])) (b := l3 = 0) rfl (fun hb => ?_) (fun hb => ?_)
          · replace H := H.1 (hb)
            refine Ex.pure 1 (fr2 := (1319, [u0, some (.ref 1), (xoi (some v2)), some (.int l3), (xoi none), some (.int l5), u6, u7, u8, u9, u10, (xoi none), u12, u13, u14], [.int l3])) rfl ?_
            exact Ex.iret rfl (Or.inr ⟨rfl, H.1⟩) H.2
          · replace H := H.2 (hb)
            refine Ex.pure 2 (fr2 := (1308, [u0, some (.ref 1), (xoi (some v2)), some (.int l3), (xoi none), some (.int l5), u6, u7, u8, u9, u10, (xoi none), u12, u13, u14], [.int l5, .ref 1])) rfl ?_
            refine Ex.cal (rest := []) (j := m_L_isFine) (as := [.ref 1, .int l5]) (fun c => rfl) (H.imp ?_)
            intro rv h1 H
            obtain ⟨x2, rfl, H⟩ := H
            obtain ⟨y3, hs, H⟩ := H
            show Ex d [] tb_L_law (1311, [u0, some (.ref 1), (xoi (some v2)), some (.int l3), (xoi none), some (.int l5), u6, u7, u8, u9, u10, (xoi none), u12, u13, u14], [.int x2]) h1 _
            refine Ex.pure 3 (fr2 := (1294, [u0, some (.ref 1), (xoi (some v2)), some (.int x2), (xoi none), some (.int (l5 + 1)), u6, u7, u8, u9, u10, (xoi none), u12, u13, u14], [])) rfl ?_
            exact H
      | some v11 =>
        show Ex d [] tb_L_law (1294, [u0, some (.ref 1), (xoi (some v2)), some (.int l3), (xoi none), some (.int l5), u6, u7, u8, u9, u10, (xoi (some v11)), u12, u13, u14], []) h _
        refine Ex.pure 2 (fr2 := (1298, [u0, some (.ref 1), (xoi (some v2)), some (.int l3), (xoi none), some (.int l5), u6, u7, u8, u9, u10, (xoi (some v11)), u12, u13, u14], [.int 9, .int l5])) rfl ?_
        refine Ex.br (x := (1318, [u0, some (.ref 1), (xoi (some v2)), some (.int l3), (xoi none), some (.int l5), u6, u7, u8, u9, u10, (xoi (some v11)), u12, u13, u14], [])) (y := (1301, [u0, some (.ref 1), (xoi (some v2)), some (.int l3), (xoi none), some (.int l5), u6, u7, u8, u9, u10, (xoi (some v11)), u12, u13, u14], [])) (b := 9 ≤ l5) rfl (fun hb => ?_) (fun hb => ?_)
        · replace H := H.1 (hb)
          refine Ex.pure 1 (fr2 := (1319, [u0, some (.ref 1), (xoi (some v2)), some (.int l3), (xoi none), some (.int l5), u6, u7, u8, u9, u10, (xoi (some v11)), u12, u13, u14], [.int l3])) rfl ?_
          exact Ex.iret rfl (Or.inr ⟨rfl, H.1⟩) H.2
        · replace H := H.2 (hb)
          refine Ex.pure 1 (fr2 := (1302, [u0, some (.ref 1), (xoi (some v2)), some (.int l3), (xoi none), some (.int l5), u6, u7, u8, u9, u10, (xoi (some v11)), u12, u13, u14], [.int l3])) rfl ?_
          refine Ex.br (x := (1318, [u0, some (.ref 1), (xoi (some v2)), some (.int l3), (xoi none), some (.int l5), u6, u7, u8, u9, u10, (xoi (some v11)), u12, u13, u14], [])) (y := (1305, [u0, some (.ref 1), (xoi (some v2)), some (.int l3), (xoi none), some (.int l5), u6, u7, u8, u9, u10, (xoi (some v11)), u12, u13, u14], [])) (b := l3 = 0) rfl (fun hb => ?_) (fun hb => ?_)
          · replace H := H.1 (hb)
            refine Ex.pure 1 (fr2 := (1319, [u0, some (.ref 1), (xoi (some v2)), some (.int l3), (xoi none), some (.int l5), u6, u7, u8, u9, u10, (xoi (some v11)), u12, u13, u14], [.int l3])) rfl ?_
            exact Ex.iret rfl (Or.inr ⟨rfl, H.1⟩) H.2
          · replace H := H.2 (hb)
            refine Ex.pure 2 (fr2 := (1308, [u0, some (.ref 1), (xoi (some v2)), some (.int l3), (xoi none), some (.int l5), u6, u7, u8, u9, u10, (xoi (some v11)), u12, u13, u14], [.int l5, .ref 1])) rfl ?_
            refine Ex.cal (rest := []) (j := m_L_isFine) (as := [.ref 1, .int l5]) (fun c => rfl) (H.imp ?_)
            intro rv h1 H
            obtain ⟨x2, rfl, H⟩ := H
            obtain ⟨y3, hs, H⟩ := H
            show Ex d [] tb_L_law (1311, [u0, some (.ref 1), (xoi (some v2)), some (.int l3), (xoi none), some (.int l5), u6, u7, u8, u9, u10, (xoi (some v11)), u12, u13, u14], [.int x2]) h1 _
            refine Ex.pure 3 (fr2 := (1294, [u0, some (.ref 1), (xoi (some v2)), some (.int x2), (xoi none), some (.int (l5 + 1)), u6, u7, u8, u9, u10, (xoi (some v11)), u12, u13, u14], [])) rfl ?_
            exact H
    | some v4 =>
      cases u11 with
      | none =>
        show Ex d [] tb_L_law (1294, [u0, some (.ref 1), (xoi (some v2)), some (.int l3), (xoi (some v4)), some (.int l5), u6, u7, u8, u9, u10, (xoi none), u12, u13, u14], []) h _
        refine Ex.pure 2 (fr2 := (1298, [u0, some (.ref 1), (xoi (some v2)), some (.int l3), (xoi (some v4)), some (.int l5), u6, u7, u8, u9, u10, (xoi none), u12, u13, u14], [.int 9, .int l5])) rfl ?_
        refine Ex.br (x := (1318, [u0, some (.ref 1), (xoi (some v2)), some (.int l3), (xoi (some v4)), some (.int l5), u6, u7, u8, u9, u10, (xoi none), u12, u13, u14], [])) (y := (1301, [u0, some (.ref 1), (xoi (some v2)), some (.int l3), (xoi (some v4)), some (.int l5), u6, u7, u8, u9, u10, (xoi none), u12, u13, u14], [])) (b := 9 ≤ l5) rfl (fun hb => ?_) (fun hb => ?_)
        · replace H := H.1 (hb)
          refine Ex.pure 1 (fr2 := (1319, [u0, some (.ref 1), (xoi (some v2)), some (.int l3), (xoi (some v4)), some (.int l5), u6, u7, u8, u9, u10, (xoi none), u12, u13, u14], [.int l3])) rfl ?_
          exact Ex.iret rfl (Or.inr ⟨rfl, H.1⟩) H.2
        · replace H := H.2 (hb)
          refine Ex.pure 1 (fr2 := (1302, [u0, some (.ref 1), (xoi (some v2)), some (.int l3), (xoi (some v4)), some (.int l5), u6, u7, u8, u9, u10, (xoi none), u12, u13, u14], [.int l3])) rfl ?_
          refine Ex.br (x := (1318, [u0, some (.ref 1), (xoi (some v2)), some (.int l3), (xoi (some v4)), some (.int l5), u6, u7, u8, u9, u10, (xoi none), u12, u13, u14], [])) (y := (1305, [u0, some (.ref 1), (xoi (some v2)), some (.int l3), (xoi (some v4)), some (.int l5), u6, u7, u8, u9, u10, (xoi none), u12, u13, u14], [])) (b := l3 = 0) rfl (fun hb => ?_) (fun hb => ?_)
          · replace H := H.1 (hb)
            refine Ex.pure 1 (fr2 := (1319, [u0, some (.ref 1), (xoi (some v2)), some (.int l3), (xoi (some v4)), some (.int l5), u6, u7, u8, u9, u10, (xoi none), u12, u13, u14], [.int l3])) rfl ?_
            exact Ex.iret rfl (Or.inr ⟨rfl, H.1⟩) H.2
          · replace H := H.2 (hb)
            refine Ex.pure 2 (fr2 := (1308, [u0, some (.ref 1), (xoi (some v2)), some (.int l3), (xoi (some v4)), some (.int l5), u6, u7, u8, u9, u10, (xoi none), u12, u13, u14], [.int l5, .ref 1])) rfl ?_
            refine Ex.cal (rest := []) (j := m_L_isFine) (as := [.ref 1, .int l5]) (fun c => rfl) (H.imp ?_)
            intro rv h1 H
            obtain ⟨x2, rfl, H⟩ := H
            obtain ⟨y3, hs, H⟩ := H
            show Ex d [] tb_L_law (1311, [u0, some (.ref 1), (xoi (some v2)), some (.int l3), (xoi (some v4)), some (.int l5), u6, u7, u8, u9, u10, (xoi none), u12, u13, u14], [.int x2]) h1 _
            refine Ex.pure 3 (fr2 := (1294, [u0, some (.ref 1), (xoi (some v2)), some (.int x2), (xoi (some v4)), some (.int (l5 + 1)), u6, u7, u8, u9, u10, (xoi none), u12, u13, u14], [])) rfl ?_
            exact H
      | some v11 =>
        show Ex d [] tb_L_law (1294, [u0, some (.ref 1), (xoi (some v2)), some (.int l3), (xoi (some v4)), some (.int l5), u6, u7, u8, u9, u10, (xoi (some v11)), u12, u13, u14], []) h _
        refine Ex.pure 2 (fr2 := (1298, [u0, some (.ref 1), (xoi (some v2)), some (.int l3), (xoi (some v4)), some (.int l5), u6, u7, u8, u9, u10, (xoi (some v11)), u12, u13, u14], [.int 9, .int l5])) rfl ?_
        refine Ex.br (x := (1318, [u0, some (.ref 1), (xoi (some v2)), some (.int l3), (xoi (some v4)), some (.int l5), u6, u7, u8, u9, u10, (xoi (some v11)), u12, u13, u14], [])) (y := (1301, [u0, some (.ref 1), (xoi (some v2)), some (.int l3), (xoi (some v4)), some (.int l5), u6, u7, u8, u9, u10, (xoi (some v11)), u12, u13, u14], [])) (b := 9 ≤ l5) rfl (fun hb => ?_) (fun hb => ?_)
        · replace H := H.1 (hb)
          refine Ex.pure 1 (fr2 := (1319, [u0, some (.ref 1), (xoi (some v2)), some (.int l3), (xoi (some v4)), some (.int l5), u6, u7, u8, u9, u10, (xoi (some v11)), u12, u13, u14], [.int l3])) rfl ?_
          exact Ex.iret rfl (Or.inr ⟨rfl, H.1⟩) H.2
        · replace H := H.2 (hb)
          refine Ex.pure 1 (fr2 := (1302, [u0, some (.ref 1), (xoi (some v2)), some (.int l3), (xoi (some v4)), some (.int l5), u6, u7, u8, u9, u10, (xoi (some v11)), u12, u13, u14], [.int l3])) rfl ?_
          refine Ex.br (x := (1318, [u0, some (.ref 1), (xoi (some v2)), some (.int l3), (xoi (some v4)), some (.int l5), u6, u7, u8, u9, u10, (xoi (some v11)), u12, u13, u14], [])) (y := (1305, [u0, some (.ref 1), (xoi (some v2)), some (.int l3), (xoi (some v4)), some (.int l5), u6, u7, u8, u9, u10, (xoi (some v11)), u12, u13, u14], [])) (b := l3 = 0) rfl (fun hb => ?_) (fun hb => ?_)
          · replace H := H.1 (hb)
            refine Ex.pure 1 (fr2 := (1319, [u0, some (.ref 1), (xoi (some v2)), some (.int l3), (xoi (some v4)), some (.int l5), u6, u7, u8, u9, u10, (xoi (some v11)), u12, u13, u14], [.int l3])) rfl ?_
            exact Ex.iret rfl (Or.inr ⟨rfl, H.1⟩) H.2
          · replace H := H.2 (hb)
            refine Ex.pure 2 (fr2 := (1308, [u0, some (.ref 1), (xoi (some v2)), some (.int l3), (xoi (some v4)), some (.int l5), u6, u7, u8, u9, u10, (xoi (some v11)), u12, u13, u14], [.int l5, .ref 1])) rfl ?_
            refine Ex.cal (rest := []) (j := m_L_isFine) (as := [.ref 1, .int l5]) (fun c => rfl) (H.imp ?_)
            intro rv h1 H
            obtain ⟨x2, rfl, H⟩ := H
            obtain ⟨y3, hs, H⟩ := H
            show Ex d [] tb_L_law (1311, [u0, some (.ref 1), (xoi (some v2)), some (.int l3), (xoi (some v4)), some (.int l5), u6, u7, u8, u9, u10, (xoi (some v11)), u12, u13, u14], [.int x2]) h1 _
            refine Ex.pure 3 (fr2 := (1294, [u0, some (.ref 1), (xoi (some v2)), some (.int x2), (xoi (some v4)), some (.int (l5 + 1)), u6, u7, u8, u9, u10, (xoi (some v11)), u12, u13, u14], [])) rfl ?_
            exact H
