/-! X0_numerator -/
def k_X0_numerator_0 (l : Launch) (X : Nat → aw_Kt) (d : Nat) (Q : Option Value → aw_H → Prop) : aw_Kt := o_al 0 (o_gf 0 2 (o_rl Q))
theorem t_X0_numerator_0 {l : Launch} {X : Nat → aw_Kt} {d : Nat} {Q : Option Value → aw_H → Prop} : aw_Sn l m_X0_numerator none X d 0 0 Q 0 (k_X0_numerator_0 l X d Q) := by
  unfold k_X0_numerator_0
  exact s_aload_n dX0_numerator_0 rfl (s_getf dX0_numerator_1 rfl u_X0 (by decide) w_0 (s_lret dX0_numerator_4 rfl))
/-! X0_denominator -/
def k_X0_denominator_0 (l : Launch) (X : Nat → aw_Kt) (d : Nat) (Q : Option Value → aw_H → Prop) : aw_Kt := o_al 0 (o_gf 0 3 (o_rl Q))
theorem t_X0_denominator_0 {l : Launch} {X : Nat → aw_Kt} {d : Nat} {Q : Option Value → aw_H → Prop} : aw_Sn l m_X0_denominator none X d 0 0 Q 0 (k_X0_denominator_0 l X d Q) := by
  unfold k_X0_denominator_0
  exact s_aload_n dX0_denominator_0 rfl (s_getf dX0_denominator_1 rfl u_X0 (by decide) w_1 (s_lret dX0_denominator_4 rfl))
/-! X0_rowCount -/
def k_X0_rowCount_0 (l : Launch) (X : Nat → aw_Kt) (d : Nat) (Q : Option Value → aw_H → Prop) : aw_Kt := o_al 0 (o_gf 0 4 (o_ri Q))
theorem t_X0_rowCount_0 {l : Launch} {X : Nat → aw_Kt} {d : Nat} {Q : Option Value → aw_H → Prop} : aw_Sn l m_X0_rowCount none X d 0 0 Q 0 (k_X0_rowCount_0 l X d Q) := by
  unfold k_X0_rowCount_0
  exact s_aload_n dX0_rowCount_0 rfl (s_getf dX0_rowCount_1 rfl u_X0 (by decide) w_2 (s_iret dX0_rowCount_4 rfl))
/-! X0_secondCount -/
def k_X0_secondCount_0 (l : Launch) (X : Nat → aw_Kt) (d : Nat) (Q : Option Value → aw_H → Prop) : aw_Kt := o_al 0 (o_gf 0 5 (o_ri Q))
theorem t_X0_secondCount_0 {l : Launch} {X : Nat → aw_Kt} {d : Nat} {Q : Option Value → aw_H → Prop} : aw_Sn l m_X0_secondCount none X d 0 0 Q 0 (k_X0_secondCount_0 l X d Q) := by
  unfold k_X0_secondCount_0
  exact s_aload_n dX0_secondCount_0 rfl (s_getf dX0_secondCount_1 rfl u_X0 (by decide) w_3 (s_iret dX0_secondCount_4 rfl))
/-! X0_measureTwo -/
def k_X0_measureTwo_120 (l : Launch) (X : Nat → aw_Kt) (d : Nat) (Q : Option Value → aw_H → Prop) : aw_Kt := o_al 0 (o_gf 0 4 (o_i2 (o_ls 4 (o_al 0 (o_gf 0 0 (o_al 0 (o_gf 0 1 (o_cs l d m_X0_sumOfProducts 2 (o_ls 6 (o_al 0 (o_ll 4 (o_al 0 (o_gf 0 5 (o_i2 (o_lb (fun x y => x * y) (o_ll 6 (o_lb (fun x y => x - y) (o_ll 4 (o_ll 4 (o_lb (fun x y => x * y) (o_ll 6 (o_lb (fun x y => x - y) (o_cv l d m_X0_setFraction 0 2 (o_rv Q))))))))))))))))))))))))
theorem t_X0_measureTwo_120 {l : Launch} {X : Nat → aw_Kt} {d : Nat} {Q : Option Value → aw_H → Prop} : aw_Sn l m_X0_measureTwo none X d 0 0 Q 120 (k_X0_measureTwo_120 l X d Q) := by
  unfold k_X0_measureTwo_120
  exact s_aload_n dX0_measureTwo_120 rfl (s_getf dX0_measureTwo_121 rfl u_X0 (by decide) w_2 (s_i2l dX0_measureTwo_124 (s_lstore dX0_measureTwo_125 (by decide) (s_aload_n dX0_measureTwo_127 rfl (s_getf dX0_measureTwo_128 rfl u_X0 (by decide) w_4 (s_aload_n dX0_measureTwo_131 rfl (s_getf dX0_measureTwo_132 rfl u_X0 (by decide) w_5 (s_cs dX0_measureTwo_135 (by decide) w_8 wt_X0_sumOfProducts w_6 wc_X0_sumOfProducts wd_X0_sumOfProducts (s_lstore dX0_measureTwo_138 (by decide) (s_aload_n dX0_measureTwo_140 rfl (s_lload dX0_measureTwo_141 (s_aload_n dX0_measureTwo_143 rfl (s_getf dX0_measureTwo_144 rfl u_X0 (by decide) w_3 (s_i2l dX0_measureTwo_147 (s_lmul dX0_measureTwo_148 (s_lload dX0_measureTwo_149 (s_lsub dX0_measureTwo_151 (s_lload dX0_measureTwo_152 (s_lload dX0_measureTwo_154 (s_lmul dX0_measureTwo_156 (s_lload dX0_measureTwo_157 (s_lsub dX0_measureTwo_159 (s_cv dX0_measureTwo_160 rfl (by decide) w_7 wi_X0_setFraction ws_X0_setFraction w_6 wc_X0_setFraction wd_X0_setFraction (s_vret dX0_measureTwo_163 rfl))))))))))))))))))))))))
def k_X0_measureTwo_114 (l : Launch) (X : Nat → aw_Kt) (d : Nat) (Q : Option Value → aw_H → Prop) : aw_Kt := o_ii 4 1 (SW l m_X0_measureTwo none X d 0 0 Q 15)
theorem t_X0_measureTwo_114 {l : Launch} {X : Nat → aw_Kt} {d : Nat} {Q : Option Value → aw_H → Prop} : aw_Sn l m_X0_measureTwo none X d 0 0 Q 114 (k_X0_measureTwo_114 l X d Q) := by
  unfold k_X0_measureTwo_114
  exact s_iinc dX0_measureTwo_114 (by decide) (by decide) (s_goto dX0_measureTwo_117 (by decide) s_stop)
def k_X0_measureTwo_110 (l : Launch) (X : Nat → aw_Kt) (d : Nat) (Q : Option Value → aw_H → Prop) : aw_Kt := o_ib (fun x y => x + y) (o_pi 0 5 (k_X0_measureTwo_114 l X d Q))
theorem t_X0_measureTwo_110 {l : Launch} {X : Nat → aw_Kt} {d : Nat} {Q : Option Value → aw_H → Prop} : aw_Sn l m_X0_measureTwo none X d 0 0 Q 110 (k_X0_measureTwo_110 l X d Q) := by
  unfold k_X0_measureTwo_110
  exact s_iadd dX0_measureTwo_110 (s_puti dX0_measureTwo_111 rfl u_X0 tyX0_ok nmX0 (by decide) rfl (by decide +kernel) w_3 t_X0_measureTwo_114)
def k_X0_measureTwo_109 (l : Launch) (X : Nat → aw_Kt) (d : Nat) (Q : Option Value → aw_H → Prop) : aw_Kt := o_ic 0 (k_X0_measureTwo_110 l X d Q)
theorem t_X0_measureTwo_109 {l : Launch} {X : Nat → aw_Kt} {d : Nat} {Q : Option Value → aw_H → Prop} : aw_Sn l m_X0_measureTwo none X d 0 0 Q 109 (k_X0_measureTwo_109 l X d Q) := by
  unfold k_X0_measureTwo_109
  exact s_iconst dX0_measureTwo_109 (by decide) t_X0_measureTwo_110
def k_X0_measureTwo_61 (l : Launch) (X : Nat → aw_Kt) (d : Nat) (Q : Option Value → aw_H → Prop) : aw_Kt := o_al 0 (o_gf 0 0 (o_il 5 (o_d2 (o_ia 0 (o_ic 1 (o_ib (fun x y => x + y) (o_xa (o_al 0 (o_gf 0 1 (o_il 6 (o_d2 (o_ia 0 (o_ic 1 (o_ib (fun x y => x + y) (o_xa (o_al 0 (o_dp (o_gf 0 4 (o_ic 1 (o_ib (fun x y => x + y) (o_pi 0 4 (o_al 0 (o_dp (o_gf 0 5 (o_il 5 (o_il 6 (o_i3 (fun x y => x = y) (o_ic 1 (k_X0_measureTwo_110 l X d Q)) (k_X0_measureTwo_109 l X d Q))))))))))))))))))))))))))))
theorem t_X0_measureTwo_61 {l : Launch} {X : Nat → aw_Kt} {d : Nat} {Q : Option Value → aw_H → Prop} : aw_Sn l m_X0_measureTwo none X d 0 0 Q 61 (k_X0_measureTwo_61 l X d Q) := by
  unfold k_X0_measureTwo_61
  exact s_aload_n dX0_measureTwo_61 rfl (s_getf dX0_measureTwo_62 rfl u_X0 (by decide) w_4 (s_iload dX0_measureTwo_65 (s_dup2 dX0_measureTwo_67 (s_iaload dX0_measureTwo_68 (s_iconst dX0_measureTwo_69 (by decide) (s_iadd dX0_measureTwo_70 (s_iastore dX0_measureTwo_71 (s_aload_n dX0_measureTwo_72 rfl (s_getf dX0_measureTwo_73 rfl u_X0 (by decide) w_5 (s_iload dX0_measureTwo_76 (s_dup2 dX0_measureTwo_78 (s_iaload dX0_measureTwo_79 (s_iconst dX0_measureTwo_80 (by decide) (s_iadd dX0_measureTwo_81 (s_iastore dX0_measureTwo_82 (s_aload_n dX0_measureTwo_83 rfl (s_dup dX0_measureTwo_84 (s_getf dX0_measureTwo_85 rfl u_X0 (by decide) w_2 (s_iconst dX0_measureTwo_88 (by decide) (s_iadd dX0_measureTwo_89 (s_puti dX0_measureTwo_90 rfl u_X0 tyX0_ok nmX0 (by decide) rfl (by decide +kernel) w_2 (s_aload_n dX0_measureTwo_93 rfl (s_dup dX0_measureTwo_94 (s_getf dX0_measureTwo_95 rfl u_X0 (by decide) w_3 (s_iload dX0_measureTwo_98 (s_iload dX0_measureTwo_100 (s_icmp_ne dX0_measureTwo_102 (by decide) (s_iconst dX0_measureTwo_105 (by decide) (s_goto dX0_measureTwo_106 (by decide) t_X0_measureTwo_110)) t_X0_measureTwo_109)))))))))))))))))))))))))))
def k_X0_measureTwo_15 (l : Launch) (X : Nat → aw_Kt) (d : Nat) (Q : Option Value → aw_H → Prop) : aw_Kt := o_il 4 (o_al 1 (o_cv l d m_X2_size 2 0 (o_i3 (fun x y => y ≤ x) (k_X0_measureTwo_120 l X d Q) (o_al 1 (o_il 2 (o_il 4 (o_cv l d m_X2_given 2 2 (o_is 5 (o_al 1 (o_il 3 (o_il 4 (o_cv l d m_X2_given 2 2 (o_is 6 (o_il 5 (o_cs l d m_X3_isLabel 1 (o_if (fun x => x = 0) (k_X0_measureTwo_114 l X d Q) (o_il 6 (o_cs l d m_X3_isLabel 1 (o_if (fun x => x = 0) (k_X0_measureTwo_114 l X d Q) (k_X0_measureTwo_61 l X d Q))))))))))))))))))))
theorem t_X0_measureTwo_15 {l : Launch} {X : Nat → aw_Kt} {d : Nat} {Q : Option Value → aw_H → Prop} : aw_Sn l m_X0_measureTwo none X d 0 0 Q 15 (k_X0_measureTwo_15 l X d Q) := by
  unfold k_X0_measureTwo_15
  exact s_iload dX0_measureTwo_15 (s_aload_n dX0_measureTwo_17 rfl (s_cv dX0_measureTwo_18 rfl (by decide) w_12 wi_X2_size ws_X2_size w_9 wc_X2_size wd_X2_size (s_icmp_ge dX0_measureTwo_21 (by decide) t_X0_measureTwo_120 (s_aload_n dX0_measureTwo_24 rfl (s_iload_n dX0_measureTwo_25 rfl (s_iload dX0_measureTwo_26 (s_cv dX0_measureTwo_28 rfl (by decide) w_11 wi_X2_given ws_X2_given w_9 wc_X2_given wd_X2_given (s_istore dX0_measureTwo_31 (by decide) (s_aload_n dX0_measureTwo_33 rfl (s_iload_n dX0_measureTwo_34 rfl (s_iload dX0_measureTwo_35 (s_cv dX0_measureTwo_37 rfl (by decide) w_11 wi_X2_given ws_X2_given w_9 wc_X2_given wd_X2_given (s_istore dX0_measureTwo_40 (by decide) (s_iload dX0_measureTwo_42 (s_cn dX0_measureTwo_44 (by decide) (Or.inr rfl) wt_X3_isLabel w_10 wc_X3_isLabel wd_X3_isLabel (s_if_eq dX0_measureTwo_47 (by decide) t_X0_measureTwo_114 (s_iload dX0_measureTwo_50 (s_cn dX0_measureTwo_52 (by decide) (Or.inr rfl) wt_X3_isLabel w_10 wc_X3_isLabel wd_X3_isLabel (s_if_ne dX0_measureTwo_55 (by decide) (s_goto dX0_measureTwo_58 (by decide) t_X0_measureTwo_114) t_X0_measureTwo_61)))))))))))))))))))
def k_X0_measureTwo_0 (l : Launch) (X : Nat → aw_Kt) (d : Nat) (Q : Option Value → aw_H → Prop) : aw_Kt := o_al 0 (o_cv l d m_X0_startCounts 0 0 (o_al 0 (o_gf 0 1 (o_ic 0 (o_cs l d m_J7_fill_53178 2 (o_ic 0 (o_is 4 (SW l m_X0_measureTwo none X d 0 0 Q 15))))))))
theorem t_X0_measureTwo_0 {l : Launch} {X : Nat → aw_Kt} {d : Nat} {Q : Option Value → aw_H → Prop} : aw_Sn l m_X0_measureTwo none X d 0 0 Q 0 (k_X0_measureTwo_0 l X d Q) := by
  unfold k_X0_measureTwo_0
  exact s_aload_n dX0_measureTwo_0 rfl (s_cv dX0_measureTwo_1 rfl (by decide) w_15 wi_X0_startCounts ws_X0_startCounts w_6 wc_X0_startCounts wd_X0_startCounts (s_aload_n dX0_measureTwo_4 rfl (s_getf dX0_measureTwo_5 rfl u_X0 (by decide) w_5 (s_iconst dX0_measureTwo_8 (by decide) (s_cs dX0_measureTwo_9 (by decide) w_14 wt_J7_fill_53178 w_13 wc_J7_fill_53178 wd_J7_fill_53178 (s_iconst dX0_measureTwo_12 (by decide) (s_istore dX0_measureTwo_13 (by decide) s_stop)))))))
/-! X0_measureAll -/
def k_X0_measureAll_98 (l : Launch) (X : Nat → aw_Kt) (d : Nat) (Q : Option Value → aw_H → Prop) : aw_Kt := o_lc 840 (o_al 0 (o_gf 0 4 (o_i2 (o_lb (fun x y => x * y) (o_ls 4 (o_al 0 (o_gf 0 5 (o_i2 (o_al 0 (o_gf 0 5 (o_i2 (o_lb (fun x y => x * y) (o_ls 6 (o_al 0 (o_gf 0 0 (o_al 0 (o_gf 0 0 (o_cs l d m_X0_sumOfProducts 2 (o_ls 8 (o_al 0 (o_ll 2 (o_ll 6 (o_lb (fun x y => x * y) (o_ll 8 (o_ll 4 (o_lb (fun x y => x * y) (o_lb (fun x y => x - y) (o_ll 4 (o_ll 6 (o_ll 8 (o_lb (fun x y => x - y) (o_lb (fun x y => x * y) (o_cv l d m_X0_setFraction 0 2 (o_rv Q))))))))))))))))))))))))))))))))))
theorem t_X0_measureAll_98 {l : Launch} {X : Nat → aw_Kt} {d : Nat} {Q : Option Value → aw_H → Prop} : aw_Sn l m_X0_measureAll none X d 0 0 Q 98 (k_X0_measureAll_98 l X d Q) := by
  unfold k_X0_measureAll_98
  exact s_ldc2 dX0_measureAll_98 w_16 (s_aload_n dX0_measureAll_101 rfl (s_getf dX0_measureAll_102 rfl u_X0 (by decide) w_2 (s_i2l dX0_measureAll_105 (s_lmul dX0_measureAll_106 (s_lstore dX0_measureAll_107 (by decide) (s_aload_n dX0_measureAll_109 rfl (s_getf dX0_measureAll_110 rfl u_X0 (by decide) w_3 (s_i2l dX0_measureAll_113 (s_aload_n dX0_measureAll_114 rfl (s_getf dX0_measureAll_115 rfl u_X0 (by decide) w_3 (s_i2l dX0_measureAll_118 (s_lmul dX0_measureAll_119 (s_lstore dX0_measureAll_120 (by decide) (s_aload_n dX0_measureAll_122 rfl (s_getf dX0_measureAll_123 rfl u_X0 (by decide) w_4 (s_aload_n dX0_measureAll_126 rfl (s_getf dX0_measureAll_127 rfl u_X0 (by decide) w_4 (s_cs dX0_measureAll_130 (by decide) w_8 wt_X0_sumOfProducts w_6 wc_X0_sumOfProducts wd_X0_sumOfProducts (s_lstore dX0_measureAll_133 (by decide) (s_aload_n dX0_measureAll_135 rfl (s_lload_n dX0_measureAll_136 rfl (s_lload dX0_measureAll_137 (s_lmul dX0_measureAll_139 (s_lload dX0_measureAll_140 (s_lload dX0_measureAll_142 (s_lmul dX0_measureAll_144 (s_lsub dX0_measureAll_145 (s_lload dX0_measureAll_146 (s_lload dX0_measureAll_148 (s_lload dX0_measureAll_150 (s_lsub dX0_measureAll_152 (s_lmul dX0_measureAll_153 (s_cv dX0_measureAll_154 rfl (by decide) w_7 wi_X0_setFraction ws_X0_setFraction w_6 wc_X0_setFraction wd_X0_setFraction (s_vret dX0_measureAll_157 rfl))))))))))))))))))))))))))))))))))
def k_X0_measureAll_92 (l : Launch) (X : Nat → aw_Kt) (d : Nat) (Q : Option Value → aw_H → Prop) : aw_Kt := o_ii 4 1 (SW l m_X0_measureAll none X d 0 0 Q 9)
theorem t_X0_measureAll_92 {l : Launch} {X : Nat → aw_Kt} {d : Nat} {Q : Option Value → aw_H → Prop} : aw_Sn l m_X0_measureAll none X d 0 0 Q 92 (k_X0_measureAll_92 l X d Q) := by
  unfold k_X0_measureAll_92
  exact s_iinc dX0_measureAll_92 (by decide) (by decide) (s_goto dX0_measureAll_95 (by decide) s_stop)
def k_X0_measureAll_35 (l : Launch) (X : Nat → aw_Kt) (d : Nat) (Q : Option Value → aw_H → Prop) : aw_Kt := o_al 0 (o_dp (o_gf 0 4 (o_ic 1 (o_ib (fun x y => x + y) (o_pi 0 4 (o_al 0 (o_dp (o_gf 0 5 (o_il 5 (o_ib (fun x y => x + y) (o_pi 0 5 (o_il 5 (o_il 5 (o_ic 1 (o_ib (fun x y => x - y) (o_ib (fun x y => x * y) (o_ic 2 (o_dv (o_i2 (o_ls 6 (o_ll 2 (o_lc 840 (o_al 1 (o_il 4 (o_cs l d m_X0_likePairs 2 (o_i2 (o_lb (fun x y => x * y) (o_ll 6 (o_ld (o_lb (fun x y => x + y) (o_ls 2 (o_al 0 (o_al 1 (o_il 4 (o_cv l d m_X0_countLabels 0 2 (k_X0_measureAll_92 l X d Q))))))))))))))))))))))))))))))))))))
theorem t_X0_measureAll_35 {l : Launch} {X : Nat → aw_Kt} {d : Nat} {Q : Option Value → aw_H → Prop} : aw_Sn l m_X0_measureAll none X d 0 0 Q 35 (k_X0_measureAll_35 l X d Q) := by
  unfold k_X0_measureAll_35
  exact s_aload_n dX0_measureAll_35 rfl (s_dup dX0_measureAll_36 (s_getf dX0_measureAll_37 rfl u_X0 (by decide) w_2 (s_iconst dX0_measureAll_40 (by decide) (s_iadd dX0_measureAll_41 (s_puti dX0_measureAll_42 rfl u_X0 tyX0_ok nmX0 (by decide) rfl (by decide +kernel) w_2 (s_aload_n dX0_measureAll_45 rfl (s_dup dX0_measureAll_46 (s_getf dX0_measureAll_47 rfl u_X0 (by decide) w_3 (s_iload dX0_measureAll_50 (s_iadd dX0_measureAll_52 (s_puti dX0_measureAll_53 rfl u_X0 tyX0_ok nmX0 (by decide) rfl (by decide +kernel) w_3 (s_iload dX0_measureAll_56 (s_iload dX0_measureAll_58 (s_iconst dX0_measureAll_60 (by decide) (s_isub dX0_measureAll_61 (s_imul dX0_measureAll_62 (s_iconst dX0_measureAll_63 (by decide) (s_idiv dX0_measureAll_64 (s_i2l dX0_measureAll_65 (s_lstore dX0_measureAll_66 (by decide) (s_lload_n dX0_measureAll_68 rfl (s_ldc2 dX0_measureAll_69 w_16 (s_aload_n dX0_measureAll_72 rfl (s_iload dX0_measureAll_73 (s_cs dX0_measureAll_75 (by decide) w_18 wt_X0_likePairs w_6 wc_X0_likePairs wd_X0_likePairs (s_i2l dX0_measureAll_78 (s_lmul dX0_measureAll_79 (s_lload dX0_measureAll_80 (s_ldiv dX0_measureAll_82 (s_ladd dX0_measureAll_83 (s_lstore_n dX0_measureAll_84 rfl (by decide) (s_aload_n dX0_measureAll_85 rfl (s_aload_n dX0_measureAll_86 rfl (s_iload dX0_measureAll_87 (s_cv dX0_measureAll_89 rfl (by decide) w_17 wi_X0_countLabels ws_X0_countLabels w_6 wc_X0_countLabels wd_X0_countLabels t_X0_measureAll_92)))))))))))))))))))))))))))))))))))
def k_X0_measureAll_9 (l : Launch) (X : Nat → aw_Kt) (d : Nat) (Q : Option Value → aw_H → Prop) : aw_Kt := o_il 4 (o_al 1 (o_cv l d m_X2_size 2 0 (o_i3 (fun x y => y ≤ x) (k_X0_measureAll_98 l X d Q) (o_al 1 (o_il 4 (o_cv l d m_X2_givenOn 2 1 (o_is 5 (o_il 5 (o_ic 2 (o_i3 (fun x y => y ≤ x) (k_X0_measureAll_35 l X d Q) (k_X0_measureAll_92 l X d Q)))))))))))
theorem t_X0_measureAll_9 {l : Launch} {X : Nat → aw_Kt} {d : Nat} {Q : Option Value → aw_H → Prop} : aw_Sn l m_X0_measureAll none X d 0 0 Q 9 (k_X0_measureAll_9 l X d Q) := by
  unfold k_X0_measureAll_9
  exact s_iload dX0_measureAll_9 (s_aload_n dX0_measureAll_11 rfl (s_cv dX0_measureAll_12 rfl (by decide) w_12 wi_X2_size ws_X2_size w_9 wc_X2_size wd_X2_size (s_icmp_ge dX0_measureAll_15 (by decide) t_X0_measureAll_98 (s_aload_n dX0_measureAll_18 rfl (s_iload dX0_measureAll_19 (s_cv dX0_measureAll_21 rfl (by decide) w_19 wi_X2_givenOn ws_X2_givenOn w_9 wc_X2_givenOn wd_X2_givenOn (s_istore dX0_measureAll_24 (by decide) (s_iload dX0_measureAll_26 (s_iconst dX0_measureAll_28 (by decide) (s_icmp_ge dX0_measureAll_29 (by decide) t_X0_measureAll_35 (s_goto dX0_measureAll_32 (by decide) t_X0_measureAll_92)))))))))))
def k_X0_measureAll_0 (l : Launch) (X : Nat → aw_Kt) (d : Nat) (Q : Option Value → aw_H → Prop) : aw_Kt := o_al 0 (o_cv l d m_X0_startCounts 0 0 (o_lc 0 (o_ls 2 (o_ic 0 (o_is 4 (SW l m_X0_measureAll none X d 0 0 Q 9))))))
theorem t_X0_measureAll_0 {l : Launch} {X : Nat → aw_Kt} {d : Nat} {Q : Option Value → aw_H → Prop} : aw_Sn l m_X0_measureAll none X d 0 0 Q 0 (k_X0_measureAll_0 l X d Q) := by
  unfold k_X0_measureAll_0
  exact s_aload_n dX0_measureAll_0 rfl (s_cv dX0_measureAll_1 rfl (by decide) w_15 wi_X0_startCounts ws_X0_startCounts w_6 wc_X0_startCounts wd_X0_startCounts (s_lconst dX0_measureAll_4 (by decide) (s_lstore_n dX0_measureAll_5 rfl (by decide) (s_iconst dX0_measureAll_6 (by decide) (s_istore dX0_measureAll_7 (by decide) s_stop)))))
/-! X0_startCounts -/
def k_X0_startCounts_0 (l : Launch) (X : Nat → aw_Kt) (d : Nat) (Q : Option Value → aw_H → Prop) : aw_Kt := o_al 0 (o_gf 0 0 (o_ic 0 (o_cs l d m_J7_fill_53178 2 (o_al 0 (o_ic 0 (o_pi 0 4 (o_al 0 (o_ic 0 (o_pi 0 5 (o_rv Q))))))))))
theorem t_X0_startCounts_0 {l : Launch} {X : Nat → aw_Kt} {d : Nat} {Q : Option Value → aw_H → Prop} : aw_Sn l m_X0_startCounts none X d 0 0 Q 0 (k_X0_startCounts_0 l X d Q) := by
  unfold k_X0_startCounts_0
  exact s_aload_n dX0_startCounts_0 rfl (s_getf dX0_startCounts_1 rfl u_X0 (by decide) w_4 (s_iconst dX0_startCounts_4 (by decide) (s_cs dX0_startCounts_5 (by decide) w_14 wt_J7_fill_53178 w_13 wc_J7_fill_53178 wd_J7_fill_53178 (s_aload_n dX0_startCounts_8 rfl (s_iconst dX0_startCounts_9 (by decide) (s_puti dX0_startCounts_10 rfl u_X0 tyX0_ok nmX0 (by decide) rfl (by decide +kernel) w_2 (s_aload_n dX0_startCounts_13 rfl (s_iconst dX0_startCounts_14 (by decide) (s_puti dX0_startCounts_15 rfl u_X0 tyX0_ok nmX0 (by decide) rfl (by decide +kernel) w_3 (s_vret dX0_startCounts_18 rfl))))))))))
/-! X0_countLabels -/
def k_X0_countLabels_41 (l : Launch) (X : Nat → aw_Kt) (d : Nat) (Q : Option Value → aw_H → Prop) : aw_Kt := o_rv Q
theorem t_X0_countLabels_41 {l : Launch} {X : Nat → aw_Kt} {d : Nat} {Q : Option Value → aw_H → Prop} : aw_Sn l m_X0_countLabels none X d 0 0 Q 41 (k_X0_countLabels_41 l X d Q) := by
  unfold k_X0_countLabels_41
  exact s_vret dX0_countLabels_41 rfl
def k_X0_countLabels_35 (l : Launch) (X : Nat → aw_Kt) (d : Nat) (Q : Option Value → aw_H → Prop) : aw_Kt := o_ii 3 1 (SW l m_X0_countLabels none X d 0 0 Q 2)
theorem t_X0_countLabels_35 {l : Launch} {X : Nat → aw_Kt} {d : Nat} {Q : Option Value → aw_H → Prop} : aw_Sn l m_X0_countLabels none X d 0 0 Q 35 (k_X0_countLabels_35 l X d Q) := by
  unfold k_X0_countLabels_35
  exact s_iinc dX0_countLabels_35 (by decide) (by decide) (s_goto dX0_countLabels_38 (by decide) s_stop)
def k_X0_countLabels_2 (l : Launch) (X : Nat → aw_Kt) (d : Nat) (Q : Option Value → aw_H → Prop) : aw_Kt := o_il 3 (o_ic 8 (o_i3 (fun x y => y ≤ x) (k_X0_countLabels_41 l X d Q) (o_al 1 (o_il 3 (o_il 2 (o_cv l d m_X2_given 2 2 (o_is 4 (o_il 4 (o_cs l d m_X3_isLabel 1 (o_if (fun x => x = 0) (k_X0_countLabels_35 l X d Q) (o_al 0 (o_gf 0 0 (o_il 4 (o_d2 (o_ia 0 (o_ic 1 (o_ib (fun x y => x + y) (o_xa (k_X0_countLabels_35 l X d Q)))))))))))))))))))
theorem t_X0_countLabels_2 {l : Launch} {X : Nat → aw_Kt} {d : Nat} {Q : Option Value → aw_H → Prop} : aw_Sn l m_X0_countLabels none X d 0 0 Q 2 (k_X0_countLabels_2 l X d Q) := by
  unfold k_X0_countLabels_2
  exact s_iload_n dX0_countLabels_2 rfl (s_bipush dX0_countLabels_3 (by decide) (s_icmp_ge dX0_countLabels_5 (by decide) t_X0_countLabels_41 (s_aload_n dX0_countLabels_8 rfl (s_iload_n dX0_countLabels_9 rfl (s_iload_n dX0_countLabels_10 rfl (s_cv dX0_countLabels_11 rfl (by decide) w_11 wi_X2_given ws_X2_given w_9 wc_X2_given wd_X2_given (s_istore dX0_countLabels_14 (by decide) (s_iload dX0_countLabels_16 (s_cn dX0_countLabels_18 (by decide) (Or.inr rfl) wt_X3_isLabel w_10 wc_X3_isLabel wd_X3_isLabel (s_if_eq dX0_countLabels_21 (by decide) t_X0_countLabels_35 (s_aload_n dX0_countLabels_24 rfl (s_getf dX0_countLabels_25 rfl u_X0 (by decide) w_4 (s_iload dX0_countLabels_28 (s_dup2 dX0_countLabels_30 (s_iaload dX0_countLabels_31 (s_iconst dX0_countLabels_32 (by decide) (s_iadd dX0_countLabels_33 (s_iastore dX0_countLabels_34 t_X0_countLabels_35))))))))))))))))))
def k_X0_countLabels_0 (l : Launch) (X : Nat → aw_Kt) (d : Nat) (Q : Option Value → aw_H → Prop) : aw_Kt := o_ic 0 (o_is 3 (SW l m_X0_countLabels none X d 0 0 Q 2))
theorem t_X0_countLabels_0 {l : Launch} {X : Nat → aw_Kt} {d : Nat} {Q : Option Value → aw_H → Prop} : aw_Sn l m_X0_countLabels none X d 0 0 Q 0 (k_X0_countLabels_0 l X d Q) := by
  unfold k_X0_countLabels_0
  exact s_iconst dX0_countLabels_0 (by decide) (s_istore_n dX0_countLabels_1 rfl (by decide) s_stop)
/-! X0_likePairs -/
def k_X0_likePairs_60 (l : Launch) (X : Nat → aw_Kt) (d : Nat) (Q : Option Value → aw_H → Prop) : aw_Kt := o_il 2 (o_ri Q)
theorem t_X0_likePairs_60 {l : Launch} {X : Nat → aw_Kt} {d : Nat} {Q : Option Value → aw_H → Prop} : aw_Sn l m_X0_likePairs none X d 0 0 Q 60 (k_X0_likePairs_60 l X d Q) := by
  unfold k_X0_likePairs_60
  exact s_iload_n dX0_likePairs_60 rfl (s_iret dX0_likePairs_61 rfl)
def k_X0_likePairs_54 (l : Launch) (X : Nat → aw_Kt) (d : Nat) (Q : Option Value → aw_H → Prop) : aw_Kt := o_ii 3 1 (SW l m_X0_likePairs none X d 0 0 Q 4)
theorem t_X0_likePairs_54 {l : Launch} {X : Nat → aw_Kt} {d : Nat} {Q : Option Value → aw_H → Prop} : aw_Sn l m_X0_likePairs none X d 0 0 Q 54 (k_X0_likePairs_54 l X d Q) := by
  unfold k_X0_likePairs_54
  exact s_iinc dX0_likePairs_54 (by decide) (by decide) (s_goto dX0_likePairs_57 (by decide) s_stop)
def k_X0_likePairs_48 (l : Launch) (X : Nat → aw_Kt) (d : Nat) (Q : Option Value → aw_H → Prop) : aw_Kt := o_ii 5 1 (SW l m_X0_likePairs none X d 0 0 Q 21)
theorem t_X0_likePairs_48 {l : Launch} {X : Nat → aw_Kt} {d : Nat} {Q : Option Value → aw_H → Prop} : aw_Sn l m_X0_likePairs none X d 0 0 Q 48 (k_X0_likePairs_48 l X d Q) := by
  unfold k_X0_likePairs_48
  exact s_iinc dX0_likePairs_48 (by decide) (by decide) (s_goto dX0_likePairs_51 (by decide) s_stop)
def k_X0_likePairs_21 (l : Launch) (X : Nat → aw_Kt) (d : Nat) (Q : Option Value → aw_H → Prop) : aw_Kt := o_il 5 (o_il 3 (o_i3 (fun x y => y ≤ x) (k_X0_likePairs_54 l X d Q) (o_il 4 (o_ic (-1) (o_i3 (fun x y => x = y) (k_X0_likePairs_48 l X d Q) (o_il 4 (o_al 0 (o_il 5 (o_il 1 (o_cv l d m_X2_given 2 2 (o_i3 (fun x y => x = y) (o_ii 2 1 (k_X0_likePairs_48 l X d Q)) (k_X0_likePairs_48 l X d Q))))))))))))
theorem t_X0_likePairs_21 {l : Launch} {X : Nat → aw_Kt} {d : Nat} {Q : Option Value → aw_H → Prop} : aw_Sn l m_X0_likePairs none X d 0 0 Q 21 (k_X0_likePairs_21 l X d Q) := by
  unfold k_X0_likePairs_21
  exact s_iload dX0_likePairs_21 (s_iload_n dX0_likePairs_23 rfl (s_icmp_ge dX0_likePairs_24 (by decide) t_X0_likePairs_54 (s_iload dX0_likePairs_27 (s_iconst dX0_likePairs_29 (by decide) (s_icmp_eq dX0_likePairs_30 (by decide) t_X0_likePairs_48 (s_iload dX0_likePairs_33 (s_aload_n dX0_likePairs_35 rfl (s_iload dX0_likePairs_36 (s_iload_n dX0_likePairs_38 rfl (s_cv dX0_likePairs_39 rfl (by decide) w_11 wi_X2_given ws_X2_given w_9 wc_X2_given wd_X2_given (s_icmp_ne dX0_likePairs_42 (by decide) (s_iinc dX0_likePairs_45 (by decide) (by decide) t_X0_likePairs_48) t_X0_likePairs_48)))))))))))
def k_X0_likePairs_4 (l : Launch) (X : Nat → aw_Kt) (d : Nat) (Q : Option Value → aw_H → Prop) : aw_Kt := o_il 3 (o_ic 8 (o_i3 (fun x y => y ≤ x) (k_X0_likePairs_60 l X d Q) (o_al 0 (o_il 3 (o_il 1 (o_cv l d m_X2_given 2 2 (o_is 4 (o_ic 0 (o_is 5 (SW l m_X0_likePairs none X d 0 0 Q 21))))))))))
theorem t_X0_likePairs_4 {l : Launch} {X : Nat → aw_Kt} {d : Nat} {Q : Option Value → aw_H → Prop} : aw_Sn l m_X0_likePairs none X d 0 0 Q 4 (k_X0_likePairs_4 l X d Q) := by
  unfold k_X0_likePairs_4
  exact s_iload_n dX0_likePairs_4 rfl (s_bipush dX0_likePairs_5 (by decide) (s_icmp_ge dX0_likePairs_7 (by decide) t_X0_likePairs_60 (s_aload_n dX0_likePairs_10 rfl (s_iload_n dX0_likePairs_11 rfl (s_iload_n dX0_likePairs_12 rfl (s_cv dX0_likePairs_13 rfl (by decide) w_11 wi_X2_given ws_X2_given w_9 wc_X2_given wd_X2_given (s_istore dX0_likePairs_16 (by decide) (s_iconst dX0_likePairs_18 (by decide) (s_istore dX0_likePairs_19 (by decide) s_stop)))))))))
def k_X0_likePairs_0 (l : Launch) (X : Nat → aw_Kt) (d : Nat) (Q : Option Value → aw_H → Prop) : aw_Kt := o_ic 0 (o_is 2 (o_ic 0 (o_is 3 (SW l m_X0_likePairs none X d 0 0 Q 4))))
theorem t_X0_likePairs_0 {l : Launch} {X : Nat → aw_Kt} {d : Nat} {Q : Option Value → aw_H → Prop} : aw_Sn l m_X0_likePairs none X d 0 0 Q 0 (k_X0_likePairs_0 l X d Q) := by
  unfold k_X0_likePairs_0
  exact s_iconst dX0_likePairs_0 (by decide) (s_istore_n dX0_likePairs_1 rfl (by decide) (s_iconst dX0_likePairs_2 (by decide) (s_istore_n dX0_likePairs_3 rfl (by decide) s_stop)))
/-! X0_sumOfProducts -/
def k_X0_sumOfProducts_31 (l : Launch) (X : Nat → aw_Kt) (d : Nat) (Q : Option Value → aw_H → Prop) : aw_Kt := o_ll 2 (o_rl Q)
theorem t_X0_sumOfProducts_31 {l : Launch} {X : Nat → aw_Kt} {d : Nat} {Q : Option Value → aw_H → Prop} : aw_Sn l m_X0_sumOfProducts none X d 0 0 Q 31 (k_X0_sumOfProducts_31 l X d Q) := by
  unfold k_X0_sumOfProducts_31
  exact s_lload_n dX0_sumOfProducts_31 rfl (s_lret dX0_sumOfProducts_32 rfl)
def k_X0_sumOfProducts_5 (l : Launch) (X : Nat → aw_Kt) (d : Nat) (Q : Option Value → aw_H → Prop) : aw_Kt := o_il 4 (o_ic 5 (o_i3 (fun x y => y ≤ x) (k_X0_sumOfProducts_31 l X d Q) (o_ll 2 (o_al 0 (o_il 4 (o_ia 0 (o_i2 (o_al 1 (o_il 4 (o_ia 0 (o_i2 (o_lb (fun x y => x * y) (o_lb (fun x y => x + y) (o_ls 2 (o_ii 4 1 (SW l m_X0_sumOfProducts none X d 0 0 Q 5))))))))))))))))
theorem t_X0_sumOfProducts_5 {l : Launch} {X : Nat → aw_Kt} {d : Nat} {Q : Option Value → aw_H → Prop} : aw_Sn l m_X0_sumOfProducts none X d 0 0 Q 5 (k_X0_sumOfProducts_5 l X d Q) := by
  unfold k_X0_sumOfProducts_5
  exact s_iload dX0_sumOfProducts_5 (s_iconst dX0_sumOfProducts_7 (by decide) (s_icmp_ge dX0_sumOfProducts_8 (by decide) t_X0_sumOfProducts_31 (s_lload_n dX0_sumOfProducts_11 rfl (s_aload_n dX0_sumOfProducts_12 rfl (s_iload dX0_sumOfProducts_13 (s_iaload dX0_sumOfProducts_15 (s_i2l dX0_sumOfProducts_16 (s_aload_n dX0_sumOfProducts_17 rfl (s_iload dX0_sumOfProducts_18 (s_iaload dX0_sumOfProducts_20 (s_i2l dX0_sumOfProducts_21 (s_lmul dX0_sumOfProducts_22 (s_ladd dX0_sumOfProducts_23 (s_lstore_n dX0_sumOfProducts_24 rfl (by decide) (s_iinc dX0_sumOfProducts_25 (by decide) (by decide) (s_goto dX0_sumOfProducts_28 (by decide) s_stop))))))))))))))))
def k_X0_sumOfProducts_0 (l : Launch) (X : Nat → aw_Kt) (d : Nat) (Q : Option Value → aw_H → Prop) : aw_Kt := o_lc 0 (o_ls 2 (o_ic 0 (o_is 4 (SW l m_X0_sumOfProducts none X d 0 0 Q 5))))
theorem t_X0_sumOfProducts_0 {l : Launch} {X : Nat → aw_Kt} {d : Nat} {Q : Option Value → aw_H → Prop} : aw_Sn l m_X0_sumOfProducts none X d 0 0 Q 0 (k_X0_sumOfProducts_0 l X d Q) := by
  unfold k_X0_sumOfProducts_0
  exact s_lconst dX0_sumOfProducts_0 (by decide) (s_lstore_n dX0_sumOfProducts_1 rfl (by decide) (s_iconst dX0_sumOfProducts_2 (by decide) (s_istore dX0_sumOfProducts_3 (by decide) s_stop)))
/-! X0_setFraction -/
def k_X0_setFraction_28 (l : Launch) (X : Nat → aw_Kt) (d : Nat) (Q : Option Value → aw_H → Prop) : aw_Kt := o_al 0 (o_ll 1 (o_ll 5 (o_ld (o_pl 0 2 (o_al 0 (o_ll 3 (o_ll 5 (o_ld (o_pl 0 3 (o_rv Q))))))))))
theorem t_X0_setFraction_28 {l : Launch} {X : Nat → aw_Kt} {d : Nat} {Q : Option Value → aw_H → Prop} : aw_Sn l m_X0_setFraction none X d 0 0 Q 28 (k_X0_setFraction_28 l X d Q) := by
  unfold k_X0_setFraction_28
  exact s_aload_n dX0_setFraction_28 rfl (s_lload_n dX0_setFraction_29 rfl (s_lload dX0_setFraction_30 (s_ldiv dX0_setFraction_32 (s_putl dX0_setFraction_33 rfl u_X0 tyX0_ok nmX0 (by decide) rfl (by decide +kernel) w_0 (s_aload_n dX0_setFraction_36 rfl (s_lload_n dX0_setFraction_37 rfl (s_lload dX0_setFraction_38 (s_ldiv dX0_setFraction_40 (s_putl dX0_setFraction_41 rfl u_X0 tyX0_ok nmX0 (by decide) rfl (by decide +kernel) w_1 (s_vret dX0_setFraction_44 rfl))))))))))
def k_X0_setFraction_12 (l : Launch) (X : Nat → aw_Kt) (d : Nat) (Q : Option Value → aw_H → Prop) : aw_Kt := o_ll 3 (o_cs l d m_X0_commonDivisor 2 (o_ls 5 (o_ll 5 (o_lc 0 (o_cm (o_if (fun x => x = 0) (o_lc 1 (o_ls 5 (k_X0_setFraction_28 l X d Q))) (k_X0_setFraction_28 l X d Q)))))))
theorem t_X0_setFraction_12 {l : Launch} {X : Nat → aw_Kt} {d : Nat} {Q : Option Value → aw_H → Prop} : aw_Sn l m_X0_setFraction none X d 0 0 Q 12 (k_X0_setFraction_12 l X d Q) := by
  unfold k_X0_setFraction_12
  exact s_lload_n dX0_setFraction_12 rfl (s_cs dX0_setFraction_13 (by decide) w_20 wt_X0_commonDivisor w_6 wc_X0_commonDivisor wd_X0_commonDivisor (s_lstore dX0_setFraction_16 (by decide) (s_lload dX0_setFraction_18 (s_lconst dX0_setFraction_20 (by decide) (s_lcmp dX0_setFraction_21 (s_if_ne dX0_setFraction_22 (by decide) (s_lconst dX0_setFraction_25 (by decide) (s_lstore dX0_setFraction_26 (by decide) t_X0_setFraction_28)) t_X0_setFraction_28))))))
def k_X0_setFraction_11 (l : Launch) (X : Nat → aw_Kt) (d : Nat) (Q : Option Value → aw_H → Prop) : aw_Kt := o_ll 1 (k_X0_setFraction_12 l X d Q)
theorem t_X0_setFraction_11 {l : Launch} {X : Nat → aw_Kt} {d : Nat} {Q : Option Value → aw_H → Prop} : aw_Sn l m_X0_setFraction none X d 0 0 Q 11 (k_X0_setFraction_11 l X d Q) := by
  unfold k_X0_setFraction_11
  exact s_lload_n dX0_setFraction_11 rfl t_X0_setFraction_12
def k_X0_setFraction_0 (l : Launch) (X : Nat → aw_Kt) (d : Nat) (Q : Option Value → aw_H → Prop) : aw_Kt := o_ll 1 (o_lc 0 (o_cm (o_if (fun x => 0 ≤ x) (k_X0_setFraction_11 l X d Q) (o_ll 1 (o_ln (k_X0_setFraction_12 l X d Q))))))
theorem t_X0_setFraction_0 {l : Launch} {X : Nat → aw_Kt} {d : Nat} {Q : Option Value → aw_H → Prop} : aw_Sn l m_X0_setFraction none X d 0 0 Q 0 (k_X0_setFraction_0 l X d Q) := by
  unfold k_X0_setFraction_0
  exact s_lload_n dX0_setFraction_0 rfl (s_lconst dX0_setFraction_1 (by decide) (s_lcmp dX0_setFraction_2 (s_if_ge dX0_setFraction_3 (by decide) t_X0_setFraction_11 (s_lload_n dX0_setFraction_6 rfl (s_lneg dX0_setFraction_7 (s_goto dX0_setFraction_8 (by decide) t_X0_setFraction_12))))))
/-! X0_commonDivisor -/
def k_X0_commonDivisor_45 (l : Launch) (X : Nat → aw_Kt) (d : Nat) (Q : Option Value → aw_H → Prop) : aw_Kt := o_ll 4 (o_rl Q)
theorem t_X0_commonDivisor_45 {l : Launch} {X : Nat → aw_Kt} {d : Nat} {Q : Option Value → aw_H → Prop} : aw_Sn l m_X0_commonDivisor none X d 0 0 Q 45 (k_X0_commonDivisor_45 l X d Q) := by
  unfold k_X0_commonDivisor_45
  exact s_lload dX0_commonDivisor_45 (s_lret dX0_commonDivisor_47 rfl)
def k_X0_commonDivisor_9 (l : Launch) (X : Nat → aw_Kt) (d : Nat) (Q : Option Value → aw_H → Prop) : aw_Kt := o_il 8 (o_ic 200 (o_i3 (fun x y => y ≤ x) (k_X0_commonDivisor_45 l X d Q) (o_ll 6 (o_lc 0 (o_cm (o_if (fun x => x = 0) (k_X0_commonDivisor_45 l X d Q) (o_ll 4 (o_ll 6 (o_lr (o_ls 9 (o_ll 6 (o_ls 4 (o_ll 9 (o_ls 6 (o_ii 8 1 (SW l m_X0_commonDivisor none X d 0 0 Q 9))))))))))))))))
theorem t_X0_commonDivisor_9 {l : Launch} {X : Nat → aw_Kt} {d : Nat} {Q : Option Value → aw_H → Prop} : aw_Sn l m_X0_commonDivisor none X d 0 0 Q 9 (k_X0_commonDivisor_9 l X d Q) := by
  unfold k_X0_commonDivisor_9
  exact s_iload dX0_commonDivisor_9 (s_sipush dX0_commonDivisor_11 (by decide) (s_icmp_ge dX0_commonDivisor_14 (by decide) t_X0_commonDivisor_45 (s_lload dX0_commonDivisor_17 (s_lconst dX0_commonDivisor_19 (by decide) (s_lcmp dX0_commonDivisor_20 (s_if_eq dX0_commonDivisor_21 (by decide) t_X0_commonDivisor_45 (s_lload dX0_commonDivisor_24 (s_lload dX0_commonDivisor_26 (s_lrem dX0_commonDivisor_28 (s_lstore dX0_commonDivisor_29 (by decide) (s_lload dX0_commonDivisor_31 (s_lstore dX0_commonDivisor_33 (by decide) (s_lload dX0_commonDivisor_35 (s_lstore dX0_commonDivisor_37 (by decide) (s_iinc dX0_commonDivisor_39 (by decide) (by decide) (s_goto dX0_commonDivisor_42 (by decide) s_stop))))))))))))))))
def k_X0_commonDivisor_0 (l : Launch) (X : Nat → aw_Kt) (d : Nat) (Q : Option Value → aw_H → Prop) : aw_Kt := o_ll 0 (o_ls 4 (o_ll 2 (o_ls 6 (o_ic 0 (o_is 8 (SW l m_X0_commonDivisor none X d 0 0 Q 9))))))
theorem t_X0_commonDivisor_0 {l : Launch} {X : Nat → aw_Kt} {d : Nat} {Q : Option Value → aw_H → Prop} : aw_Sn l m_X0_commonDivisor none X d 0 0 Q 0 (k_X0_commonDivisor_0 l X d Q) := by
  unfold k_X0_commonDivisor_0
  exact s_lload_n dX0_commonDivisor_0 rfl (s_lstore dX0_commonDivisor_1 (by decide) (s_lload_n dX0_commonDivisor_3 rfl (s_lstore dX0_commonDivisor_4 (by decide) (s_iconst dX0_commonDivisor_6 (by decide) (s_istore dX0_commonDivisor_7 (by decide) s_stop)))))
/-! X1_size -/
def k_X1_size_0 (l : Launch) (X : Nat → aw_Kt) (d : Nat) (Q : Option Value → aw_H → Prop) : aw_Kt := o_al 0 (o_gf 1 6 (o_ri Q))
theorem t_X1_size_0 {l : Launch} {X : Nat → aw_Kt} {d : Nat} {Q : Option Value → aw_H → Prop} : aw_Sn l m_X1_size none X d 0 0 Q 0 (k_X1_size_0 l X d Q) := by
  unfold k_X1_size_0
  exact s_aload_n dX1_size_0 rfl (s_getf dX1_size_1 rfl u_X1 (by decide) w_21 (s_iret dX1_size_4 rfl))
/-! X1_hasRule -/
def k_X1_hasRule_17 (l : Launch) (X : Nat → aw_Kt) (d : Nat) (Q : Option Value → aw_H → Prop) : aw_Kt := o_rz Q
theorem t_X1_hasRule_17 {l : Launch} {X : Nat → aw_Kt} {d : Nat} {Q : Option Value → aw_H → Prop} : aw_Sn l m_X1_hasRule none X d 0 0 Q 17 (k_X1_hasRule_17 l X d Q) := by
  unfold k_X1_hasRule_17
  exact s_zret dX1_hasRule_17 rfl
def k_X1_hasRule_16 (l : Launch) (X : Nat → aw_Kt) (d : Nat) (Q : Option Value → aw_H → Prop) : aw_Kt := o_ic 0 (k_X1_hasRule_17 l X d Q)
theorem t_X1_hasRule_16 {l : Launch} {X : Nat → aw_Kt} {d : Nat} {Q : Option Value → aw_H → Prop} : aw_Sn l m_X1_hasRule none X d 0 0 Q 16 (k_X1_hasRule_16 l X d Q) := by
  unfold k_X1_hasRule_16
  exact s_iconst dX1_hasRule_16 (by decide) t_X1_hasRule_17
def k_X1_hasRule_0 (l : Launch) (X : Nat → aw_Kt) (d : Nat) (Q : Option Value → aw_H → Prop) : aw_Kt := o_il 1 (o_if (fun x => x < 0) (k_X1_hasRule_16 l X d Q) (o_il 1 (o_al 0 (o_gf 1 6 (o_i3 (fun x y => y ≤ x) (k_X1_hasRule_16 l X d Q) (o_ic 1 (k_X1_hasRule_17 l X d Q)))))))
theorem t_X1_hasRule_0 {l : Launch} {X : Nat → aw_Kt} {d : Nat} {Q : Option Value → aw_H → Prop} : aw_Sn l m_X1_hasRule none X d 0 0 Q 0 (k_X1_hasRule_0 l X d Q) := by
  unfold k_X1_hasRule_0
  exact s_iload_n dX1_hasRule_0 rfl (s_if_lt dX1_hasRule_1 (by decide) t_X1_hasRule_16 (s_iload_n dX1_hasRule_4 rfl (s_aload_n dX1_hasRule_5 rfl (s_getf dX1_hasRule_6 rfl u_X1 (by decide) w_21 (s_icmp_ge dX1_hasRule_9 (by decide) t_X1_hasRule_16 (s_iconst dX1_hasRule_12 (by decide) (s_goto dX1_hasRule_13 (by decide) t_X1_hasRule_17)))))))
/-! X1_addRule -/
def k_X1_addRule_12 (l : Launch) (X : Nat → aw_Kt) (d : Nat) (Q : Option Value → aw_H → Prop) : aw_Kt := o_al 0 (o_gf 1 0 (o_al 0 (o_gf 1 6 (o_il 1 (o_xa (o_al 0 (o_gf 1 1 (o_al 0 (o_gf 1 6 (o_il 2 (o_xa (o_al 0 (o_gf 1 2 (o_al 0 (o_gf 1 6 (o_il 3 (o_xa (o_al 0 (o_gf 1 3 (o_al 0 (o_gf 1 6 (o_il 4 (o_xa (o_al 0 (o_gf 1 4 (o_al 0 (o_gf 1 6 (o_ic 1 (o_zs (o_al 0 (o_dp (o_gf 1 6 (o_d1 (o_ic 1 (o_ib (fun x y => x + y) (o_pi 1 6 (o_ri Q)))))))))))))))))))))))))))))))))))))
theorem t_X1_addRule_12 {l : Launch} {X : Nat → aw_Kt} {d : Nat} {Q : Option Value → aw_H → Prop} : aw_Sn l m_X1_addRule none X d 0 0 Q 12 (k_X1_addRule_12 l X d Q) := by
  unfold k_X1_addRule_12
  exact s_aload_n dX1_addRule_12 rfl (s_getf dX1_addRule_13 rfl u_X1 (by decide) w_22 (s_aload_n dX1_addRule_16 rfl (s_getf dX1_addRule_17 rfl u_X1 (by decide) w_21 (s_iload_n dX1_addRule_20 rfl (s_iastore dX1_addRule_21 (s_aload_n dX1_addRule_22 rfl (s_getf dX1_addRule_23 rfl u_X1 (by decide) w_23 (s_aload_n dX1_addRule_26 rfl (s_getf dX1_addRule_27 rfl u_X1 (by decide) w_21 (s_iload_n dX1_addRule_30 rfl (s_iastore dX1_addRule_31 (s_aload_n dX1_addRule_32 rfl (s_getf dX1_addRule_33 rfl u_X1 (by decide) w_24 (s_aload_n dX1_addRule_36 rfl (s_getf dX1_addRule_37 rfl u_X1 (by decide) w_21 (s_iload_n dX1_addRule_40 rfl (s_iastore dX1_addRule_41 (s_aload_n dX1_addRule_42 rfl (s_getf dX1_addRule_43 rfl u_X1 (by decide) w_25 (s_aload_n dX1_addRule_46 rfl (s_getf dX1_addRule_47 rfl u_X1 (by decide) w_21 (s_iload dX1_addRule_50 (s_iastore dX1_addRule_52 (s_aload_n dX1_addRule_53 rfl (s_getf dX1_addRule_54 rfl u_X1 (by decide) w_26 (s_aload_n dX1_addRule_57 rfl (s_getf dX1_addRule_58 rfl u_X1 (by decide) w_21 (s_iconst dX1_addRule_61 (by decide) (s_bastore dX1_addRule_62 (s_aload_n dX1_addRule_63 rfl (s_dup dX1_addRule_64 (s_getf dX1_addRule_65 rfl u_X1 (by decide) w_21 (s_dup_x1 dX1_addRule_68 (s_iconst dX1_addRule_69 (by decide) (s_iadd dX1_addRule_70 (s_puti dX1_addRule_71 rfl u_X1 tyX1_ok nmX1 (by decide) rfl (by decide +kernel) w_21 (s_iret dX1_addRule_74 rfl)))))))))))))))))))))))))))))))))))))
def k_X1_addRule_0 (l : Launch) (X : Nat → aw_Kt) (d : Nat) (Q : Option Value → aw_H → Prop) : aw_Kt := o_al 0 (o_gf 1 6 (o_ic 6 (o_i3 (fun x y => x < y) (k_X1_addRule_12 l X d Q) (o_ic (-104) (o_ri Q)))))
theorem t_X1_addRule_0 {l : Launch} {X : Nat → aw_Kt} {d : Nat} {Q : Option Value → aw_H → Prop} : aw_Sn l m_X1_addRule none X d 0 0 Q 0 (k_X1_addRule_0 l X d Q) := by
  unfold k_X1_addRule_0
  exact s_aload_n dX1_addRule_0 rfl (s_getf dX1_addRule_1 rfl u_X1 (by decide) w_21 (s_bipush dX1_addRule_4 (by decide) (s_icmp_lt dX1_addRule_6 (by decide) t_X1_addRule_12 (s_bipush dX1_addRule_9 (by decide) (s_iret dX1_addRule_11 rfl)))))
/-! X1_isOn -/
def k_X1_isOn_0 (l : Launch) (X : Nat → aw_Kt) (d : Nat) (Q : Option Value → aw_H → Prop) : aw_Kt := o_al 0 (o_gf 1 4 (o_il 1 (o_ia 1 (o_rz Q))))
theorem t_X1_isOn_0 {l : Launch} {X : Nat → aw_Kt} {d : Nat} {Q : Option Value → aw_H → Prop} : aw_Sn l m_X1_isOn none X d 0 0 Q 0 (k_X1_isOn_0 l X d Q) := by
  unfold k_X1_isOn_0
  exact s_aload_n dX1_isOn_0 rfl (s_getf dX1_isOn_1 rfl u_X1 (by decide) w_26 (s_iload_n dX1_isOn_4 rfl (s_baload dX1_isOn_5 (s_zret dX1_isOn_6 rfl))))
/-! X1_setOn -/
def k_X1_setOn_0 (l : Launch) (X : Nat → aw_Kt) (d : Nat) (Q : Option Value → aw_H → Prop) : aw_Kt := o_al 0 (o_gf 1 4 (o_il 1 (o_il 2 (o_zs (o_rv Q)))))
theorem t_X1_setOn_0 {l : Launch} {X : Nat → aw_Kt} {d : Nat} {Q : Option Value → aw_H → Prop} : aw_Sn l m_X1_setOn none X d 0 0 Q 0 (k_X1_setOn_0 l X d Q) := by
  unfold k_X1_setOn_0
  exact s_aload_n dX1_setOn_0 rfl (s_getf dX1_setOn_1 rfl u_X1 (by decide) w_26 (s_iload_n dX1_setOn_4 rfl (s_iload_n dX1_setOn_5 rfl (s_bastore dX1_setOn_6 (s_vret dX1_setOn_7 rfl)))))
/-! X1_replace -/
def k_X1_replace_0 (l : Launch) (X : Nat → aw_Kt) (d : Nat) (Q : Option Value → aw_H → Prop) : aw_Kt := o_al 0 (o_gf 1 5 (o_il 1 (o_ia 0 (o_is 3 (o_al 0 (o_gf 1 5 (o_il 1 (o_il 2 (o_xa (o_il 3 (o_ri Q)))))))))))
theorem t_X1_replace_0 {l : Launch} {X : Nat → aw_Kt} {d : Nat} {Q : Option Value → aw_H → Prop} : aw_Sn l m_X1_replace none X d 0 0 Q 0 (k_X1_replace_0 l X d Q) := by
  unfold k_X1_replace_0
  exact s_aload_n dX1_replace_0 rfl (s_getf dX1_replace_1 rfl u_X1 (by decide) w_27 (s_iload_n dX1_replace_4 rfl (s_iaload dX1_replace_5 (s_istore_n dX1_replace_6 rfl (by decide) (s_aload_n dX1_replace_7 rfl (s_getf dX1_replace_8 rfl u_X1 (by decide) w_27 (s_iload_n dX1_replace_11 rfl (s_iload_n dX1_replace_12 rfl (s_iastore dX1_replace_13 (s_iload_n dX1_replace_14 rfl (s_iret dX1_replace_15 rfl)))))))))))
/-! X1_wordOn -/
def k_X1_wordOn_152 (l : Launch) (X : Nat → aw_Kt) (d : Nat) (Q : Option Value → aw_H → Prop) : aw_Kt := o_ri Q
theorem t_X1_wordOn_152 {l : Launch} {X : Nat → aw_Kt} {d : Nat} {Q : Option Value → aw_H → Prop} : aw_Sn l m_X1_wordOn none X d 0 0 Q 152 (k_X1_wordOn_152 l X d Q) := by
  unfold k_X1_wordOn_152
  exact s_iret dX1_wordOn_152 rfl
def k_X1_wordOn_151 (l : Launch) (X : Nat → aw_Kt) (d : Nat) (Q : Option Value → aw_H → Prop) : aw_Kt := o_ic 1 (k_X1_wordOn_152 l X d Q)
theorem t_X1_wordOn_151 {l : Launch} {X : Nat → aw_Kt} {d : Nat} {Q : Option Value → aw_H → Prop} : aw_Sn l m_X1_wordOn none X d 0 0 Q 151 (k_X1_wordOn_151 l X d Q) := by
  unfold k_X1_wordOn_151
  exact s_iconst dX1_wordOn_151 (by decide) t_X1_wordOn_152
def k_X1_wordOn_136 (l : Launch) (X : Nat → aw_Kt) (d : Nat) (Q : Option Value → aw_H → Prop) : aw_Kt := o_il 4 (o_al 0 (o_gf 1 3 (o_il 1 (o_ia 0 (o_i3 (fun x y => y ≤ x) (k_X1_wordOn_151 l X d Q) (o_ic 0 (k_X1_wordOn_152 l X d Q)))))))
theorem t_X1_wordOn_136 {l : Launch} {X : Nat → aw_Kt} {d : Nat} {Q : Option Value → aw_H → Prop} : aw_Sn l m_X1_wordOn none X d 0 0 Q 136 (k_X1_wordOn_136 l X d Q) := by
  unfold k_X1_wordOn_136
  exact s_iload dX1_wordOn_136 (s_aload_n dX1_wordOn_138 rfl (s_getf dX1_wordOn_139 rfl u_X1 (by decide) w_25 (s_iload_n dX1_wordOn_142 rfl (s_iaload dX1_wordOn_143 (s_icmp_ge dX1_wordOn_144 (by decide) t_X1_wordOn_151 (s_iconst dX1_wordOn_147 (by decide) (s_goto dX1_wordOn_148 (by decide) t_X1_wordOn_152)))))))
def k_X1_wordOn_135 (l : Launch) (X : Nat → aw_Kt) (d : Nat) (Q : Option Value → aw_H → Prop) : aw_Kt := o_ri Q
theorem t_X1_wordOn_135 {l : Launch} {X : Nat → aw_Kt} {d : Nat} {Q : Option Value → aw_H → Prop} : aw_Sn l m_X1_wordOn none X d 0 0 Q 135 (k_X1_wordOn_135 l X d Q) := by
  unfold k_X1_wordOn_135
  exact s_iret dX1_wordOn_135 rfl
def k_X1_wordOn_133 (l : Launch) (X : Nat → aw_Kt) (d : Nat) (Q : Option Value → aw_H → Prop) : aw_Kt := o_ic (-3) (k_X1_wordOn_135 l X d Q)
theorem t_X1_wordOn_133 {l : Launch} {X : Nat → aw_Kt} {d : Nat} {Q : Option Value → aw_H → Prop} : aw_Sn l m_X1_wordOn none X d 0 0 Q 133 (k_X1_wordOn_133 l X d Q) := by
  unfold k_X1_wordOn_133
  exact s_bipush dX1_wordOn_133 (by decide) t_X1_wordOn_135
def k_X1_wordOn_100 (l : Launch) (X : Nat → aw_Kt) (d : Nat) (Q : Option Value → aw_H → Prop) : aw_Kt := o_il 4 (o_al 0 (o_gf 1 3 (o_il 1 (o_ia 0 (o_ib (fun x y => x + y) (o_is 6 (o_il 6 (o_cs l d m_X3_isPlace 1 (o_if (fun x => x = 0) (k_X1_wordOn_133 l X d Q) (o_al 0 (o_gf 1 5 (o_il 6 (o_ia 0 (o_ic 5 (o_cs l d m_J9_floorMod_7cf53 2 (k_X1_wordOn_135 l X d Q))))))))))))))))
theorem t_X1_wordOn_100 {l : Launch} {X : Nat → aw_Kt} {d : Nat} {Q : Option Value → aw_H → Prop} : aw_Sn l m_X1_wordOn none X d 0 0 Q 100 (k_X1_wordOn_100 l X d Q) := by
  unfold k_X1_wordOn_100
  exact s_iload dX1_wordOn_100 (s_aload_n dX1_wordOn_102 rfl (s_getf dX1_wordOn_103 rfl u_X1 (by decide) w_25 (s_iload_n dX1_wordOn_106 rfl (s_iaload dX1_wordOn_107 (s_iadd dX1_wordOn_108 (s_istore dX1_wordOn_109 (by decide) (s_iload dX1_wordOn_111 (s_cn dX1_wordOn_113 (by decide) (Or.inl rfl) wt_X3_isPlace w_10 wc_X3_isPlace wd_X3_isPlace (s_if_eq dX1_wordOn_116 (by decide) t_X1_wordOn_133 (s_aload_n dX1_wordOn_119 rfl (s_getf dX1_wordOn_120 rfl u_X1 (by decide) w_27 (s_iload dX1_wordOn_123 (s_iaload dX1_wordOn_125 (s_iconst dX1_wordOn_126 (by decide) (s_cs dX1_wordOn_127 (by decide) w_29 wt_J9_floorMod_7cf53 w_28 wc_J9_floorMod_7cf53 wd_J9_floorMod_7cf53 (s_goto dX1_wordOn_130 (by decide) t_X1_wordOn_135))))))))))))))))
def k_X1_wordOn_99 (l : Launch) (X : Nat → aw_Kt) (d : Nat) (Q : Option Value → aw_H → Prop) : aw_Kt := o_ri Q
theorem t_X1_wordOn_99 {l : Launch} {X : Nat → aw_Kt} {d : Nat} {Q : Option Value → aw_H → Prop} : aw_Sn l m_X1_wordOn none X d 0 0 Q 99 (k_X1_wordOn_99 l X d Q) := by
  unfold k_X1_wordOn_99
  exact s_iret dX1_wordOn_99 rfl
def k_X1_wordOn_90 (l : Launch) (X : Nat → aw_Kt) (d : Nat) (Q : Option Value → aw_H → Prop) : aw_Kt := o_il 4 (o_il 5 (o_rm (o_ic 5 (o_cs l d m_J9_floorMod_7cf53 2 (k_X1_wordOn_99 l X d Q)))))
theorem t_X1_wordOn_90 {l : Launch} {X : Nat → aw_Kt} {d : Nat} {Q : Option Value → aw_H → Prop} : aw_Sn l m_X1_wordOn none X d 0 0 Q 90 (k_X1_wordOn_90 l X d Q) := by
  unfold k_X1_wordOn_90
  exact s_iload dX1_wordOn_90 (s_iload dX1_wordOn_92 (s_irem dX1_wordOn_94 (s_iconst dX1_wordOn_95 (by decide) (s_cs dX1_wordOn_96 (by decide) w_29 wt_J9_floorMod_7cf53 w_28 wc_J9_floorMod_7cf53 wd_J9_floorMod_7cf53 t_X1_wordOn_99))))
def k_X1_wordOn_80 (l : Launch) (X : Nat → aw_Kt) (d : Nat) (Q : Option Value → aw_H → Prop) : aw_Kt := o_il 5 (o_if (fun x => x = 0) (o_ic (-2) (k_X1_wordOn_99 l X d Q)) (k_X1_wordOn_90 l X d Q))
theorem t_X1_wordOn_80 {l : Launch} {X : Nat → aw_Kt} {d : Nat} {Q : Option Value → aw_H → Prop} : aw_Sn l m_X1_wordOn none X d 0 0 Q 80 (k_X1_wordOn_80 l X d Q) := by
  unfold k_X1_wordOn_80
  exact s_iload dX1_wordOn_80 (s_if_ne dX1_wordOn_82 (by decide) (s_bipush dX1_wordOn_85 (by decide) (s_goto dX1_wordOn_87 (by decide) t_X1_wordOn_99)) t_X1_wordOn_90)
def k_X1_wordOn_79 (l : Launch) (X : Nat → aw_Kt) (d : Nat) (Q : Option Value → aw_H → Prop) : aw_Kt := o_ri Q
theorem t_X1_wordOn_79 {l : Launch} {X : Nat → aw_Kt} {d : Nat} {Q : Option Value → aw_H → Prop} : aw_Sn l m_X1_wordOn none X d 0 0 Q 79 (k_X1_wordOn_79 l X d Q) := by
  unfold k_X1_wordOn_79
  exact s_iret dX1_wordOn_79 rfl
def k_X1_wordOn_70 (l : Launch) (X : Nat → aw_Kt) (d : Nat) (Q : Option Value → aw_H → Prop) : aw_Kt := o_il 4 (o_il 5 (o_dv (o_ic 5 (o_cs l d m_J9_floorMod_7cf53 2 (k_X1_wordOn_79 l X d Q)))))
theorem t_X1_wordOn_70 {l : Launch} {X : Nat → aw_Kt} {d : Nat} {Q : Option Value → aw_H → Prop} : aw_Sn l m_X1_wordOn none X d 0 0 Q 70 (k_X1_wordOn_70 l X d Q) := by
  unfold k_X1_wordOn_70
  exact s_iload dX1_wordOn_70 (s_iload dX1_wordOn_72 (s_idiv dX1_wordOn_74 (s_iconst dX1_wordOn_75 (by decide) (s_cs dX1_wordOn_76 (by decide) w_29 wt_J9_floorMod_7cf53 w_28 wc_J9_floorMod_7cf53 wd_J9_floorMod_7cf53 t_X1_wordOn_79))))
def k_X1_wordOn_60 (l : Launch) (X : Nat → aw_Kt) (d : Nat) (Q : Option Value → aw_H → Prop) : aw_Kt := o_il 5 (o_if (fun x => x = 0) (o_ic (-2) (k_X1_wordOn_79 l X d Q)) (k_X1_wordOn_70 l X d Q))
theorem t_X1_wordOn_60 {l : Launch} {X : Nat → aw_Kt} {d : Nat} {Q : Option Value → aw_H → Prop} : aw_Sn l m_X1_wordOn none X d 0 0 Q 60 (k_X1_wordOn_60 l X d Q) := by
  unfold k_X1_wordOn_60
  exact s_iload dX1_wordOn_60 (s_if_ne dX1_wordOn_62 (by decide) (s_bipush dX1_wordOn_65 (by decide) (s_goto dX1_wordOn_67 (by decide) t_X1_wordOn_79)) t_X1_wordOn_70)
def k_X1_wordOn_0 (l : Launch) (X : Nat → aw_Kt) (d : Nat) (Q : Option Value → aw_H → Prop) : aw_Kt := o_al 2 (o_al 0 (o_gf 1 1 (o_il 1 (o_ia 0 (o_il 3 (o_cv l d m_X2_feature 2 2 (o_is 4 (o_al 2 (o_al 0 (o_gf 1 2 (o_il 1 (o_ia 0 (o_il 3 (o_cv l d m_X2_feature 2 2 (o_is 5 (o_al 0 (o_gf 1 0 (o_il 1 (o_ia 0 (o_ts 0 2 [(k_X1_wordOn_60 l X d Q), (k_X1_wordOn_80 l X d Q), (k_X1_wordOn_100 l X d Q)] (k_X1_wordOn_136 l X d Q)))))))))))))))))))))
theorem t_X1_wordOn_0 {l : Launch} {X : Nat → aw_Kt} {d : Nat} {Q : Option Value → aw_H → Prop} : aw_Sn l m_X1_wordOn none X d 0 0 Q 0 (k_X1_wordOn_0 l X d Q) := by
  unfold k_X1_wordOn_0
  exact s_aload_n dX1_wordOn_0 rfl (s_aload_n dX1_wordOn_1 rfl (s_getf dX1_wordOn_2 rfl u_X1 (by decide) w_23 (s_iload_n dX1_wordOn_5 rfl (s_iaload dX1_wordOn_6 (s_iload_n dX1_wordOn_7 rfl (s_cv dX1_wordOn_8 rfl (by decide) w_30 wi_X2_feature ws_X2_feature w_9 wc_X2_feature wd_X2_feature (s_istore dX1_wordOn_11 (by decide) (s_aload_n dX1_wordOn_13 rfl (s_aload_n dX1_wordOn_14 rfl (s_getf dX1_wordOn_15 rfl u_X1 (by decide) w_24 (s_iload_n dX1_wordOn_18 rfl (s_iaload dX1_wordOn_19 (s_iload_n dX1_wordOn_20 rfl (s_cv dX1_wordOn_21 rfl (by decide) w_30 wi_X2_feature ws_X2_feature w_9 wc_X2_feature wd_X2_feature (s_istore dX1_wordOn_24 (by decide) (s_aload_n dX1_wordOn_26 rfl (s_getf dX1_wordOn_27 rfl u_X1 (by decide) w_22 (s_iload_n dX1_wordOn_30 rfl (s_iaload dX1_wordOn_31 (s_tsw dX1_wordOn_32 (by decide) (by decide) (by decide) t_X1_wordOn_136 ⟨⟨60, by decide, t_X1_wordOn_60⟩, ⟨⟨80, by decide, t_X1_wordOn_80⟩, ⟨⟨100, by decide, t_X1_wordOn_100⟩, trivial⟩⟩⟩))))))))))))))))))))
/-! X2_size -/
def k_X2_size_0 (l : Launch) (X : Nat → aw_Kt) (d : Nat) (Q : Option Value → aw_H → Prop) : aw_Kt := o_al 0 (o_gf 2 4 (o_ri Q))
theorem t_X2_size_0 {l : Launch} {X : Nat → aw_Kt} {d : Nat} {Q : Option Value → aw_H → Prop} : aw_Sn l m_X2_size none X d 0 0 Q 0 (k_X2_size_0 l X d Q) := by
  unfold k_X2_size_0
  exact s_aload_n dX2_size_0 rfl (s_getf dX2_size_1 rfl u_X2 (by decide) w_31 (s_iret dX2_size_4 rfl))
/-! X2_hasRow -/
def k_X2_hasRow_17 (l : Launch) (X : Nat → aw_Kt) (d : Nat) (Q : Option Value → aw_H → Prop) : aw_Kt := o_rz Q
theorem t_X2_hasRow_17 {l : Launch} {X : Nat → aw_Kt} {d : Nat} {Q : Option Value → aw_H → Prop} : aw_Sn l m_X2_hasRow none X d 0 0 Q 17 (k_X2_hasRow_17 l X d Q) := by
  unfold k_X2_hasRow_17
  exact s_zret dX2_hasRow_17 rfl
def k_X2_hasRow_16 (l : Launch) (X : Nat → aw_Kt) (d : Nat) (Q : Option Value → aw_H → Prop) : aw_Kt := o_ic 0 (k_X2_hasRow_17 l X d Q)
theorem t_X2_hasRow_16 {l : Launch} {X : Nat → aw_Kt} {d : Nat} {Q : Option Value → aw_H → Prop} : aw_Sn l m_X2_hasRow none X d 0 0 Q 16 (k_X2_hasRow_16 l X d Q) := by
  unfold k_X2_hasRow_16
  exact s_iconst dX2_hasRow_16 (by decide) t_X2_hasRow_17
def k_X2_hasRow_0 (l : Launch) (X : Nat → aw_Kt) (d : Nat) (Q : Option Value → aw_H → Prop) : aw_Kt := o_il 1 (o_if (fun x => x < 0) (k_X2_hasRow_16 l X d Q) (o_il 1 (o_al 0 (o_gf 2 4 (o_i3 (fun x y => y ≤ x) (k_X2_hasRow_16 l X d Q) (o_ic 1 (k_X2_hasRow_17 l X d Q)))))))
theorem t_X2_hasRow_0 {l : Launch} {X : Nat → aw_Kt} {d : Nat} {Q : Option Value → aw_H → Prop} : aw_Sn l m_X2_hasRow none X d 0 0 Q 0 (k_X2_hasRow_0 l X d Q) := by
  unfold k_X2_hasRow_0
  exact s_iload_n dX2_hasRow_0 rfl (s_if_lt dX2_hasRow_1 (by decide) t_X2_hasRow_16 (s_iload_n dX2_hasRow_4 rfl (s_aload_n dX2_hasRow_5 rfl (s_getf dX2_hasRow_6 rfl u_X2 (by decide) w_31 (s_icmp_ge dX2_hasRow_9 (by decide) t_X2_hasRow_16 (s_iconst dX2_hasRow_12 (by decide) (s_goto dX2_hasRow_13 (by decide) t_X2_hasRow_17)))))))
/-! X2_addRow -/
def k_X2_addRow_12 (l : Launch) (X : Nat → aw_Kt) (d : Nat) (Q : Option Value → aw_H → Prop) : aw_Kt := o_al 0 (o_gf 2 0 (o_ic 0 (o_aa (o_al 0 (o_gf 2 4 (o_il 1 (o_xa (o_al 0 (o_gf 2 0 (o_ic 1 (o_aa (o_al 0 (o_gf 2 4 (o_il 2 (o_xa (o_al 0 (o_gf 2 0 (o_ic 2 (o_aa (o_al 0 (o_gf 2 4 (o_il 3 (o_xa (o_al 0 (o_gf 2 0 (o_ic 3 (o_aa (o_al 0 (o_gf 2 4 (o_il 4 (o_xa (o_al 0 (o_dp (o_gf 2 4 (o_d1 (o_ic 1 (o_ib (fun x y => x + y) (o_pi 2 4 (o_ri Q)))))))))))))))))))))))))))))))))))))))
theorem t_X2_addRow_12 {l : Launch} {X : Nat → aw_Kt} {d : Nat} {Q : Option Value → aw_H → Prop} : aw_Sn l m_X2_addRow none X d 0 0 Q 12 (k_X2_addRow_12 l X d Q) := by
  unfold k_X2_addRow_12
  exact s_aload_n dX2_addRow_12 rfl (s_getf dX2_addRow_13 rfl u_X2 (by decide) w_32 (s_iconst dX2_addRow_16 (by decide) (s_aaload dX2_addRow_17 (s_aload_n dX2_addRow_18 rfl (s_getf dX2_addRow_19 rfl u_X2 (by decide) w_31 (s_iload_n dX2_addRow_22 rfl (s_iastore dX2_addRow_23 (s_aload_n dX2_addRow_24 rfl (s_getf dX2_addRow_25 rfl u_X2 (by decide) w_32 (s_iconst dX2_addRow_28 (by decide) (s_aaload dX2_addRow_29 (s_aload_n dX2_addRow_30 rfl (s_getf dX2_addRow_31 rfl u_X2 (by decide) w_31 (s_iload_n dX2_addRow_34 rfl (s_iastore dX2_addRow_35 (s_aload_n dX2_addRow_36 rfl (s_getf dX2_addRow_37 rfl u_X2 (by decide) w_32 (s_iconst dX2_addRow_40 (by decide) (s_aaload dX2_addRow_41 (s_aload_n dX2_addRow_42 rfl (s_getf dX2_addRow_43 rfl u_X2 (by decide) w_31 (s_iload_n dX2_addRow_46 rfl (s_iastore dX2_addRow_47 (s_aload_n dX2_addRow_48 rfl (s_getf dX2_addRow_49 rfl u_X2 (by decide) w_32 (s_iconst dX2_addRow_52 (by decide) (s_aaload dX2_addRow_53 (s_aload_n dX2_addRow_54 rfl (s_getf dX2_addRow_55 rfl u_X2 (by decide) w_31 (s_iload dX2_addRow_58 (s_iastore dX2_addRow_60 (s_aload_n dX2_addRow_61 rfl (s_dup dX2_addRow_62 (s_getf dX2_addRow_63 rfl u_X2 (by decide) w_31 (s_dup_x1 dX2_addRow_66 (s_iconst dX2_addRow_67 (by decide) (s_iadd dX2_addRow_68 (s_puti dX2_addRow_69 rfl u_X2 tyX2_ok nmX2 (by decide) rfl (by decide +kernel) w_31 (s_iret dX2_addRow_72 rfl)))))))))))))))))))))))))))))))))))))))
def k_X2_addRow_0 (l : Launch) (X : Nat → aw_Kt) (d : Nat) (Q : Option Value → aw_H → Prop) : aw_Kt := o_al 0 (o_gf 2 4 (o_ic 40 (o_i3 (fun x y => x < y) (k_X2_addRow_12 l X d Q) (o_ic (-104) (o_ri Q)))))
theorem t_X2_addRow_0 {l : Launch} {X : Nat → aw_Kt} {d : Nat} {Q : Option Value → aw_H → Prop} : aw_Sn l m_X2_addRow none X d 0 0 Q 0 (k_X2_addRow_0 l X d Q) := by
  unfold k_X2_addRow_0
  exact s_aload_n dX2_addRow_0 rfl (s_getf dX2_addRow_1 rfl u_X2 (by decide) w_31 (s_bipush dX2_addRow_4 (by decide) (s_icmp_lt dX2_addRow_6 (by decide) t_X2_addRow_12 (s_bipush dX2_addRow_9 (by decide) (s_iret dX2_addRow_11 rfl)))))
/-! X2_feature -/
def k_X2_feature_0 (l : Launch) (X : Nat → aw_Kt) (d : Nat) (Q : Option Value → aw_H → Prop) : aw_Kt := o_al 0 (o_gf 2 0 (o_il 1 (o_aa (o_il 2 (o_ia 0 (o_ri Q))))))
theorem t_X2_feature_0 {l : Launch} {X : Nat → aw_Kt} {d : Nat} {Q : Option Value → aw_H → Prop} : aw_Sn l m_X2_feature none X d 0 0 Q 0 (k_X2_feature_0 l X d Q) := by
  unfold k_X2_feature_0
  exact s_aload_n dX2_feature_0 rfl (s_getf dX2_feature_1 rfl u_X2 (by decide) w_32 (s_iload_n dX2_feature_4 rfl (s_aaload dX2_feature_5 (s_iload_n dX2_feature_6 rfl (s_iaload dX2_feature_7 (s_iret dX2_feature_8 rfl))))))
/-! X2_given -/
def k_X2_given_0 (l : Launch) (X : Nat → aw_Kt) (d : Nat) (Q : Option Value → aw_H → Prop) : aw_Kt := o_al 0 (o_gf 2 1 (o_il 1 (o_aa (o_il 2 (o_ia 0 (o_ri Q))))))
theorem t_X2_given_0 {l : Launch} {X : Nat → aw_Kt} {d : Nat} {Q : Option Value → aw_H → Prop} : aw_Sn l m_X2_given none X d 0 0 Q 0 (k_X2_given_0 l X d Q) := by
  unfold k_X2_given_0
  exact s_aload_n dX2_given_0 rfl (s_getf dX2_given_1 rfl u_X2 (by decide) w_33 (s_iload_n dX2_given_4 rfl (s_aaload dX2_given_5 (s_iload_n dX2_given_6 rfl (s_iaload dX2_given_7 (s_iret dX2_given_8 rfl))))))
/-! X2_give -/
def k_X2_give_0 (l : Launch) (X : Nat → aw_Kt) (d : Nat) (Q : Option Value → aw_H → Prop) : aw_Kt := o_al 0 (o_gf 2 1 (o_il 1 (o_aa (o_il 2 (o_il 3 (o_xa (o_al 0 (o_il 1 (o_cv l d m_X2_countWrong 2 1 (o_rv Q))))))))))
theorem t_X2_give_0 {l : Launch} {X : Nat → aw_Kt} {d : Nat} {Q : Option Value → aw_H → Prop} : aw_Sn l m_X2_give none X d 0 0 Q 0 (k_X2_give_0 l X d Q) := by
  unfold k_X2_give_0
  exact s_aload_n dX2_give_0 rfl (s_getf dX2_give_1 rfl u_X2 (by decide) w_33 (s_iload_n dX2_give_4 rfl (s_aaload dX2_give_5 (s_iload_n dX2_give_6 rfl (s_iload_n dX2_give_7 rfl (s_iastore dX2_give_8 (s_aload_n dX2_give_9 rfl (s_iload_n dX2_give_10 rfl (s_cv dX2_give_11 rfl (by decide) w_34 wi_X2_countWrong ws_X2_countWrong w_9 wc_X2_countWrong wd_X2_countWrong (s_vret dX2_give_14 rfl))))))))))
/-! X2_known -/
def k_X2_known_0 (l : Launch) (X : Nat → aw_Kt) (d : Nat) (Q : Option Value → aw_H → Prop) : aw_Kt := o_al 0 (o_gf 2 2 (o_il 1 (o_ia 0 (o_ri Q))))
theorem t_X2_known_0 {l : Launch} {X : Nat → aw_Kt} {d : Nat} {Q : Option Value → aw_H → Prop} : aw_Sn l m_X2_known none X d 0 0 Q 0 (k_X2_known_0 l X d Q) := by
  unfold k_X2_known_0
  exact s_aload_n dX2_known_0 rfl (s_getf dX2_known_1 rfl u_X2 (by decide) w_35 (s_iload_n dX2_known_4 rfl (s_iaload dX2_known_5 (s_iret dX2_known_6 rfl))))
/-! X2_setKnown -/
def k_X2_setKnown_26 (l : Launch) (X : Nat → aw_Kt) (d : Nat) (Q : Option Value → aw_H → Prop) : aw_Kt := o_rv Q
theorem t_X2_setKnown_26 {l : Launch} {X : Nat → aw_Kt} {d : Nat} {Q : Option Value → aw_H → Prop} : aw_Sn l m_X2_setKnown none X d 0 0 Q 26 (k_X2_setKnown_26 l X d Q) := by
  unfold k_X2_setKnown_26
  exact s_vret dX2_setKnown_26 rfl
def k_X2_setKnown_9 (l : Launch) (X : Nat → aw_Kt) (d : Nat) (Q : Option Value → aw_H → Prop) : aw_Kt := o_il 3 (o_ic 8 (o_i3 (fun x y => y ≤ x) (k_X2_setKnown_26 l X d Q) (o_al 0 (o_il 3 (o_cv l d m_X2_countWrong 2 1 (o_ii 3 1 (SW l m_X2_setKnown none X d 0 0 Q 9)))))))
theorem t_X2_setKnown_9 {l : Launch} {X : Nat → aw_Kt} {d : Nat} {Q : Option Value → aw_H → Prop} : aw_Sn l m_X2_setKnown none X d 0 0 Q 9 (k_X2_setKnown_9 l X d Q) := by
  unfold k_X2_setKnown_9
  exact s_iload_n dX2_setKnown_9 rfl (s_bipush dX2_setKnown_10 (by decide) (s_icmp_ge dX2_setKnown_12 (by decide) t_X2_setKnown_26 (s_aload_n dX2_setKnown_15 rfl (s_iload_n dX2_setKnown_16 rfl (s_cv dX2_setKnown_17 rfl (by decide) w_34 wi_X2_countWrong ws_X2_countWrong w_9 wc_X2_countWrong wd_X2_countWrong (s_iinc dX2_setKnown_20 (by decide) (by decide) (s_goto dX2_setKnown_23 (by decide) s_stop)))))))
def k_X2_setKnown_0 (l : Launch) (X : Nat → aw_Kt) (d : Nat) (Q : Option Value → aw_H → Prop) : aw_Kt := o_al 0 (o_gf 2 2 (o_il 1 (o_il 2 (o_xa (o_ic 0 (o_is 3 (SW l m_X2_setKnown none X d 0 0 Q 9)))))))
theorem t_X2_setKnown_0 {l : Launch} {X : Nat → aw_Kt} {d : Nat} {Q : Option Value → aw_H → Prop} : aw_Sn l m_X2_setKnown none X d 0 0 Q 0 (k_X2_setKnown_0 l X d Q) := by
  unfold k_X2_setKnown_0
  exact s_aload_n dX2_setKnown_0 rfl (s_getf dX2_setKnown_1 rfl u_X2 (by decide) w_35 (s_iload_n dX2_setKnown_4 rfl (s_iload_n dX2_setKnown_5 rfl (s_iastore dX2_setKnown_6 (s_iconst dX2_setKnown_7 (by decide) (s_istore_n dX2_setKnown_8 rfl (by decide) s_stop))))))
/-! X2_wrongOf -/
def k_X2_wrongOf_0 (l : Launch) (X : Nat → aw_Kt) (d : Nat) (Q : Option Value → aw_H → Prop) : aw_Kt := o_al 0 (o_gf 2 3 (o_il 1 (o_ia 0 (o_ri Q))))
theorem t_X2_wrongOf_0 {l : Launch} {X : Nat → aw_Kt} {d : Nat} {Q : Option Value → aw_H → Prop} : aw_Sn l m_X2_wrongOf none X d 0 0 Q 0 (k_X2_wrongOf_0 l X d Q) := by
  unfold k_X2_wrongOf_0
  exact s_aload_n dX2_wrongOf_0 rfl (s_getf dX2_wrongOf_1 rfl u_X2 (by decide) w_36 (s_iload_n dX2_wrongOf_4 rfl (s_iaload dX2_wrongOf_5 (s_iret dX2_wrongOf_6 rfl))))
/-! X2_givenBy -/
def k_X2_givenBy_33 (l : Launch) (X : Nat → aw_Kt) (d : Nat) (Q : Option Value → aw_H → Prop) : aw_Kt := o_il 2 (o_ri Q)
theorem t_X2_givenBy_33 {l : Launch} {X : Nat → aw_Kt} {d : Nat} {Q : Option Value → aw_H → Prop} : aw_Sn l m_X2_givenBy none X d 0 0 Q 33 (k_X2_givenBy_33 l X d Q) := by
  unfold k_X2_givenBy_33
  exact s_iload_n dX2_givenBy_33 rfl (s_iret dX2_givenBy_34 rfl)
def k_X2_givenBy_27 (l : Launch) (X : Nat → aw_Kt) (d : Nat) (Q : Option Value → aw_H → Prop) : aw_Kt := o_ii 3 1 (SW l m_X2_givenBy none X d 0 0 Q 4)
theorem t_X2_givenBy_27 {l : Launch} {X : Nat → aw_Kt} {d : Nat} {Q : Option Value → aw_H → Prop} : aw_Sn l m_X2_givenBy none X d 0 0 Q 27 (k_X2_givenBy_27 l X d Q) := by
  unfold k_X2_givenBy_27
  exact s_iinc dX2_givenBy_27 (by decide) (by decide) (s_goto dX2_givenBy_30 (by decide) s_stop)
def k_X2_givenBy_4 (l : Launch) (X : Nat → aw_Kt) (d : Nat) (Q : Option Value → aw_H → Prop) : aw_Kt := o_il 3 (o_al 0 (o_gf 2 4 (o_i3 (fun x y => y ≤ x) (k_X2_givenBy_33 l X d Q) (o_al 0 (o_gf 2 1 (o_il 1 (o_aa (o_il 3 (o_ia 0 (o_ic (-1) (o_i3 (fun x y => x = y) (k_X2_givenBy_27 l X d Q) (o_ii 2 1 (k_X2_givenBy_27 l X d Q)))))))))))))
theorem t_X2_givenBy_4 {l : Launch} {X : Nat → aw_Kt} {d : Nat} {Q : Option Value → aw_H → Prop} : aw_Sn l m_X2_givenBy none X d 0 0 Q 4 (k_X2_givenBy_4 l X d Q) := by
  unfold k_X2_givenBy_4
  exact s_iload_n dX2_givenBy_4 rfl (s_aload_n dX2_givenBy_5 rfl (s_getf dX2_givenBy_6 rfl u_X2 (by decide) w_31 (s_icmp_ge dX2_givenBy_9 (by decide) t_X2_givenBy_33 (s_aload_n dX2_givenBy_12 rfl (s_getf dX2_givenBy_13 rfl u_X2 (by decide) w_33 (s_iload_n dX2_givenBy_16 rfl (s_aaload dX2_givenBy_17 (s_iload_n dX2_givenBy_18 rfl (s_iaload dX2_givenBy_19 (s_iconst dX2_givenBy_20 (by decide) (s_icmp_eq dX2_givenBy_21 (by decide) t_X2_givenBy_27 (s_iinc dX2_givenBy_24 (by decide) (by decide) t_X2_givenBy_27))))))))))))
def k_X2_givenBy_0 (l : Launch) (X : Nat → aw_Kt) (d : Nat) (Q : Option Value → aw_H → Prop) : aw_Kt := o_ic 0 (o_is 2 (o_ic 0 (o_is 3 (SW l m_X2_givenBy none X d 0 0 Q 4))))
theorem t_X2_givenBy_0 {l : Launch} {X : Nat → aw_Kt} {d : Nat} {Q : Option Value → aw_H → Prop} : aw_Sn l m_X2_givenBy none X d 0 0 Q 0 (k_X2_givenBy_0 l X d Q) := by
  unfold k_X2_givenBy_0
  exact s_iconst dX2_givenBy_0 (by decide) (s_istore_n dX2_givenBy_1 rfl (by decide) (s_iconst dX2_givenBy_2 (by decide) (s_istore_n dX2_givenBy_3 rfl (by decide) s_stop)))
/-! X2_givenOn -/
def k_X2_givenOn_31 (l : Launch) (X : Nat → aw_Kt) (d : Nat) (Q : Option Value → aw_H → Prop) : aw_Kt := o_il 2 (o_ri Q)
theorem t_X2_givenOn_31 {l : Launch} {X : Nat → aw_Kt} {d : Nat} {Q : Option Value → aw_H → Prop} : aw_Sn l m_X2_givenOn none X d 0 0 Q 31 (k_X2_givenOn_31 l X d Q) := by
  unfold k_X2_givenOn_31
  exact s_iload_n dX2_givenOn_31 rfl (s_iret dX2_givenOn_32 rfl)
def k_X2_givenOn_25 (l : Launch) (X : Nat → aw_Kt) (d : Nat) (Q : Option Value → aw_H → Prop) : aw_Kt := o_ii 3 1 (SW l m_X2_givenOn none X d 0 0 Q 4)
theorem t_X2_givenOn_25 {l : Launch} {X : Nat → aw_Kt} {d : Nat} {Q : Option Value → aw_H → Prop} : aw_Sn l m_X2_givenOn none X d 0 0 Q 25 (k_X2_givenOn_25 l X d Q) := by
  unfold k_X2_givenOn_25
  exact s_iinc dX2_givenOn_25 (by decide) (by decide) (s_goto dX2_givenOn_28 (by decide) s_stop)
def k_X2_givenOn_4 (l : Launch) (X : Nat → aw_Kt) (d : Nat) (Q : Option Value → aw_H → Prop) : aw_Kt := o_il 3 (o_ic 8 (o_i3 (fun x y => y ≤ x) (k_X2_givenOn_31 l X d Q) (o_al 0 (o_gf 2 1 (o_il 3 (o_aa (o_il 1 (o_ia 0 (o_ic (-1) (o_i3 (fun x y => x = y) (k_X2_givenOn_25 l X d Q) (o_ii 2 1 (k_X2_givenOn_25 l X d Q))))))))))))
theorem t_X2_givenOn_4 {l : Launch} {X : Nat → aw_Kt} {d : Nat} {Q : Option Value → aw_H → Prop} : aw_Sn l m_X2_givenOn none X d 0 0 Q 4 (k_X2_givenOn_4 l X d Q) := by
  unfold k_X2_givenOn_4
  exact s_iload_n dX2_givenOn_4 rfl (s_bipush dX2_givenOn_5 (by decide) (s_icmp_ge dX2_givenOn_7 (by decide) t_X2_givenOn_31 (s_aload_n dX2_givenOn_10 rfl (s_getf dX2_givenOn_11 rfl u_X2 (by decide) w_33 (s_iload_n dX2_givenOn_14 rfl (s_aaload dX2_givenOn_15 (s_iload_n dX2_givenOn_16 rfl (s_iaload dX2_givenOn_17 (s_iconst dX2_givenOn_18 (by decide) (s_icmp_eq dX2_givenOn_19 (by decide) t_X2_givenOn_25 (s_iinc dX2_givenOn_22 (by decide) (by decide) t_X2_givenOn_25)))))))))))
def k_X2_givenOn_0 (l : Launch) (X : Nat → aw_Kt) (d : Nat) (Q : Option Value → aw_H → Prop) : aw_Kt := o_ic 0 (o_is 2 (o_ic 0 (o_is 3 (SW l m_X2_givenOn none X d 0 0 Q 4))))
theorem t_X2_givenOn_0 {l : Launch} {X : Nat → aw_Kt} {d : Nat} {Q : Option Value → aw_H → Prop} : aw_Sn l m_X2_givenOn none X d 0 0 Q 0 (k_X2_givenOn_0 l X d Q) := by
  unfold k_X2_givenOn_0
  exact s_iconst dX2_givenOn_0 (by decide) (s_istore_n dX2_givenOn_1 rfl (by decide) (s_iconst dX2_givenOn_2 (by decide) (s_istore_n dX2_givenOn_3 rfl (by decide) s_stop)))
/-! X2_countKnown -/
def k_X2_countKnown_31 (l : Launch) (X : Nat → aw_Kt) (d : Nat) (Q : Option Value → aw_H → Prop) : aw_Kt := o_il 1 (o_ri Q)
theorem t_X2_countKnown_31 {l : Launch} {X : Nat → aw_Kt} {d : Nat} {Q : Option Value → aw_H → Prop} : aw_Sn l m_X2_countKnown none X d 0 0 Q 31 (k_X2_countKnown_31 l X d Q) := by
  unfold k_X2_countKnown_31
  exact s_iload_n dX2_countKnown_31 rfl (s_iret dX2_countKnown_32 rfl)
def k_X2_countKnown_25 (l : Launch) (X : Nat → aw_Kt) (d : Nat) (Q : Option Value → aw_H → Prop) : aw_Kt := o_ii 2 1 (SW l m_X2_countKnown none X d 0 0 Q 4)
theorem t_X2_countKnown_25 {l : Launch} {X : Nat → aw_Kt} {d : Nat} {Q : Option Value → aw_H → Prop} : aw_Sn l m_X2_countKnown none X d 0 0 Q 25 (k_X2_countKnown_25 l X d Q) := by
  unfold k_X2_countKnown_25
  exact s_iinc dX2_countKnown_25 (by decide) (by decide) (s_goto dX2_countKnown_28 (by decide) s_stop)
def k_X2_countKnown_4 (l : Launch) (X : Nat → aw_Kt) (d : Nat) (Q : Option Value → aw_H → Prop) : aw_Kt := o_il 2 (o_al 0 (o_gf 2 4 (o_i3 (fun x y => y ≤ x) (k_X2_countKnown_31 l X d Q) (o_al 0 (o_gf 2 2 (o_il 2 (o_ia 0 (o_ic (-1) (o_i3 (fun x y => x = y) (k_X2_countKnown_25 l X d Q) (o_ii 1 1 (k_X2_countKnown_25 l X d Q)))))))))))
theorem t_X2_countKnown_4 {l : Launch} {X : Nat → aw_Kt} {d : Nat} {Q : Option Value → aw_H → Prop} : aw_Sn l m_X2_countKnown none X d 0 0 Q 4 (k_X2_countKnown_4 l X d Q) := by
  unfold k_X2_countKnown_4
  exact s_iload_n dX2_countKnown_4 rfl (s_aload_n dX2_countKnown_5 rfl (s_getf dX2_countKnown_6 rfl u_X2 (by decide) w_31 (s_icmp_ge dX2_countKnown_9 (by decide) t_X2_countKnown_31 (s_aload_n dX2_countKnown_12 rfl (s_getf dX2_countKnown_13 rfl u_X2 (by decide) w_35 (s_iload_n dX2_countKnown_16 rfl (s_iaload dX2_countKnown_17 (s_iconst dX2_countKnown_18 (by decide) (s_icmp_eq dX2_countKnown_19 (by decide) t_X2_countKnown_25 (s_iinc dX2_countKnown_22 (by decide) (by decide) t_X2_countKnown_25))))))))))
def k_X2_countKnown_0 (l : Launch) (X : Nat → aw_Kt) (d : Nat) (Q : Option Value → aw_H → Prop) : aw_Kt := o_ic 0 (o_is 1 (o_ic 0 (o_is 2 (SW l m_X2_countKnown none X d 0 0 Q 4))))
theorem t_X2_countKnown_0 {l : Launch} {X : Nat → aw_Kt} {d : Nat} {Q : Option Value → aw_H → Prop} : aw_Sn l m_X2_countKnown none X d 0 0 Q 0 (k_X2_countKnown_0 l X d Q) := by
  unfold k_X2_countKnown_0
  exact s_iconst dX2_countKnown_0 (by decide) (s_istore_n dX2_countKnown_1 rfl (by decide) (s_iconst dX2_countKnown_2 (by decide) (s_istore_n dX2_countKnown_3 rfl (by decide) s_stop)))
/-! X2_countWrong -/
def k_X2_countWrong_58 (l : Launch) (X : Nat → aw_Kt) (d : Nat) (Q : Option Value → aw_H → Prop) : aw_Kt := o_al 0 (o_gf 2 3 (o_il 1 (o_il 2 (o_xa (o_rv Q)))))
theorem t_X2_countWrong_58 {l : Launch} {X : Nat → aw_Kt} {d : Nat} {Q : Option Value → aw_H → Prop} : aw_Sn l m_X2_countWrong none X d 0 0 Q 58 (k_X2_countWrong_58 l X d Q) := by
  unfold k_X2_countWrong_58
  exact s_aload_n dX2_countWrong_58 rfl (s_getf dX2_countWrong_59 rfl u_X2 (by decide) w_36 (s_iload_n dX2_countWrong_62 rfl (s_iload_n dX2_countWrong_63 rfl (s_iastore dX2_countWrong_64 (s_vret dX2_countWrong_65 rfl)))))
def k_X2_countWrong_52 (l : Launch) (X : Nat → aw_Kt) (d : Nat) (Q : Option Value → aw_H → Prop) : aw_Kt := o_ii 3 1 (SW l m_X2_countWrong none X d 0 0 Q 4)
theorem t_X2_countWrong_52 {l : Launch} {X : Nat → aw_Kt} {d : Nat} {Q : Option Value → aw_H → Prop} : aw_Sn l m_X2_countWrong none X d 0 0 Q 52 (k_X2_countWrong_52 l X d Q) := by
  unfold k_X2_countWrong_52
  exact s_iinc dX2_countWrong_52 (by decide) (by decide) (s_goto dX2_countWrong_55 (by decide) s_stop)
def k_X2_countWrong_4 (l : Launch) (X : Nat → aw_Kt) (d : Nat) (Q : Option Value → aw_H → Prop) : aw_Kt := o_il 3 (o_al 0 (o_gf 2 4 (o_i3 (fun x y => y ≤ x) (k_X2_countWrong_58 l X d Q) (o_al 0 (o_gf 2 1 (o_il 1 (o_aa (o_il 3 (o_ia 0 (o_is 4 (o_il 4 (o_ic (-1) (o_i3 (fun x y => x = y) (k_X2_countWrong_52 l X d Q) (o_al 0 (o_gf 2 2 (o_il 3 (o_ia 0 (o_ic (-1) (o_i3 (fun x y => x = y) (k_X2_countWrong_52 l X d Q) (o_il 4 (o_al 0 (o_gf 2 2 (o_il 3 (o_ia 0 (o_i3 (fun x y => x = y) (k_X2_countWrong_52 l X d Q) (o_ii 2 1 (k_X2_countWrong_52 l X d Q)))))))))))))))))))))))))))
theorem t_X2_countWrong_4 {l : Launch} {X : Nat → aw_Kt} {d : Nat} {Q : Option Value → aw_H → Prop} : aw_Sn l m_X2_countWrong none X d 0 0 Q 4 (k_X2_countWrong_4 l X d Q) := by
  unfold k_X2_countWrong_4
  exact s_iload_n dX2_countWrong_4 rfl (s_aload_n dX2_countWrong_5 rfl (s_getf dX2_countWrong_6 rfl u_X2 (by decide) w_31 (s_icmp_ge dX2_countWrong_9 (by decide) t_X2_countWrong_58 (s_aload_n dX2_countWrong_12 rfl (s_getf dX2_countWrong_13 rfl u_X2 (by decide) w_33 (s_iload_n dX2_countWrong_16 rfl (s_aaload dX2_countWrong_17 (s_iload_n dX2_countWrong_18 rfl (s_iaload dX2_countWrong_19 (s_istore dX2_countWrong_20 (by decide) (s_iload dX2_countWrong_22 (s_iconst dX2_countWrong_24 (by decide) (s_icmp_eq dX2_countWrong_25 (by decide) t_X2_countWrong_52 (s_aload_n dX2_countWrong_28 rfl (s_getf dX2_countWrong_29 rfl u_X2 (by decide) w_35 (s_iload_n dX2_countWrong_32 rfl (s_iaload dX2_countWrong_33 (s_iconst dX2_countWrong_34 (by decide) (s_icmp_eq dX2_countWrong_35 (by decide) t_X2_countWrong_52 (s_iload dX2_countWrong_38 (s_aload_n dX2_countWrong_40 rfl (s_getf dX2_countWrong_41 rfl u_X2 (by decide) w_35 (s_iload_n dX2_countWrong_44 rfl (s_iaload dX2_countWrong_45 (s_icmp_eq dX2_countWrong_46 (by decide) t_X2_countWrong_52 (s_iinc dX2_countWrong_49 (by decide) (by decide) t_X2_countWrong_52))))))))))))))))))))))))))
def k_X2_countWrong_0 (l : Launch) (X : Nat → aw_Kt) (d : Nat) (Q : Option Value → aw_H → Prop) : aw_Kt := o_ic 0 (o_is 2 (o_ic 0 (o_is 3 (SW l m_X2_countWrong none X d 0 0 Q 4))))
theorem t_X2_countWrong_0 {l : Launch} {X : Nat → aw_Kt} {d : Nat} {Q : Option Value → aw_H → Prop} : aw_Sn l m_X2_countWrong none X d 0 0 Q 0 (k_X2_countWrong_0 l X d Q) := by
  unfold k_X2_countWrong_0
  exact s_iconst dX2_countWrong_0 (by decide) (s_istore_n dX2_countWrong_1 rfl (by decide) (s_iconst dX2_countWrong_2 (by decide) (s_istore_n dX2_countWrong_3 rfl (by decide) s_stop)))
/-! X3_row -/
def k_X3_row_0 (l : Launch) (X : Nat → aw_Kt) (d : Nat) (Q : Option Value → aw_H → Prop) : aw_Kt := o_al 0 (o_gf 3 0 (o_il 1 (o_il 2 (o_il 3 (o_il 4 (o_cv l d m_X2_addRow 2 4 (o_ri Q)))))))
theorem t_X3_row_0 {l : Launch} {X : Nat → aw_Kt} {d : Nat} {Q : Option Value → aw_H → Prop} : aw_Sn l m_X3_row none X d 0 0 Q 0 (k_X3_row_0 l X d Q) := by
  unfold k_X3_row_0
  exact s_aload_n dX3_row_0 rfl (s_getf dX3_row_1 rfl u_X3 (by decide) w_37 (s_iload_n dX3_row_4 rfl (s_iload_n dX3_row_5 rfl (s_iload_n dX3_row_6 rfl (s_iload dX3_row_7 (s_cv dX3_row_9 rfl (by decide) w_38 wi_X2_addRow ws_X2_addRow w_9 wc_X2_addRow wd_X2_addRow (s_iret dX3_row_12 rfl)))))))
/-! X3_label -/
def k_X3_label_46 (l : Launch) (X : Nat → aw_Kt) (d : Nat) (Q : Option Value → aw_H → Prop) : aw_Kt := o_al 0 (o_gf 3 0 (o_il 1 (o_il 2 (o_il 3 (o_cv l d m_X2_give 2 3 (o_ic 1 (o_ri Q)))))))
theorem t_X3_label_46 {l : Launch} {X : Nat → aw_Kt} {d : Nat} {Q : Option Value → aw_H → Prop} : aw_Sn l m_X3_label none X d 0 0 Q 46 (k_X3_label_46 l X d Q) := by
  unfold k_X3_label_46
  exact s_aload_n dX3_label_46 rfl (s_getf dX3_label_47 rfl u_X3 (by decide) w_37 (s_iload_n dX3_label_50 rfl (s_iload_n dX3_label_51 rfl (s_iload_n dX3_label_52 rfl (s_cv dX3_label_53 rfl (by decide) w_39 wi_X2_give ws_X2_give w_9 wc_X2_give wd_X2_give (s_iconst dX3_label_56 (by decide) (s_iret dX3_label_57 rfl)))))))
def k_X3_label_31 (l : Launch) (X : Nat → aw_Kt) (d : Nat) (Q : Option Value → aw_H → Prop) : aw_Kt := o_al 0 (o_gf 3 0 (o_il 1 (o_il 2 (o_cv l d m_X2_given 2 2 (o_ic (-1) (o_i3 (fun x y => x = y) (k_X3_label_46 l X d Q) (o_ic 0 (o_ri Q))))))))
theorem t_X3_label_31 {l : Launch} {X : Nat → aw_Kt} {d : Nat} {Q : Option Value → aw_H → Prop} : aw_Sn l m_X3_label none X d 0 0 Q 31 (k_X3_label_31 l X d Q) := by
  unfold k_X3_label_31
  exact s_aload_n dX3_label_31 rfl (s_getf dX3_label_32 rfl u_X3 (by decide) w_37 (s_iload_n dX3_label_35 rfl (s_iload_n dX3_label_36 rfl (s_cv dX3_label_37 rfl (by decide) w_40 wi_X2_given ws_X2_given w_9 wc_X2_given wd_X2_given (s_iconst dX3_label_40 (by decide) (s_icmp_eq dX3_label_41 (by decide) t_X3_label_46 (s_iconst dX3_label_44 (by decide) (s_iret dX3_label_45 rfl))))))))
def k_X3_label_21 (l : Launch) (X : Nat → aw_Kt) (d : Nat) (Q : Option Value → aw_H → Prop) : aw_Kt := o_il 3 (o_cs l d m_X3_isLabel 1 (o_if (fun x => x = 0) (o_ic (-102) (o_ri Q)) (k_X3_label_31 l X d Q)))
theorem t_X3_label_21 {l : Launch} {X : Nat → aw_Kt} {d : Nat} {Q : Option Value → aw_H → Prop} : aw_Sn l m_X3_label none X d 0 0 Q 21 (k_X3_label_21 l X d Q) := by
  unfold k_X3_label_21
  exact s_iload_n dX3_label_21 rfl (s_cs dX3_label_22 (by decide) w_41 wt_X3_isLabel w_10 wc_X3_isLabel wd_X3_isLabel (s_if_ne dX3_label_25 (by decide) (s_bipush dX3_label_28 (by decide) (s_iret dX3_label_30 rfl)) t_X3_label_31))
def k_X3_label_18 (l : Launch) (X : Nat → aw_Kt) (d : Nat) (Q : Option Value → aw_H → Prop) : aw_Kt := o_ic (-101) (o_ri Q)
theorem t_X3_label_18 {l : Launch} {X : Nat → aw_Kt} {d : Nat} {Q : Option Value → aw_H → Prop} : aw_Sn l m_X3_label none X d 0 0 Q 18 (k_X3_label_18 l X d Q) := by
  unfold k_X3_label_18
  exact s_bipush dX3_label_18 (by decide) (s_iret dX3_label_20 rfl)
def k_X3_label_0 (l : Launch) (X : Nat → aw_Kt) (d : Nat) (Q : Option Value → aw_H → Prop) : aw_Kt := o_il 1 (o_cs l d m_X3_isPerson 1 (o_if (fun x => x = 0) (k_X3_label_18 l X d Q) (o_al 0 (o_gf 3 0 (o_il 2 (o_cv l d m_X2_hasRow 2 1 (o_if (fun x => x = 0) (k_X3_label_18 l X d Q) (k_X3_label_21 l X d Q))))))))
theorem t_X3_label_0 {l : Launch} {X : Nat → aw_Kt} {d : Nat} {Q : Option Value → aw_H → Prop} : aw_Sn l m_X3_label none X d 0 0 Q 0 (k_X3_label_0 l X d Q) := by
  unfold k_X3_label_0
  exact s_iload_n dX3_label_0 rfl (s_cs dX3_label_1 (by decide) w_43 wt_X3_isPerson w_10 wc_X3_isPerson wd_X3_isPerson (s_if_eq dX3_label_4 (by decide) t_X3_label_18 (s_aload_n dX3_label_7 rfl (s_getf dX3_label_8 rfl u_X3 (by decide) w_37 (s_iload_n dX3_label_11 rfl (s_cv dX3_label_12 rfl (by decide) w_42 wi_X2_hasRow ws_X2_hasRow w_9 wc_X2_hasRow wd_X2_hasRow (s_if_ne dX3_label_15 (by decide) t_X3_label_18 t_X3_label_21)))))))
/-! X3_said -/
def k_X3_said_21 (l : Launch) (X : Nat → aw_Kt) (d : Nat) (Q : Option Value → aw_H → Prop) : aw_Kt := o_al 0 (o_gf 3 0 (o_il 1 (o_il 2 (o_cv l d m_X2_given 2 2 (o_ri Q)))))
theorem t_X3_said_21 {l : Launch} {X : Nat → aw_Kt} {d : Nat} {Q : Option Value → aw_H → Prop} : aw_Sn l m_X3_said none X d 0 0 Q 21 (k_X3_said_21 l X d Q) := by
  unfold k_X3_said_21
  exact s_aload_n dX3_said_21 rfl (s_getf dX3_said_22 rfl u_X3 (by decide) w_37 (s_iload_n dX3_said_25 rfl (s_iload_n dX3_said_26 rfl (s_cv dX3_said_27 rfl (by decide) w_40 wi_X2_given ws_X2_given w_9 wc_X2_given wd_X2_given (s_iret dX3_said_30 rfl)))))
def k_X3_said_18 (l : Launch) (X : Nat → aw_Kt) (d : Nat) (Q : Option Value → aw_H → Prop) : aw_Kt := o_ic (-101) (o_ri Q)
theorem t_X3_said_18 {l : Launch} {X : Nat → aw_Kt} {d : Nat} {Q : Option Value → aw_H → Prop} : aw_Sn l m_X3_said none X d 0 0 Q 18 (k_X3_said_18 l X d Q) := by
  unfold k_X3_said_18
  exact s_bipush dX3_said_18 (by decide) (s_iret dX3_said_20 rfl)
def k_X3_said_0 (l : Launch) (X : Nat → aw_Kt) (d : Nat) (Q : Option Value → aw_H → Prop) : aw_Kt := o_il 1 (o_cs l d m_X3_isPerson 1 (o_if (fun x => x = 0) (k_X3_said_18 l X d Q) (o_al 0 (o_gf 3 0 (o_il 2 (o_cv l d m_X2_hasRow 2 1 (o_if (fun x => x = 0) (k_X3_said_18 l X d Q) (k_X3_said_21 l X d Q))))))))
theorem t_X3_said_0 {l : Launch} {X : Nat → aw_Kt} {d : Nat} {Q : Option Value → aw_H → Prop} : aw_Sn l m_X3_said none X d 0 0 Q 0 (k_X3_said_0 l X d Q) := by
  unfold k_X3_said_0
  exact s_iload_n dX3_said_0 rfl (s_cs dX3_said_1 (by decide) w_43 wt_X3_isPerson w_10 wc_X3_isPerson wd_X3_isPerson (s_if_eq dX3_said_4 (by decide) t_X3_said_18 (s_aload_n dX3_said_7 rfl (s_getf dX3_said_8 rfl u_X3 (by decide) w_37 (s_iload_n dX3_said_11 rfl (s_cv dX3_said_12 rfl (by decide) w_42 wi_X2_hasRow ws_X2_hasRow w_9 wc_X2_hasRow wd_X2_hasRow (s_if_ne dX3_said_15 (by decide) t_X3_said_18 t_X3_said_21)))))))
/-! X3_gold -/
def k_X3_gold_29 (l : Launch) (X : Nat → aw_Kt) (d : Nat) (Q : Option Value → aw_H → Prop) : aw_Kt := o_al 0 (o_gf 3 0 (o_il 1 (o_cv l d m_X2_known 2 1 (o_is 3 (o_al 0 (o_gf 3 0 (o_il 1 (o_il 2 (o_cv l d m_X2_setKnown 2 2 (o_il 3 (o_ri Q)))))))))))
theorem t_X3_gold_29 {l : Launch} {X : Nat → aw_Kt} {d : Nat} {Q : Option Value → aw_H → Prop} : aw_Sn l m_X3_gold none X d 0 0 Q 29 (k_X3_gold_29 l X d Q) := by
  unfold k_X3_gold_29
  exact s_aload_n dX3_gold_29 rfl (s_getf dX3_gold_30 rfl u_X3 (by decide) w_37 (s_iload_n dX3_gold_33 rfl (s_cv dX3_gold_34 rfl (by decide) w_45 wi_X2_known ws_X2_known w_9 wc_X2_known wd_X2_known (s_istore_n dX3_gold_37 rfl (by decide) (s_aload_n dX3_gold_38 rfl (s_getf dX3_gold_39 rfl u_X3 (by decide) w_37 (s_iload_n dX3_gold_42 rfl (s_iload_n dX3_gold_43 rfl (s_cv dX3_gold_44 rfl (by decide) w_44 wi_X2_setKnown ws_X2_setKnown w_9 wc_X2_setKnown wd_X2_setKnown (s_iload_n dX3_gold_47 rfl (s_iret dX3_gold_48 rfl)))))))))))
def k_X3_gold_14 (l : Launch) (X : Nat → aw_Kt) (d : Nat) (Q : Option Value → aw_H → Prop) : aw_Kt := o_il 2 (o_ic (-1) (o_i3 (fun x y => x = y) (k_X3_gold_29 l X d Q) (o_il 2 (o_cs l d m_X3_isLabel 1 (o_if (fun x => x = 0) (o_ic (-102) (o_ri Q)) (k_X3_gold_29 l X d Q))))))
theorem t_X3_gold_14 {l : Launch} {X : Nat → aw_Kt} {d : Nat} {Q : Option Value → aw_H → Prop} : aw_Sn l m_X3_gold none X d 0 0 Q 14 (k_X3_gold_14 l X d Q) := by
  unfold k_X3_gold_14
  exact s_iload_n dX3_gold_14 rfl (s_iconst dX3_gold_15 (by decide) (s_icmp_eq dX3_gold_16 (by decide) t_X3_gold_29 (s_iload_n dX3_gold_19 rfl (s_cs dX3_gold_20 (by decide) w_41 wt_X3_isLabel w_10 wc_X3_isLabel wd_X3_isLabel (s_if_ne dX3_gold_23 (by decide) (s_bipush dX3_gold_26 (by decide) (s_iret dX3_gold_28 rfl)) t_X3_gold_29)))))
def k_X3_gold_0 (l : Launch) (X : Nat → aw_Kt) (d : Nat) (Q : Option Value → aw_H → Prop) : aw_Kt := o_al 0 (o_gf 3 0 (o_il 1 (o_cv l d m_X2_hasRow 2 1 (o_if (fun x => x = 0) (o_ic (-101) (o_ri Q)) (k_X3_gold_14 l X d Q)))))
theorem t_X3_gold_0 {l : Launch} {X : Nat → aw_Kt} {d : Nat} {Q : Option Value → aw_H → Prop} : aw_Sn l m_X3_gold none X d 0 0 Q 0 (k_X3_gold_0 l X d Q) := by
  unfold k_X3_gold_0
  exact s_aload_n dX3_gold_0 rfl (s_getf dX3_gold_1 rfl u_X3 (by decide) w_37 (s_iload_n dX3_gold_4 rfl (s_cv dX3_gold_5 rfl (by decide) w_42 wi_X2_hasRow ws_X2_hasRow w_9 wc_X2_hasRow wd_X2_hasRow (s_if_ne dX3_gold_8 (by decide) (s_bipush dX3_gold_11 (by decide) (s_iret dX3_gold_13 rfl)) t_X3_gold_14))))
/-! X3_bound -/
def k_X3_bound_14 (l : Launch) (X : Nat → aw_Kt) (d : Nat) (Q : Option Value → aw_H → Prop) : aw_Kt := o_al 0 (o_gf 3 5 (o_is 2 (o_al 0 (o_il 1 (o_pi 3 5 (o_il 2 (o_ri Q)))))))
theorem t_X3_bound_14 {l : Launch} {X : Nat → aw_Kt} {d : Nat} {Q : Option Value → aw_H → Prop} : aw_Sn l m_X3_bound none X d 0 0 Q 14 (k_X3_bound_14 l X d Q) := by
  unfold k_X3_bound_14
  exact s_aload_n dX3_bound_14 rfl (s_getf dX3_bound_15 rfl u_X3 (by decide) w_46 (s_istore_n dX3_bound_18 rfl (by decide) (s_aload_n dX3_bound_19 rfl (s_iload_n dX3_bound_20 rfl (s_puti dX3_bound_21 rfl u_X3 tyX3_ok nmX3 (by decide) rfl (by decide +kernel) w_46 (s_iload_n dX3_bound_24 rfl (s_iret dX3_bound_25 rfl)))))))
def k_X3_bound_11 (l : Launch) (X : Nat → aw_Kt) (d : Nat) (Q : Option Value → aw_H → Prop) : aw_Kt := o_ic (-102) (o_ri Q)
theorem t_X3_bound_11 {l : Launch} {X : Nat → aw_Kt} {d : Nat} {Q : Option Value → aw_H → Prop} : aw_Sn l m_X3_bound none X d 0 0 Q 11 (k_X3_bound_11 l X d Q) := by
  unfold k_X3_bound_11
  exact s_bipush dX3_bound_11 (by decide) (s_iret dX3_bound_13 rfl)
def k_X3_bound_0 (l : Launch) (X : Nat → aw_Kt) (d : Nat) (Q : Option Value → aw_H → Prop) : aw_Kt := o_il 1 (o_ic 1 (o_i3 (fun x y => x < y) (k_X3_bound_11 l X d Q) (o_il 1 (o_ic 9 (o_i3 (fun x y => x ≤ y) (k_X3_bound_14 l X d Q) (k_X3_bound_11 l X d Q))))))
theorem t_X3_bound_0 {l : Launch} {X : Nat → aw_Kt} {d : Nat} {Q : Option Value → aw_H → Prop} : aw_Sn l m_X3_bound none X d 0 0 Q 0 (k_X3_bound_0 l X d Q) := by
  unfold k_X3_bound_0
  exact s_iload_n dX3_bound_0 rfl (s_iconst dX3_bound_1 (by decide) (s_icmp_lt dX3_bound_2 (by decide) t_X3_bound_11 (s_iload_n dX3_bound_5 rfl (s_bipush dX3_bound_6 (by decide) (s_icmp_le dX3_bound_8 (by decide) t_X3_bound_14 t_X3_bound_11)))))
/-! X3_expert -/
def k_X3_expert_42 (l : Launch) (X : Nat → aw_Kt) (d : Nat) (Q : Option Value → aw_H → Prop) : aw_Kt := o_ri Q
theorem t_X3_expert_42 {l : Launch} {X : Nat → aw_Kt} {d : Nat} {Q : Option Value → aw_H → Prop} : aw_Sn l m_X3_expert none X d 0 0 Q 42 (k_X3_expert_42 l X d Q) := by
  unfold k_X3_expert_42
  exact s_iret dX3_expert_42 rfl
def k_X3_expert_41 (l : Launch) (X : Nat → aw_Kt) (d : Nat) (Q : Option Value → aw_H → Prop) : aw_Kt := o_ic 0 (k_X3_expert_42 l X d Q)
theorem t_X3_expert_41 {l : Launch} {X : Nat → aw_Kt} {d : Nat} {Q : Option Value → aw_H → Prop} : aw_Sn l m_X3_expert none X d 0 0 Q 41 (k_X3_expert_41 l X d Q) := by
  unfold k_X3_expert_41
  exact s_iconst dX3_expert_41 (by decide) t_X3_expert_42
def k_X3_expert_25 (l : Launch) (X : Nat → aw_Kt) (d : Nat) (Q : Option Value → aw_H → Prop) : aw_Kt := o_is 3 (o_al 0 (o_gf 3 3 (o_il 1 (o_il 2 (o_zs (o_il 3 (o_if (fun x => x = 0) (k_X3_expert_41 l X d Q) (o_ic 1 (k_X3_expert_42 l X d Q)))))))))
theorem t_X3_expert_25 {l : Launch} {X : Nat → aw_Kt} {d : Nat} {Q : Option Value → aw_H → Prop} : aw_Sn l m_X3_expert none X d 0 0 Q 25 (k_X3_expert_25 l X d Q) := by
  unfold k_X3_expert_25
  exact s_istore_n dX3_expert_25 rfl (by decide) (s_aload_n dX3_expert_26 rfl (s_getf dX3_expert_27 rfl u_X3 (by decide) w_47 (s_iload_n dX3_expert_30 rfl (s_iload_n dX3_expert_31 rfl (s_bastore dX3_expert_32 (s_iload_n dX3_expert_33 rfl (s_if_eq dX3_expert_34 (by decide) t_X3_expert_41 (s_iconst dX3_expert_37 (by decide) (s_goto dX3_expert_38 (by decide) t_X3_expert_42)))))))))
def k_X3_expert_24 (l : Launch) (X : Nat → aw_Kt) (d : Nat) (Q : Option Value → aw_H → Prop) : aw_Kt := o_ic 0 (k_X3_expert_25 l X d Q)
theorem t_X3_expert_24 {l : Launch} {X : Nat → aw_Kt} {d : Nat} {Q : Option Value → aw_H → Prop} : aw_Sn l m_X3_expert none X d 0 0 Q 24 (k_X3_expert_24 l X d Q) := by
  unfold k_X3_expert_24
  exact s_iconst dX3_expert_24 (by decide) t_X3_expert_25
def k_X3_expert_10 (l : Launch) (X : Nat → aw_Kt) (d : Nat) (Q : Option Value → aw_H → Prop) : aw_Kt := o_al 0 (o_gf 3 3 (o_il 1 (o_ia 1 (o_il 2 (o_i3 (fun x y => x = y) (k_X3_expert_24 l X d Q) (o_ic 1 (k_X3_expert_25 l X d Q)))))))
theorem t_X3_expert_10 {l : Launch} {X : Nat → aw_Kt} {d : Nat} {Q : Option Value → aw_H → Prop} : aw_Sn l m_X3_expert none X d 0 0 Q 10 (k_X3_expert_10 l X d Q) := by
  unfold k_X3_expert_10
  exact s_aload_n dX3_expert_10 rfl (s_getf dX3_expert_11 rfl u_X3 (by decide) w_47 (s_iload_n dX3_expert_14 rfl (s_baload dX3_expert_15 (s_iload_n dX3_expert_16 rfl (s_icmp_eq dX3_expert_17 (by decide) t_X3_expert_24 (s_iconst dX3_expert_20 (by decide) (s_goto dX3_expert_21 (by decide) t_X3_expert_25)))))))
def k_X3_expert_0 (l : Launch) (X : Nat → aw_Kt) (d : Nat) (Q : Option Value → aw_H → Prop) : aw_Kt := o_il 1 (o_cs l d m_X3_isPerson 1 (o_if (fun x => x = 0) (o_ic (-101) (o_ri Q)) (k_X3_expert_10 l X d Q)))
theorem t_X3_expert_0 {l : Launch} {X : Nat → aw_Kt} {d : Nat} {Q : Option Value → aw_H → Prop} : aw_Sn l m_X3_expert none X d 0 0 Q 0 (k_X3_expert_0 l X d Q) := by
  unfold k_X3_expert_0
  exact s_iload_n dX3_expert_0 rfl (s_cs dX3_expert_1 (by decide) w_43 wt_X3_isPerson w_10 wc_X3_isPerson wd_X3_isPerson (s_if_ne dX3_expert_4 (by decide) (s_bipush dX3_expert_7 (by decide) (s_iret dX3_expert_9 rfl)) t_X3_expert_10))
/-! X3_person -/
def k_X3_person_79 (l : Launch) (X : Nat → aw_Kt) (d : Nat) (Q : Option Value → aw_H → Prop) : aw_Kt := o_ic (-102) (o_ri Q)
theorem t_X3_person_79 {l : Launch} {X : Nat → aw_Kt} {d : Nat} {Q : Option Value → aw_H → Prop} : aw_Sn l m_X3_person none X d 0 0 Q 79 (k_X3_person_79 l X d Q) := by
  unfold k_X3_person_79
  exact s_bipush dX3_person_79 (by decide) (s_iret dX3_person_81 rfl)
def k_X3_person_70 (l : Launch) (X : Nat → aw_Kt) (d : Nat) (Q : Option Value → aw_H → Prop) : aw_Kt := o_al 0 (o_gf 3 0 (o_il 1 (o_cv l d m_X2_givenBy 2 1 (o_ri Q))))
theorem t_X3_person_70 {l : Launch} {X : Nat → aw_Kt} {d : Nat} {Q : Option Value → aw_H → Prop} : aw_Sn l m_X3_person none X d 0 0 Q 70 (k_X3_person_70 l X d Q) := by
  unfold k_X3_person_70
  exact s_aload_n dX3_person_70 rfl (s_getf dX3_person_71 rfl u_X3 (by decide) w_37 (s_iload_n dX3_person_74 rfl (s_cv dX3_person_75 rfl (by decide) w_48 wi_X2_givenBy ws_X2_givenBy w_9 wc_X2_givenBy wd_X2_givenBy (s_iret dX3_person_78 rfl))))
def k_X3_person_69 (l : Launch) (X : Nat → aw_Kt) (d : Nat) (Q : Option Value → aw_H → Prop) : aw_Kt := o_ri Q
theorem t_X3_person_69 {l : Launch} {X : Nat → aw_Kt} {d : Nat} {Q : Option Value → aw_H → Prop} : aw_Sn l m_X3_person none X d 0 0 Q 69 (k_X3_person_69 l X d Q) := by
  unfold k_X3_person_69
  exact s_iret dX3_person_69 rfl
def k_X3_person_68 (l : Launch) (X : Nat → aw_Kt) (d : Nat) (Q : Option Value → aw_H → Prop) : aw_Kt := o_ic 0 (k_X3_person_69 l X d Q)
theorem t_X3_person_68 {l : Launch} {X : Nat → aw_Kt} {d : Nat} {Q : Option Value → aw_H → Prop} : aw_Sn l m_X3_person none X d 0 0 Q 68 (k_X3_person_68 l X d Q) := by
  unfold k_X3_person_68
  exact s_iconst dX3_person_68 (by decide) t_X3_person_69
def k_X3_person_56 (l : Launch) (X : Nat → aw_Kt) (d : Nat) (Q : Option Value → aw_H → Prop) : aw_Kt := o_al 0 (o_il 1 (o_cv l d m_X3_isBarred 3 1 (o_if (fun x => x = 0) (k_X3_person_68 l X d Q) (o_ic 1 (k_X3_person_69 l X d Q)))))
theorem t_X3_person_56 {l : Launch} {X : Nat → aw_Kt} {d : Nat} {Q : Option Value → aw_H → Prop} : aw_Sn l m_X3_person none X d 0 0 Q 56 (k_X3_person_56 l X d Q) := by
  unfold k_X3_person_56
  exact s_aload_n dX3_person_56 rfl (s_iload_n dX3_person_57 rfl (s_cv dX3_person_58 rfl (by decide) w_49 wi_X3_isBarred ws_X3_isBarred w_10 wc_X3_isBarred wd_X3_isBarred (s_if_eq dX3_person_61 (by decide) t_X3_person_68 (s_iconst dX3_person_64 (by decide) (s_goto dX3_person_65 (by decide) t_X3_person_69)))))
def k_X3_person_47 (l : Launch) (X : Nat → aw_Kt) (d : Nat) (Q : Option Value → aw_H → Prop) : aw_Kt := o_al 0 (o_gf 3 0 (o_il 1 (o_cv l d m_X2_wrongOf 2 1 (o_ri Q))))
theorem t_X3_person_47 {l : Launch} {X : Nat → aw_Kt} {d : Nat} {Q : Option Value → aw_H → Prop} : aw_Sn l m_X3_person none X d 0 0 Q 47 (k_X3_person_47 l X d Q) := by
  unfold k_X3_person_47
  exact s_aload_n dX3_person_47 rfl (s_getf dX3_person_48 rfl u_X3 (by decide) w_37 (s_iload_n dX3_person_51 rfl (s_cv dX3_person_52 rfl (by decide) w_50 wi_X2_wrongOf ws_X2_wrongOf w_9 wc_X2_wrongOf wd_X2_wrongOf (s_iret dX3_person_55 rfl))))
def k_X3_person_40 (l : Launch) (X : Nat → aw_Kt) (d : Nat) (Q : Option Value → aw_H → Prop) : aw_Kt := o_al 0 (o_gf 3 4 (o_il 1 (o_ia 0 (o_ri Q))))
theorem t_X3_person_40 {l : Launch} {X : Nat → aw_Kt} {d : Nat} {Q : Option Value → aw_H → Prop} : aw_Sn l m_X3_person none X d 0 0 Q 40 (k_X3_person_40 l X d Q) := by
  unfold k_X3_person_40
  exact s_aload_n dX3_person_40 rfl (s_getf dX3_person_41 rfl u_X3 (by decide) w_51 (s_iload_n dX3_person_44 rfl (s_iaload dX3_person_45 (s_iret dX3_person_46 rfl))))
def k_X3_person_10 (l : Launch) (X : Nat → aw_Kt) (d : Nat) (Q : Option Value → aw_H → Prop) : aw_Kt := o_il 2 (o_ts 0 3 [(k_X3_person_40 l X d Q), (k_X3_person_47 l X d Q), (k_X3_person_56 l X d Q), (k_X3_person_70 l X d Q)] (k_X3_person_79 l X d Q))
theorem t_X3_person_10 {l : Launch} {X : Nat → aw_Kt} {d : Nat} {Q : Option Value → aw_H → Prop} : aw_Sn l m_X3_person none X d 0 0 Q 10 (k_X3_person_10 l X d Q) := by
  unfold k_X3_person_10
  exact s_iload_n dX3_person_10 rfl (s_tsw dX3_person_11 (by decide) (by decide) (by decide) t_X3_person_79 ⟨⟨40, by decide, t_X3_person_40⟩, ⟨⟨47, by decide, t_X3_person_47⟩, ⟨⟨56, by decide, t_X3_person_56⟩, ⟨⟨70, by decide, t_X3_person_70⟩, trivial⟩⟩⟩⟩)
def k_X3_person_0 (l : Launch) (X : Nat → aw_Kt) (d : Nat) (Q : Option Value → aw_H → Prop) : aw_Kt := o_il 1 (o_cs l d m_X3_isPerson 1 (o_if (fun x => x = 0) (o_ic (-101) (o_ri Q)) (k_X3_person_10 l X d Q)))
theorem t_X3_person_0 {l : Launch} {X : Nat → aw_Kt} {d : Nat} {Q : Option Value → aw_H → Prop} : aw_Sn l m_X3_person none X d 0 0 Q 0 (k_X3_person_0 l X d Q) := by
  unfold k_X3_person_0
  exact s_iload_n dX3_person_0 rfl (s_cs dX3_person_1 (by decide) w_43 wt_X3_isPerson w_10 wc_X3_isPerson wd_X3_isPerson (s_if_ne dX3_person_4 (by decide) (s_bipush dX3_person_7 (by decide) (s_iret dX3_person_9 rfl)) t_X3_person_10))
/-! X3_rule -/
def k_X3_rule_26 (l : Launch) (X : Nat → aw_Kt) (d : Nat) (Q : Option Value → aw_H → Prop) : aw_Kt := o_al 0 (o_gf 3 1 (o_il 1 (o_il 2 (o_il 3 (o_il 4 (o_cv l d m_X1_addRule 1 4 (o_ri Q)))))))
theorem t_X3_rule_26 {l : Launch} {X : Nat → aw_Kt} {d : Nat} {Q : Option Value → aw_H → Prop} : aw_Sn l m_X3_rule none X d 0 0 Q 26 (k_X3_rule_26 l X d Q) := by
  unfold k_X3_rule_26
  exact s_aload_n dX3_rule_26 rfl (s_getf dX3_rule_27 rfl u_X3 (by decide) w_52 (s_iload_n dX3_rule_30 rfl (s_iload_n dX3_rule_31 rfl (s_iload_n dX3_rule_32 rfl (s_iload dX3_rule_33 (s_cv dX3_rule_35 rfl (by decide) w_54 wi_X1_addRule ws_X1_addRule w_53 wc_X1_addRule wd_X1_addRule (s_iret dX3_rule_38 rfl)))))))
def k_X3_rule_23 (l : Launch) (X : Nat → aw_Kt) (d : Nat) (Q : Option Value → aw_H → Prop) : aw_Kt := o_ic (-102) (o_ri Q)
theorem t_X3_rule_23 {l : Launch} {X : Nat → aw_Kt} {d : Nat} {Q : Option Value → aw_H → Prop} : aw_Sn l m_X3_rule none X d 0 0 Q 23 (k_X3_rule_23 l X d Q) := by
  unfold k_X3_rule_23
  exact s_bipush dX3_rule_23 (by decide) (s_iret dX3_rule_25 rfl)
def k_X3_rule_0 (l : Launch) (X : Nat → aw_Kt) (d : Nat) (Q : Option Value → aw_H → Prop) : aw_Kt := o_il 1 (o_if (fun x => x < 0) (k_X3_rule_23 l X d Q) (o_il 1 (o_ic 4 (o_i3 (fun x y => y ≤ x) (k_X3_rule_23 l X d Q) (o_il 2 (o_cs l d m_X3_isFeature 1 (o_if (fun x => x = 0) (k_X3_rule_23 l X d Q) (o_il 3 (o_cs l d m_X3_isFeature 1 (o_if (fun x => x = 0) (k_X3_rule_23 l X d Q) (k_X3_rule_26 l X d Q)))))))))))
theorem t_X3_rule_0 {l : Launch} {X : Nat → aw_Kt} {d : Nat} {Q : Option Value → aw_H → Prop} : aw_Sn l m_X3_rule none X d 0 0 Q 0 (k_X3_rule_0 l X d Q) := by
  unfold k_X3_rule_0
  exact s_iload_n dX3_rule_0 rfl (s_if_lt dX3_rule_1 (by decide) t_X3_rule_23 (s_iload_n dX3_rule_4 rfl (s_iconst dX3_rule_5 (by decide) (s_icmp_ge dX3_rule_6 (by decide) t_X3_rule_23 (s_iload_n dX3_rule_9 rfl (s_cs dX3_rule_10 (by decide) w_55 wt_X3_isFeature w_10 wc_X3_isFeature wd_X3_isFeature (s_if_eq dX3_rule_13 (by decide) t_X3_rule_23 (s_iload_n dX3_rule_16 rfl (s_cs dX3_rule_17 (by decide) w_55 wt_X3_isFeature w_10 wc_X3_isFeature wd_X3_isFeature (s_if_ne dX3_rule_20 (by decide) t_X3_rule_23 t_X3_rule_26))))))))))
/-! X3_turn -/
def k_X3_turn_50 (l : Launch) (X : Nat → aw_Kt) (d : Nat) (Q : Option Value → aw_H → Prop) : aw_Kt := o_ri Q
theorem t_X3_turn_50 {l : Launch} {X : Nat → aw_Kt} {d : Nat} {Q : Option Value → aw_H → Prop} : aw_Sn l m_X3_turn none X d 0 0 Q 50 (k_X3_turn_50 l X d Q) := by
  unfold k_X3_turn_50
  exact s_iret dX3_turn_50 rfl
def k_X3_turn_49 (l : Launch) (X : Nat → aw_Kt) (d : Nat) (Q : Option Value → aw_H → Prop) : aw_Kt := o_ic 0 (k_X3_turn_50 l X d Q)
theorem t_X3_turn_49 {l : Launch} {X : Nat → aw_Kt} {d : Nat} {Q : Option Value → aw_H → Prop} : aw_Sn l m_X3_turn none X d 0 0 Q 49 (k_X3_turn_49 l X d Q) := by
  unfold k_X3_turn_49
  exact s_iconst dX3_turn_49 (by decide) t_X3_turn_50
def k_X3_turn_31 (l : Launch) (X : Nat → aw_Kt) (d : Nat) (Q : Option Value → aw_H → Prop) : aw_Kt := o_is 3 (o_al 0 (o_gf 3 1 (o_il 1 (o_il 2 (o_cv l d m_X1_setOn 1 2 (o_il 3 (o_if (fun x => x = 0) (k_X3_turn_49 l X d Q) (o_ic 1 (k_X3_turn_50 l X d Q)))))))))
theorem t_X3_turn_31 {l : Launch} {X : Nat → aw_Kt} {d : Nat} {Q : Option Value → aw_H → Prop} : aw_Sn l m_X3_turn none X d 0 0 Q 31 (k_X3_turn_31 l X d Q) := by
  unfold k_X3_turn_31
  exact s_istore_n dX3_turn_31 rfl (by decide) (s_aload_n dX3_turn_32 rfl (s_getf dX3_turn_33 rfl u_X3 (by decide) w_52 (s_iload_n dX3_turn_36 rfl (s_iload_n dX3_turn_37 rfl (s_cv dX3_turn_38 rfl (by decide) w_56 wi_X1_setOn ws_X1_setOn w_53 wc_X1_setOn wd_X1_setOn (s_iload_n dX3_turn_41 rfl (s_if_eq dX3_turn_42 (by decide) t_X3_turn_49 (s_iconst dX3_turn_45 (by decide) (s_goto dX3_turn_46 (by decide) t_X3_turn_50)))))))))
def k_X3_turn_30 (l : Launch) (X : Nat → aw_Kt) (d : Nat) (Q : Option Value → aw_H → Prop) : aw_Kt := o_ic 0 (k_X3_turn_31 l X d Q)
theorem t_X3_turn_30 {l : Launch} {X : Nat → aw_Kt} {d : Nat} {Q : Option Value → aw_H → Prop} : aw_Sn l m_X3_turn none X d 0 0 Q 30 (k_X3_turn_30 l X d Q) := by
  unfold k_X3_turn_30
  exact s_iconst dX3_turn_30 (by decide) t_X3_turn_31
def k_X3_turn_14 (l : Launch) (X : Nat → aw_Kt) (d : Nat) (Q : Option Value → aw_H → Prop) : aw_Kt := o_al 0 (o_gf 3 1 (o_il 1 (o_cv l d m_X1_isOn 1 1 (o_il 2 (o_i3 (fun x y => x = y) (k_X3_turn_30 l X d Q) (o_ic 1 (k_X3_turn_31 l X d Q)))))))
theorem t_X3_turn_14 {l : Launch} {X : Nat → aw_Kt} {d : Nat} {Q : Option Value → aw_H → Prop} : aw_Sn l m_X3_turn none X d 0 0 Q 14 (k_X3_turn_14 l X d Q) := by
  unfold k_X3_turn_14
  exact s_aload_n dX3_turn_14 rfl (s_getf dX3_turn_15 rfl u_X3 (by decide) w_52 (s_iload_n dX3_turn_18 rfl (s_cv dX3_turn_19 rfl (by decide) w_57 wi_X1_isOn ws_X1_isOn w_53 wc_X1_isOn wd_X1_isOn (s_iload_n dX3_turn_22 rfl (s_icmp_eq dX3_turn_23 (by decide) t_X3_turn_30 (s_iconst dX3_turn_26 (by decide) (s_goto dX3_turn_27 (by decide) t_X3_turn_31)))))))
def k_X3_turn_0 (l : Launch) (X : Nat → aw_Kt) (d : Nat) (Q : Option Value → aw_H → Prop) : aw_Kt := o_al 0 (o_gf 3 1 (o_il 1 (o_cv l d m_X1_hasRule 1 1 (o_if (fun x => x = 0) (o_ic (-101) (o_ri Q)) (k_X3_turn_14 l X d Q)))))
theorem t_X3_turn_0 {l : Launch} {X : Nat → aw_Kt} {d : Nat} {Q : Option Value → aw_H → Prop} : aw_Sn l m_X3_turn none X d 0 0 Q 0 (k_X3_turn_0 l X d Q) := by
  unfold k_X3_turn_0
  exact s_aload_n dX3_turn_0 rfl (s_getf dX3_turn_1 rfl u_X3 (by decide) w_52 (s_iload_n dX3_turn_4 rfl (s_cv dX3_turn_5 rfl (by decide) w_58 wi_X1_hasRule ws_X1_hasRule w_53 wc_X1_hasRule wd_X1_hasRule (s_if_ne dX3_turn_8 (by decide) (s_bipush dX3_turn_11 (by decide) (s_iret dX3_turn_13 rfl)) t_X3_turn_14))))
/-! X3_table -/
def k_X3_table_10 (l : Launch) (X : Nat → aw_Kt) (d : Nat) (Q : Option Value → aw_H → Prop) : aw_Kt := o_al 0 (o_gf 3 1 (o_il 1 (o_il 2 (o_cv l d m_X1_replace 1 2 (o_ri Q)))))
theorem t_X3_table_10 {l : Launch} {X : Nat → aw_Kt} {d : Nat} {Q : Option Value → aw_H → Prop} : aw_Sn l m_X3_table none X d 0 0 Q 10 (k_X3_table_10 l X d Q) := by
  unfold k_X3_table_10
  exact s_aload_n dX3_table_10 rfl (s_getf dX3_table_11 rfl u_X3 (by decide) w_52 (s_iload_n dX3_table_14 rfl (s_iload_n dX3_table_15 rfl (s_cv dX3_table_16 rfl (by decide) w_59 wi_X1_replace ws_X1_replace w_53 wc_X1_replace wd_X1_replace (s_iret dX3_table_19 rfl)))))
def k_X3_table_0 (l : Launch) (X : Nat → aw_Kt) (d : Nat) (Q : Option Value → aw_H → Prop) : aw_Kt := o_il 1 (o_cs l d m_X3_isPlace 1 (o_if (fun x => x = 0) (o_ic (-102) (o_ri Q)) (k_X3_table_10 l X d Q)))
theorem t_X3_table_0 {l : Launch} {X : Nat → aw_Kt} {d : Nat} {Q : Option Value → aw_H → Prop} : aw_Sn l m_X3_table none X d 0 0 Q 0 (k_X3_table_0 l X d Q) := by
  unfold k_X3_table_0
  exact s_iload_n dX3_table_0 rfl (s_cs dX3_table_1 (by decide) w_60 wt_X3_isPlace w_10 wc_X3_isPlace wd_X3_isPlace (s_if_ne dX3_table_4 (by decide) (s_bipush dX3_table_7 (by decide) (s_iret dX3_table_9 rfl)) t_X3_table_10))
/-! X3_says -/
def k_X3_says_78 (l : Launch) (X : Nat → aw_Kt) (d : Nat) (Q : Option Value → aw_H → Prop) : aw_Kt := o_il 3 (o_ri Q)
theorem t_X3_says_78 {l : Launch} {X : Nat → aw_Kt} {d : Nat} {Q : Option Value → aw_H → Prop} : aw_Sn l m_X3_says none X d 0 0 Q 78 (k_X3_says_78 l X d Q) := by
  unfold k_X3_says_78
  exact s_iload_n dX3_says_78 rfl (s_iret dX3_says_79 rfl)
def k_X3_says_62 (l : Launch) (X : Nat → aw_Kt) (d : Nat) (Q : Option Value → aw_H → Prop) : aw_Kt := o_il 3 (o_ic (-3) (o_i3 (fun x y => x = y) (SW l m_X3_says none X d 0 0 Q 68) (k_X3_says_78 l X d Q)))
theorem t_X3_says_62 {l : Launch} {X : Nat → aw_Kt} {d : Nat} {Q : Option Value → aw_H → Prop} : aw_Sn l m_X3_says none X d 0 0 Q 62 (k_X3_says_62 l X d Q) := by
  unfold k_X3_says_62
  exact s_iload_n dX3_says_62 rfl (s_bipush dX3_says_63 (by decide) (s_icmp_ne dX3_says_65 (by decide) s_stop t_X3_says_78))
def k_X3_says_32 (l : Launch) (X : Nat → aw_Kt) (d : Nat) (Q : Option Value → aw_H → Prop) : aw_Kt := o_al 0 (o_gf 3 1 (o_il 1 (o_al 0 (o_gf 3 0 (o_il 2 (o_cv l d m_X1_wordOn 1 3 (o_is 3 (o_il 3 (o_ic (-2) (o_i3 (fun x y => x = y) (SW l m_X3_says none X d 0 0 Q 52) (k_X3_says_62 l X d Q)))))))))))
theorem t_X3_says_32 {l : Launch} {X : Nat → aw_Kt} {d : Nat} {Q : Option Value → aw_H → Prop} : aw_Sn l m_X3_says none X d 0 0 Q 32 (k_X3_says_32 l X d Q) := by
  unfold k_X3_says_32
  exact s_aload_n dX3_says_32 rfl (s_getf dX3_says_33 rfl u_X3 (by decide) w_52 (s_iload_n dX3_says_36 rfl (s_aload_n dX3_says_37 rfl (s_getf dX3_says_38 rfl u_X3 (by decide) w_37 (s_iload_n dX3_says_41 rfl (s_cv dX3_says_42 rfl (by decide) w_61 wi_X1_wordOn ws_X1_wordOn w_53 wc_X1_wordOn wd_X1_wordOn (s_istore_n dX3_says_45 rfl (by decide) (s_iload_n dX3_says_46 rfl (s_bipush dX3_says_47 (by decide) (s_icmp_ne dX3_says_49 (by decide) s_stop t_X3_says_62))))))))))
def k_X3_says_0 (l : Launch) (X : Nat → aw_Kt) (d : Nat) (Q : Option Value → aw_H → Prop) : aw_Kt := o_al 0 (o_gf 3 1 (o_il 1 (o_cv l d m_X1_hasRule 1 1 (o_if (fun x => x = 0) (SW l m_X3_says none X d 0 0 Q 22) (o_al 0 (o_gf 3 0 (o_il 2 (o_cv l d m_X2_hasRow 2 1 (o_if (fun x => x = 0) (SW l m_X3_says none X d 0 0 Q 22) (k_X3_says_32 l X d Q))))))))))
theorem t_X3_says_0 {l : Launch} {X : Nat → aw_Kt} {d : Nat} {Q : Option Value → aw_H → Prop} : aw_Sn l m_X3_says none X d 0 0 Q 0 (k_X3_says_0 l X d Q) := by
  unfold k_X3_says_0
  exact s_aload_n dX3_says_0 rfl (s_getf dX3_says_1 rfl u_X3 (by decide) w_52 (s_iload_n dX3_says_4 rfl (s_cv dX3_says_5 rfl (by decide) w_58 wi_X1_hasRule ws_X1_hasRule w_53 wc_X1_hasRule wd_X1_hasRule (s_if_eq dX3_says_8 (by decide) s_stop (s_aload_n dX3_says_11 rfl (s_getf dX3_says_12 rfl u_X3 (by decide) w_37 (s_iload_n dX3_says_15 rfl (s_cv dX3_says_16 rfl (by decide) w_42 wi_X2_hasRow ws_X2_hasRow w_9 wc_X2_hasRow wd_X2_hasRow (s_if_ne dX3_says_19 (by decide) s_stop t_X3_says_32)))))))))
/-! X3_abstains -/
def k_X3_abstains_57 (l : Launch) (X : Nat → aw_Kt) (d : Nat) (Q : Option Value → aw_H → Prop) : aw_Kt := o_il 2 (o_ri Q)
theorem t_X3_abstains_57 {l : Launch} {X : Nat → aw_Kt} {d : Nat} {Q : Option Value → aw_H → Prop} : aw_Sn l m_X3_abstains none X d 0 0 Q 57 (k_X3_abstains_57 l X d Q) := by
  unfold k_X3_abstains_57
  exact s_iload_n dX3_abstains_57 rfl (s_iret dX3_abstains_58 rfl)
def k_X3_abstains_51 (l : Launch) (X : Nat → aw_Kt) (d : Nat) (Q : Option Value → aw_H → Prop) : aw_Kt := o_ii 3 1 (SW l m_X3_abstains none X d 0 0 Q 18)
theorem t_X3_abstains_51 {l : Launch} {X : Nat → aw_Kt} {d : Nat} {Q : Option Value → aw_H → Prop} : aw_Sn l m_X3_abstains none X d 0 0 Q 51 (k_X3_abstains_51 l X d Q) := by
  unfold k_X3_abstains_51
  exact s_iinc dX3_abstains_51 (by decide) (by decide) (s_goto dX3_abstains_54 (by decide) s_stop)
def k_X3_abstains_18 (l : Launch) (X : Nat → aw_Kt) (d : Nat) (Q : Option Value → aw_H → Prop) : aw_Kt := o_il 3 (o_al 0 (o_gf 3 0 (o_cv l d m_X2_size 2 0 (o_i3 (fun x y => y ≤ x) (k_X3_abstains_57 l X d Q) (o_al 0 (o_gf 3 1 (o_il 1 (o_al 0 (o_gf 3 0 (o_il 3 (o_cv l d m_X1_wordOn 1 3 (o_cs l d m_X3_isLabel 1 (o_if (fun x => x = 0) (o_ii 2 1 (k_X3_abstains_51 l X d Q)) (k_X3_abstains_51 l X d Q))))))))))))))
theorem t_X3_abstains_18 {l : Launch} {X : Nat → aw_Kt} {d : Nat} {Q : Option Value → aw_H → Prop} : aw_Sn l m_X3_abstains none X d 0 0 Q 18 (k_X3_abstains_18 l X d Q) := by
  unfold k_X3_abstains_18
  exact s_iload_n dX3_abstains_18 rfl (s_aload_n dX3_abstains_19 rfl (s_getf dX3_abstains_20 rfl u_X3 (by decide) w_37 (s_cv dX3_abstains_23 rfl (by decide) w_62 wi_X2_size ws_X2_size w_9 wc_X2_size wd_X2_size (s_icmp_ge dX3_abstains_26 (by decide) t_X3_abstains_57 (s_aload_n dX3_abstains_29 rfl (s_getf dX3_abstains_30 rfl u_X3 (by decide) w_52 (s_iload_n dX3_abstains_33 rfl (s_aload_n dX3_abstains_34 rfl (s_getf dX3_abstains_35 rfl u_X3 (by decide) w_37 (s_iload_n dX3_abstains_38 rfl (s_cv dX3_abstains_39 rfl (by decide) w_61 wi_X1_wordOn ws_X1_wordOn w_53 wc_X1_wordOn wd_X1_wordOn (s_cs dX3_abstains_42 (by decide) w_41 wt_X3_isLabel w_10 wc_X3_isLabel wd_X3_isLabel (s_if_ne dX3_abstains_45 (by decide) (s_iinc dX3_abstains_48 (by decide) (by decide) t_X3_abstains_51) t_X3_abstains_51)))))))))))))
def k_X3_abstains_14 (l : Launch) (X : Nat → aw_Kt) (d : Nat) (Q : Option Value → aw_H → Prop) : aw_Kt := o_ic 0 (o_is 2 (o_ic 0 (o_is 3 (SW l m_X3_abstains none X d 0 0 Q 18))))
theorem t_X3_abstains_14 {l : Launch} {X : Nat → aw_Kt} {d : Nat} {Q : Option Value → aw_H → Prop} : aw_Sn l m_X3_abstains none X d 0 0 Q 14 (k_X3_abstains_14 l X d Q) := by
  unfold k_X3_abstains_14
  exact s_iconst dX3_abstains_14 (by decide) (s_istore_n dX3_abstains_15 rfl (by decide) (s_iconst dX3_abstains_16 (by decide) (s_istore_n dX3_abstains_17 rfl (by decide) s_stop)))
def k_X3_abstains_0 (l : Launch) (X : Nat → aw_Kt) (d : Nat) (Q : Option Value → aw_H → Prop) : aw_Kt := o_al 0 (o_gf 3 1 (o_il 1 (o_cv l d m_X1_hasRule 1 1 (o_if (fun x => x = 0) (o_ic (-101) (o_ri Q)) (k_X3_abstains_14 l X d Q)))))
theorem t_X3_abstains_0 {l : Launch} {X : Nat → aw_Kt} {d : Nat} {Q : Option Value → aw_H → Prop} : aw_Sn l m_X3_abstains none X d 0 0 Q 0 (k_X3_abstains_0 l X d Q) := by
  unfold k_X3_abstains_0
  exact s_aload_n dX3_abstains_0 rfl (s_getf dX3_abstains_1 rfl u_X3 (by decide) w_52 (s_iload_n dX3_abstains_4 rfl (s_cv dX3_abstains_5 rfl (by decide) w_58 wi_X1_hasRule ws_X1_hasRule w_53 wc_X1_hasRule wd_X1_hasRule (s_if_ne dX3_abstains_8 (by decide) (s_bipush dX3_abstains_11 (by decide) (s_iret dX3_abstains_13 rfl)) t_X3_abstains_14))))
/-! X3_votes -/
def k_X3_votes_24 (l : Launch) (X : Nat → aw_Kt) (d : Nat) (Q : Option Value → aw_H → Prop) : aw_Kt := o_al 0 (o_il 1 (o_cv l d m_X3_countVotes 3 1 (o_al 0 (o_gf 3 6 (o_il 2 (o_ia 0 (o_ri Q)))))))
theorem t_X3_votes_24 {l : Launch} {X : Nat → aw_Kt} {d : Nat} {Q : Option Value → aw_H → Prop} : aw_Sn l m_X3_votes none X d 0 0 Q 24 (k_X3_votes_24 l X d Q) := by
  unfold k_X3_votes_24
  exact s_aload_n dX3_votes_24 rfl (s_iload_n dX3_votes_25 rfl (s_cv dX3_votes_26 rfl (by decide) w_64 wi_X3_countVotes ws_X3_countVotes w_10 wc_X3_countVotes wd_X3_countVotes (s_aload_n dX3_votes_29 rfl (s_getf dX3_votes_30 rfl u_X3 (by decide) w_63 (s_iload_n dX3_votes_33 rfl (s_iaload dX3_votes_34 (s_iret dX3_votes_35 rfl)))))))
def k_X3_votes_14 (l : Launch) (X : Nat → aw_Kt) (d : Nat) (Q : Option Value → aw_H → Prop) : aw_Kt := o_il 2 (o_cs l d m_X3_isLabel 1 (o_if (fun x => x = 0) (o_ic (-102) (o_ri Q)) (k_X3_votes_24 l X d Q)))
theorem t_X3_votes_14 {l : Launch} {X : Nat → aw_Kt} {d : Nat} {Q : Option Value → aw_H → Prop} : aw_Sn l m_X3_votes none X d 0 0 Q 14 (k_X3_votes_14 l X d Q) := by
  unfold k_X3_votes_14
  exact s_iload_n dX3_votes_14 rfl (s_cs dX3_votes_15 (by decide) w_41 wt_X3_isLabel w_10 wc_X3_isLabel wd_X3_isLabel (s_if_ne dX3_votes_18 (by decide) (s_bipush dX3_votes_21 (by decide) (s_iret dX3_votes_23 rfl)) t_X3_votes_24))
def k_X3_votes_0 (l : Launch) (X : Nat → aw_Kt) (d : Nat) (Q : Option Value → aw_H → Prop) : aw_Kt := o_al 0 (o_gf 3 0 (o_il 1 (o_cv l d m_X2_hasRow 2 1 (o_if (fun x => x = 0) (o_ic (-101) (o_ri Q)) (k_X3_votes_14 l X d Q)))))
theorem t_X3_votes_0 {l : Launch} {X : Nat → aw_Kt} {d : Nat} {Q : Option Value → aw_H → Prop} : aw_Sn l m_X3_votes none X d 0 0 Q 0 (k_X3_votes_0 l X d Q) := by
  unfold k_X3_votes_0
  exact s_aload_n dX3_votes_0 rfl (s_getf dX3_votes_1 rfl u_X3 (by decide) w_37 (s_iload_n dX3_votes_4 rfl (s_cv dX3_votes_5 rfl (by decide) w_42 wi_X2_hasRow ws_X2_hasRow w_9 wc_X2_hasRow wd_X2_hasRow (s_if_ne dX3_votes_8 (by decide) (s_bipush dX3_votes_11 (by decide) (s_iret dX3_votes_13 rfl)) t_X3_votes_14))))
/-! X3_decided -/
def k_X3_decided_14 (l : Launch) (X : Nat → aw_Kt) (d : Nat) (Q : Option Value → aw_H → Prop) : aw_Kt := o_al 0 (o_il 1 (o_cv l d m_X3_decide 3 1 (o_ri Q)))
theorem t_X3_decided_14 {l : Launch} {X : Nat → aw_Kt} {d : Nat} {Q : Option Value → aw_H → Prop} : aw_Sn l m_X3_decided none X d 0 0 Q 14 (k_X3_decided_14 l X d Q) := by
  unfold k_X3_decided_14
  exact s_aload_n dX3_decided_14 rfl (s_iload_n dX3_decided_15 rfl (s_cv dX3_decided_16 rfl (by decide) w_65 wi_X3_decide ws_X3_decide w_10 wc_X3_decide wd_X3_decide (s_iret dX3_decided_19 rfl)))
def k_X3_decided_0 (l : Launch) (X : Nat → aw_Kt) (d : Nat) (Q : Option Value → aw_H → Prop) : aw_Kt := o_al 0 (o_gf 3 0 (o_il 1 (o_cv l d m_X2_hasRow 2 1 (o_if (fun x => x = 0) (o_ic (-101) (o_ri Q)) (k_X3_decided_14 l X d Q)))))
theorem t_X3_decided_0 {l : Launch} {X : Nat → aw_Kt} {d : Nat} {Q : Option Value → aw_H → Prop} : aw_Sn l m_X3_decided none X d 0 0 Q 0 (k_X3_decided_0 l X d Q) := by
  unfold k_X3_decided_0
  exact s_aload_n dX3_decided_0 rfl (s_getf dX3_decided_1 rfl u_X3 (by decide) w_37 (s_iload_n dX3_decided_4 rfl (s_cv dX3_decided_5 rfl (by decide) w_42 wi_X2_hasRow ws_X2_hasRow w_9 wc_X2_hasRow wd_X2_hasRow (s_if_ne dX3_decided_8 (by decide) (s_bipush dX3_decided_11 (by decide) (s_iret dX3_decided_13 rfl)) t_X3_decided_14))))
/-! X3_learn -/
def k_X3_learn_45 (l : Launch) (X : Nat → aw_Kt) (d : Nat) (Q : Option Value → aw_H → Prop) : aw_Kt := o_al 0 (o_cv l d m_X3_learnRound 3 0 (o_px (o_il 1 (o_ri Q))))
theorem t_X3_learn_45 {l : Launch} {X : Nat → aw_Kt} {d : Nat} {Q : Option Value → aw_H → Prop} : aw_Sn l m_X3_learn none X d 0 0 Q 45 (k_X3_learn_45 l X d Q) := by
  unfold k_X3_learn_45
  exact s_aload_n dX3_learn_45 rfl (s_cv dX3_learn_46 rfl (by decide) w_66 wi_X3_learnRound ws_X3_learnRound w_10 wc_X3_learnRound wd_X3_learnRound (s_pop dX3_learn_49 (s_iload_n dX3_learn_50 rfl (s_iret dX3_learn_51 rfl))))
def k_X3_learn_39 (l : Launch) (X : Nat → aw_Kt) (d : Nat) (Q : Option Value → aw_H → Prop) : aw_Kt := o_ii 2 1 (SW l m_X3_learn none X d 0 0 Q 25)
theorem t_X3_learn_39 {l : Launch} {X : Nat → aw_Kt} {d : Nat} {Q : Option Value → aw_H → Prop} : aw_Sn l m_X3_learn none X d 0 0 Q 39 (k_X3_learn_39 l X d Q) := by
  unfold k_X3_learn_39
  exact s_iinc dX3_learn_39 (by decide) (by decide) (s_goto dX3_learn_42 (by decide) s_stop)
def k_X3_learn_25 (l : Launch) (X : Nat → aw_Kt) (d : Nat) (Q : Option Value → aw_H → Prop) : aw_Kt := o_il 2 (o_il 1 (o_i3 (fun x y => y ≤ x) (k_X3_learn_45 l X d Q) (o_al 0 (o_cv l d m_X3_learnRound 3 0 (o_if (fun x => x = 0) (o_il 2 (o_ri Q)) (k_X3_learn_39 l X d Q))))))
theorem t_X3_learn_25 {l : Launch} {X : Nat → aw_Kt} {d : Nat} {Q : Option Value → aw_H → Prop} : aw_Sn l m_X3_learn none X d 0 0 Q 25 (k_X3_learn_25 l X d Q) := by
  unfold k_X3_learn_25
  exact s_iload_n dX3_learn_25 rfl (s_iload_n dX3_learn_26 rfl (s_icmp_ge dX3_learn_27 (by decide) t_X3_learn_45 (s_aload_n dX3_learn_30 rfl (s_cv dX3_learn_31 rfl (by decide) w_66 wi_X3_learnRound ws_X3_learnRound w_10 wc_X3_learnRound wd_X3_learnRound (s_if_ne dX3_learn_34 (by decide) (s_iload_n dX3_learn_37 rfl (s_iret dX3_learn_38 rfl)) t_X3_learn_39)))))
def k_X3_learn_14 (l : Launch) (X : Nat → aw_Kt) (d : Nat) (Q : Option Value → aw_H → Prop) : aw_Kt := o_al 0 (o_gf 3 4 (o_ic 10 (o_cs l d m_J7_fill_53178 2 (o_ic 1 (o_is 2 (SW l m_X3_learn none X d 0 0 Q 25))))))
theorem t_X3_learn_14 {l : Launch} {X : Nat → aw_Kt} {d : Nat} {Q : Option Value → aw_H → Prop} : aw_Sn l m_X3_learn none X d 0 0 Q 14 (k_X3_learn_14 l X d Q) := by
  unfold k_X3_learn_14
  exact s_aload_n dX3_learn_14 rfl (s_getf dX3_learn_15 rfl u_X3 (by decide) w_51 (s_bipush dX3_learn_18 (by decide) (s_cs dX3_learn_20 (by decide) w_67 wt_J7_fill_53178 w_13 wc_J7_fill_53178 wd_J7_fill_53178 (s_iconst dX3_learn_23 (by decide) (s_istore_n dX3_learn_24 rfl (by decide) s_stop)))))
def k_X3_learn_11 (l : Launch) (X : Nat → aw_Kt) (d : Nat) (Q : Option Value → aw_H → Prop) : aw_Kt := o_ic (-102) (o_ri Q)
theorem t_X3_learn_11 {l : Launch} {X : Nat → aw_Kt} {d : Nat} {Q : Option Value → aw_H → Prop} : aw_Sn l m_X3_learn none X d 0 0 Q 11 (k_X3_learn_11 l X d Q) := by
  unfold k_X3_learn_11
  exact s_bipush dX3_learn_11 (by decide) (s_iret dX3_learn_13 rfl)
def k_X3_learn_0 (l : Launch) (X : Nat → aw_Kt) (d : Nat) (Q : Option Value → aw_H → Prop) : aw_Kt := o_il 1 (o_ic 1 (o_i3 (fun x y => x < y) (k_X3_learn_11 l X d Q) (o_il 1 (o_ic 20 (o_i3 (fun x y => x ≤ y) (k_X3_learn_14 l X d Q) (k_X3_learn_11 l X d Q))))))
theorem t_X3_learn_0 {l : Launch} {X : Nat → aw_Kt} {d : Nat} {Q : Option Value → aw_H → Prop} : aw_Sn l m_X3_learn none X d 0 0 Q 0 (k_X3_learn_0 l X d Q) := by
  unfold k_X3_learn_0
  exact s_iload_n dX3_learn_0 rfl (s_iconst dX3_learn_1 (by decide) (s_icmp_lt dX3_learn_2 (by decide) t_X3_learn_11 (s_iload_n dX3_learn_5 rfl (s_bipush dX3_learn_6 (by decide) (s_icmp_le dX3_learn_8 (by decide) t_X3_learn_14 t_X3_learn_11)))))
/-! X3_agree -/
def k_X3_agree_48 (l : Launch) (X : Nat → aw_Kt) (d : Nat) (Q : Option Value → aw_H → Prop) : aw_Kt := o_al 0 (o_gf 3 2 (o_al 0 (o_gf 3 0 (o_il 1 (o_il 2 (o_cv l d m_X0_measureTwo 0 3 (o_al 0 (o_il 3 (o_cv l d m_X3_partOfAgreement 3 1 (o_rl Q))))))))))
theorem t_X3_agree_48 {l : Launch} {X : Nat → aw_Kt} {d : Nat} {Q : Option Value → aw_H → Prop} : aw_Sn l m_X3_agree none X d 0 0 Q 48 (k_X3_agree_48 l X d Q) := by
  unfold k_X3_agree_48
  exact s_aload_n dX3_agree_48 rfl (s_getf dX3_agree_49 rfl u_X3 (by decide) w_68 (s_aload_n dX3_agree_52 rfl (s_getf dX3_agree_53 rfl u_X3 (by decide) w_37 (s_iload_n dX3_agree_56 rfl (s_iload_n dX3_agree_57 rfl (s_cv dX3_agree_58 rfl (by decide) w_70 wi_X0_measureTwo ws_X0_measureTwo w_6 wc_X0_measureTwo wd_X0_measureTwo (s_aload_n dX3_agree_61 rfl (s_iload_n dX3_agree_62 rfl (s_cv dX3_agree_63 rfl (by decide) w_69 wi_X3_partOfAgreement ws_X3_partOfAgreement w_10 wc_X3_partOfAgreement wd_X3_partOfAgreement (s_lret dX3_agree_66 rfl))))))))))
def k_X3_agree_29 (l : Launch) (X : Nat → aw_Kt) (d : Nat) (Q : Option Value → aw_H → Prop) : aw_Kt := o_il 3 (o_if (fun x => x < 0) (SW l m_X3_agree none X d 0 0 Q 38) (o_il 3 (o_ic 4 (o_i3 (fun x y => x < y) (k_X3_agree_48 l X d Q) (SW l m_X3_agree none X d 0 0 Q 38)))))
theorem t_X3_agree_29 {l : Launch} {X : Nat → aw_Kt} {d : Nat} {Q : Option Value → aw_H → Prop} : aw_Sn l m_X3_agree none X d 0 0 Q 29 (k_X3_agree_29 l X d Q) := by
  unfold k_X3_agree_29
  exact s_iload_n dX3_agree_29 rfl (s_if_lt dX3_agree_30 (by decide) s_stop (s_iload_n dX3_agree_33 rfl (s_iconst dX3_agree_34 (by decide) (s_icmp_lt dX3_agree_35 (by decide) t_X3_agree_48 s_stop))))
def k_X3_agree_0 (l : Launch) (X : Nat → aw_Kt) (d : Nat) (Q : Option Value → aw_H → Prop) : aw_Kt := o_il 1 (o_cs l d m_X3_isPerson 1 (o_if (fun x => x = 0) (SW l m_X3_agree none X d 0 0 Q 19) (o_il 2 (o_cs l d m_X3_isPerson 1 (o_if (fun x => x = 0) (SW l m_X3_agree none X d 0 0 Q 19) (o_il 1 (o_il 2 (o_i3 (fun x y => x = y) (SW l m_X3_agree none X d 0 0 Q 19) (k_X3_agree_29 l X d Q)))))))))
theorem t_X3_agree_0 {l : Launch} {X : Nat → aw_Kt} {d : Nat} {Q : Option Value → aw_H → Prop} : aw_Sn l m_X3_agree none X d 0 0 Q 0 (k_X3_agree_0 l X d Q) := by
  unfold k_X3_agree_0
  exact s_iload_n dX3_agree_0 rfl (s_cs dX3_agree_1 (by decide) w_43 wt_X3_isPerson w_10 wc_X3_isPerson wd_X3_isPerson (s_if_eq dX3_agree_4 (by decide) s_stop (s_iload_n dX3_agree_7 rfl (s_cs dX3_agree_8 (by decide) w_43 wt_X3_isPerson w_10 wc_X3_isPerson wd_X3_isPerson (s_if_eq dX3_agree_11 (by decide) s_stop (s_iload_n dX3_agree_14 rfl (s_iload_n dX3_agree_15 rfl (s_icmp_ne dX3_agree_16 (by decide) s_stop t_X3_agree_29))))))))
/-! X3_all -/
def k_X3_all_19 (l : Launch) (X : Nat → aw_Kt) (d : Nat) (Q : Option Value → aw_H → Prop) : aw_Kt := o_al 0 (o_gf 3 2 (o_al 0 (o_gf 3 0 (o_cv l d m_X0_measureAll 0 1 (o_al 0 (o_il 1 (o_cv l d m_X3_partOfAgreement 3 1 (o_rl Q))))))))
theorem t_X3_all_19 {l : Launch} {X : Nat → aw_Kt} {d : Nat} {Q : Option Value → aw_H → Prop} : aw_Sn l m_X3_all none X d 0 0 Q 19 (k_X3_all_19 l X d Q) := by
  unfold k_X3_all_19
  exact s_aload_n dX3_all_19 rfl (s_getf dX3_all_20 rfl u_X3 (by decide) w_68 (s_aload_n dX3_all_23 rfl (s_getf dX3_all_24 rfl u_X3 (by decide) w_37 (s_cv dX3_all_27 rfl (by decide) w_71 wi_X0_measureAll ws_X0_measureAll w_6 wc_X0_measureAll wd_X0_measureAll (s_aload_n dX3_all_30 rfl (s_iload_n dX3_all_31 rfl (s_cv dX3_all_32 rfl (by decide) w_69 wi_X3_partOfAgreement ws_X3_partOfAgreement w_10 wc_X3_partOfAgreement wd_X3_partOfAgreement (s_lret dX3_all_35 rfl))))))))
def k_X3_all_0 (l : Launch) (X : Nat → aw_Kt) (d : Nat) (Q : Option Value → aw_H → Prop) : aw_Kt := o_il 1 (o_if (fun x => x < 0) (SW l m_X3_all none X d 0 0 Q 9) (o_il 1 (o_ic 4 (o_i3 (fun x y => x < y) (k_X3_all_19 l X d Q) (SW l m_X3_all none X d 0 0 Q 9)))))
theorem t_X3_all_0 {l : Launch} {X : Nat → aw_Kt} {d : Nat} {Q : Option Value → aw_H → Prop} : aw_Sn l m_X3_all none X d 0 0 Q 0 (k_X3_all_0 l X d Q) := by
  unfold k_X3_all_0
  exact s_iload_n dX3_all_0 rfl (s_if_lt dX3_all_1 (by decide) s_stop (s_iload_n dX3_all_4 rfl (s_iconst dX3_all_5 (by decide) (s_icmp_lt dX3_all_6 (by decide) t_X3_all_19 s_stop))))
/-! X3_next -/
def k_X3_next_135 (l : Launch) (X : Nat → aw_Kt) (d : Nat) (Q : Option Value → aw_H → Prop) : aw_Kt := o_il 2 (o_ri Q)
theorem t_X3_next_135 {l : Launch} {X : Nat → aw_Kt} {d : Nat} {Q : Option Value → aw_H → Prop} : aw_Sn l m_X3_next none X d 0 0 Q 135 (k_X3_next_135 l X d Q) := by
  unfold k_X3_next_135
  exact s_iload_n dX3_next_135 rfl (s_iret dX3_next_136 rfl)
def k_X3_next_129 (l : Launch) (X : Nat → aw_Kt) (d : Nat) (Q : Option Value → aw_H → Prop) : aw_Kt := o_ii 5 1 (SW l m_X3_next none X d 0 0 Q 30)
theorem t_X3_next_129 {l : Launch} {X : Nat → aw_Kt} {d : Nat} {Q : Option Value → aw_H → Prop} : aw_Sn l m_X3_next none X d 0 0 Q 129 (k_X3_next_129 l X d Q) := by
  unfold k_X3_next_129
  exact s_iinc dX3_next_129 (by decide) (by decide) (s_goto dX3_next_132 (by decide) s_stop)
def k_X3_next_119 (l : Launch) (X : Nat → aw_Kt) (d : Nat) (Q : Option Value → aw_H → Prop) : aw_Kt := o_il 5 (o_is 2 (o_il 6 (o_is 3 (o_il 7 (o_is 4 (k_X3_next_129 l X d Q))))))
theorem t_X3_next_119 {l : Launch} {X : Nat → aw_Kt} {d : Nat} {Q : Option Value → aw_H → Prop} : aw_Sn l m_X3_next none X d 0 0 Q 119 (k_X3_next_119 l X d Q) := by
  unfold k_X3_next_119
  exact s_iload dX3_next_119 (s_istore_n dX3_next_121 rfl (by decide) (s_iload dX3_next_122 (s_istore_n dX3_next_124 rfl (by decide) (s_iload dX3_next_125 (s_istore dX3_next_127 (by decide) t_X3_next_129)))))
def k_X3_next_72 (l : Launch) (X : Nat → aw_Kt) (d : Nat) (Q : Option Value → aw_H → Prop) : aw_Kt := o_al 0 (o_il 5 (o_cv l d m_X3_countVotes 3 1 (o_al 0 (o_cv l d m_X3_leadInTally 3 0 (o_is 6 (o_al 0 (o_gf 3 0 (o_il 5 (o_cv l d m_X2_givenOn 2 1 (o_is 7 (o_il 2 (o_ic (-1) (o_i3 (fun x y => x = y) (k_X3_next_119 l X d Q) (o_il 6 (o_il 3 (o_i3 (fun x y => x < y) (k_X3_next_119 l X d Q) (o_il 6 (o_il 3 (o_i3 (fun x y => x = y) (o_il 7 (o_il 4 (o_i3 (fun x y => y ≤ x) (k_X3_next_129 l X d Q) (k_X3_next_119 l X d Q)))) (k_X3_next_129 l X d Q))))))))))))))))))))
theorem t_X3_next_72 {l : Launch} {X : Nat → aw_Kt} {d : Nat} {Q : Option Value → aw_H → Prop} : aw_Sn l m_X3_next none X d 0 0 Q 72 (k_X3_next_72 l X d Q) := by
  unfold k_X3_next_72
  exact s_aload_n dX3_next_72 rfl (s_iload dX3_next_73 (s_cv dX3_next_75 rfl (by decide) w_64 wi_X3_countVotes ws_X3_countVotes w_10 wc_X3_countVotes wd_X3_countVotes (s_aload_n dX3_next_78 rfl (s_cv dX3_next_79 rfl (by decide) w_73 wi_X3_leadInTally ws_X3_leadInTally w_10 wc_X3_leadInTally wd_X3_leadInTally (s_istore dX3_next_82 (by decide) (s_aload_n dX3_next_84 rfl (s_getf dX3_next_85 rfl u_X3 (by decide) w_37 (s_iload dX3_next_88 (s_cv dX3_next_90 rfl (by decide) w_72 wi_X2_givenOn ws_X2_givenOn w_9 wc_X2_givenOn wd_X2_givenOn (s_istore dX3_next_93 (by decide) (s_iload_n dX3_next_95 rfl (s_iconst dX3_next_96 (by decide) (s_icmp_eq dX3_next_97 (by decide) t_X3_next_119 (s_iload dX3_next_100 (s_iload_n dX3_next_102 rfl (s_icmp_lt dX3_next_103 (by decide) t_X3_next_119 (s_iload dX3_next_106 (s_iload_n dX3_next_108 rfl (s_icmp_ne dX3_next_109 (by decide) (s_iload dX3_next_112 (s_iload dX3_next_114 (s_icmp_ge dX3_next_116 (by decide) t_X3_next_129 t_X3_next_119))) t_X3_next_129)))))))))))))))))))
def k_X3_next_30 (l : Launch) (X : Nat → aw_Kt) (d : Nat) (Q : Option Value → aw_H → Prop) : aw_Kt := o_il 5 (o_al 0 (o_gf 3 0 (o_cv l d m_X2_size 2 0 (o_i3 (fun x y => y ≤ x) (k_X3_next_135 l X d Q) (o_al 0 (o_gf 3 0 (o_il 1 (o_il 5 (o_cv l d m_X2_given 2 2 (o_ic (-1) (o_i3 (fun x y => x = y) (o_al 0 (o_gf 3 0 (o_il 5 (o_cv l d m_X2_known 2 1 (o_ic (-1) (o_i3 (fun x y => x = y) (k_X3_next_72 l X d Q) (k_X3_next_129 l X d Q))))))) (k_X3_next_129 l X d Q))))))))))))
theorem t_X3_next_30 {l : Launch} {X : Nat → aw_Kt} {d : Nat} {Q : Option Value → aw_H → Prop} : aw_Sn l m_X3_next none X d 0 0 Q 30 (k_X3_next_30 l X d Q) := by
  unfold k_X3_next_30
  exact s_iload dX3_next_30 (s_aload_n dX3_next_32 rfl (s_getf dX3_next_33 rfl u_X3 (by decide) w_37 (s_cv dX3_next_36 rfl (by decide) w_62 wi_X2_size ws_X2_size w_9 wc_X2_size wd_X2_size (s_icmp_ge dX3_next_39 (by decide) t_X3_next_135 (s_aload_n dX3_next_42 rfl (s_getf dX3_next_43 rfl u_X3 (by decide) w_37 (s_iload_n dX3_next_46 rfl (s_iload dX3_next_47 (s_cv dX3_next_49 rfl (by decide) w_40 wi_X2_given ws_X2_given w_9 wc_X2_given wd_X2_given (s_iconst dX3_next_52 (by decide) (s_icmp_ne dX3_next_53 (by decide) (s_aload_n dX3_next_56 rfl (s_getf dX3_next_57 rfl u_X3 (by decide) w_37 (s_iload dX3_next_60 (s_cv dX3_next_62 rfl (by decide) w_45 wi_X2_known ws_X2_known w_9 wc_X2_known wd_X2_known (s_iconst dX3_next_65 (by decide) (s_icmp_eq dX3_next_66 (by decide) t_X3_next_72 (s_goto dX3_next_69 (by decide) t_X3_next_129))))))) t_X3_next_129)))))))))))
def k_X3_next_20 (l : Launch) (X : Nat → aw_Kt) (d : Nat) (Q : Option Value → aw_H → Prop) : aw_Kt := o_ic (-1) (o_is 2 (o_ic 0 (o_is 3 (o_ic 0 (o_is 4 (o_ic 0 (o_is 5 (SW l m_X3_next none X d 0 0 Q 30))))))))
theorem t_X3_next_20 {l : Launch} {X : Nat → aw_Kt} {d : Nat} {Q : Option Value → aw_H → Prop} : aw_Sn l m_X3_next none X d 0 0 Q 20 (k_X3_next_20 l X d Q) := by
  unfold k_X3_next_20
  exact s_iconst dX3_next_20 (by decide) (s_istore_n dX3_next_21 rfl (by decide) (s_iconst dX3_next_22 (by decide) (s_istore_n dX3_next_23 rfl (by decide) (s_iconst dX3_next_24 (by decide) (s_istore dX3_next_25 (by decide) (s_iconst dX3_next_27 (by decide) (s_istore dX3_next_28 (by decide) s_stop)))))))
def k_X3_next_10 (l : Launch) (X : Nat → aw_Kt) (d : Nat) (Q : Option Value → aw_H → Prop) : aw_Kt := o_al 0 (o_il 1 (o_cv l d m_X3_isBarred 3 1 (o_if (fun x => x = 0) (k_X3_next_20 l X d Q) (o_ic (-1) (o_ri Q)))))
theorem t_X3_next_10 {l : Launch} {X : Nat → aw_Kt} {d : Nat} {Q : Option Value → aw_H → Prop} : aw_Sn l m_X3_next none X d 0 0 Q 10 (k_X3_next_10 l X d Q) := by
  unfold k_X3_next_10
  exact s_aload_n dX3_next_10 rfl (s_iload_n dX3_next_11 rfl (s_cv dX3_next_12 rfl (by decide) w_49 wi_X3_isBarred ws_X3_isBarred w_10 wc_X3_isBarred wd_X3_isBarred (s_if_eq dX3_next_15 (by decide) t_X3_next_20 (s_iconst dX3_next_18 (by decide) (s_iret dX3_next_19 rfl)))))
def k_X3_next_0 (l : Launch) (X : Nat → aw_Kt) (d : Nat) (Q : Option Value → aw_H → Prop) : aw_Kt := o_il 1 (o_cs l d m_X3_isPerson 1 (o_if (fun x => x = 0) (o_ic (-101) (o_ri Q)) (k_X3_next_10 l X d Q)))
theorem t_X3_next_0 {l : Launch} {X : Nat → aw_Kt} {d : Nat} {Q : Option Value → aw_H → Prop} : aw_Sn l m_X3_next none X d 0 0 Q 0 (k_X3_next_0 l X d Q) := by
  unfold k_X3_next_0
  exact s_iload_n dX3_next_0 rfl (s_cs dX3_next_1 (by decide) w_43 wt_X3_isPerson w_10 wc_X3_isPerson wd_X3_isPerson (s_if_ne dX3_next_4 (by decide) (s_bipush dX3_next_7 (by decide) (s_iret dX3_next_9 rfl)) t_X3_next_10))
/-! X3_about -/
def k_X3_about_97 (l : Launch) (X : Nat → aw_Kt) (d : Nat) (Q : Option Value → aw_H → Prop) : aw_Kt := o_ic (-102) (o_ri Q)
theorem t_X3_about_97 {l : Launch} {X : Nat → aw_Kt} {d : Nat} {Q : Option Value → aw_H → Prop} : aw_Sn l m_X3_about none X d 0 0 Q 97 (k_X3_about_97 l X d Q) := by
  unfold k_X3_about_97
  exact s_bipush dX3_about_97 (by decide) (s_iret dX3_about_99 rfl)
def k_X3_about_92 (l : Launch) (X : Nat → aw_Kt) (d : Nat) (Q : Option Value → aw_H → Prop) : aw_Kt := o_al 0 (o_cv l d m_X3_countDisputed 3 0 (o_ri Q))
theorem t_X3_about_92 {l : Launch} {X : Nat → aw_Kt} {d : Nat} {Q : Option Value → aw_H → Prop} : aw_Sn l m_X3_about none X d 0 0 Q 92 (k_X3_about_92 l X d Q) := by
  unfold k_X3_about_92
  exact s_aload_n dX3_about_92 rfl (s_cv dX3_about_93 rfl (by decide) w_74 wi_X3_countDisputed ws_X3_countDisputed w_10 wc_X3_countDisputed wd_X3_countDisputed (s_iret dX3_about_96 rfl))
def k_X3_about_87 (l : Launch) (X : Nat → aw_Kt) (d : Nat) (Q : Option Value → aw_H → Prop) : aw_Kt := o_al 0 (o_cv l d m_X3_countBarred 3 0 (o_ri Q))
theorem t_X3_about_87 {l : Launch} {X : Nat → aw_Kt} {d : Nat} {Q : Option Value → aw_H → Prop} : aw_Sn l m_X3_about none X d 0 0 Q 87 (k_X3_about_87 l X d Q) := by
  unfold k_X3_about_87
  exact s_aload_n dX3_about_87 rfl (s_cv dX3_about_88 rfl (by decide) w_75 wi_X3_countBarred ws_X3_countBarred w_10 wc_X3_countBarred wd_X3_countBarred (s_iret dX3_about_91 rfl))
def k_X3_about_82 (l : Launch) (X : Nat → aw_Kt) (d : Nat) (Q : Option Value → aw_H → Prop) : aw_Kt := o_al 0 (o_gf 3 5 (o_ri Q))
theorem t_X3_about_82 {l : Launch} {X : Nat → aw_Kt} {d : Nat} {Q : Option Value → aw_H → Prop} : aw_Sn l m_X3_about none X d 0 0 Q 82 (k_X3_about_82 l X d Q) := by
  unfold k_X3_about_82
  exact s_aload_n dX3_about_82 rfl (s_getf dX3_about_83 rfl u_X3 (by decide) w_46 (s_iret dX3_about_86 rfl))
def k_X3_about_74 (l : Launch) (X : Nat → aw_Kt) (d : Nat) (Q : Option Value → aw_H → Prop) : aw_Kt := o_al 0 (o_gf 3 0 (o_cv l d m_X2_countKnown 2 0 (o_ri Q)))
theorem t_X3_about_74 {l : Launch} {X : Nat → aw_Kt} {d : Nat} {Q : Option Value → aw_H → Prop} : aw_Sn l m_X3_about none X d 0 0 Q 74 (k_X3_about_74 l X d Q) := by
  unfold k_X3_about_74
  exact s_aload_n dX3_about_74 rfl (s_getf dX3_about_75 rfl u_X3 (by decide) w_37 (s_cv dX3_about_78 rfl (by decide) w_76 wi_X2_countKnown ws_X2_countKnown w_9 wc_X2_countKnown wd_X2_countKnown (s_iret dX3_about_81 rfl)))
def k_X3_about_69 (l : Launch) (X : Nat → aw_Kt) (d : Nat) (Q : Option Value → aw_H → Prop) : aw_Kt := o_al 0 (o_cv l d m_X3_countDecided 3 0 (o_ri Q))
theorem t_X3_about_69 {l : Launch} {X : Nat → aw_Kt} {d : Nat} {Q : Option Value → aw_H → Prop} : aw_Sn l m_X3_about none X d 0 0 Q 69 (k_X3_about_69 l X d Q) := by
  unfold k_X3_about_69
  exact s_aload_n dX3_about_69 rfl (s_cv dX3_about_70 rfl (by decide) w_77 wi_X3_countDecided ws_X3_countDecided w_10 wc_X3_countDecided wd_X3_countDecided (s_iret dX3_about_73 rfl))
def k_X3_about_61 (l : Launch) (X : Nat → aw_Kt) (d : Nat) (Q : Option Value → aw_H → Prop) : aw_Kt := o_al 0 (o_gf 3 1 (o_cv l d m_X1_size 1 0 (o_ri Q)))
theorem t_X3_about_61 {l : Launch} {X : Nat → aw_Kt} {d : Nat} {Q : Option Value → aw_H → Prop} : aw_Sn l m_X3_about none X d 0 0 Q 61 (k_X3_about_61 l X d Q) := by
  unfold k_X3_about_61
  exact s_aload_n dX3_about_61 rfl (s_getf dX3_about_62 rfl u_X3 (by decide) w_52 (s_cv dX3_about_65 rfl (by decide) w_78 wi_X1_size ws_X1_size w_53 wc_X1_size wd_X1_size (s_iret dX3_about_68 rfl)))
def k_X3_about_56 (l : Launch) (X : Nat → aw_Kt) (d : Nat) (Q : Option Value → aw_H → Prop) : aw_Kt := o_al 0 (o_cv l d m_X3_countLabellings 3 0 (o_ri Q))
theorem t_X3_about_56 {l : Launch} {X : Nat → aw_Kt} {d : Nat} {Q : Option Value → aw_H → Prop} : aw_Sn l m_X3_about none X d 0 0 Q 56 (k_X3_about_56 l X d Q) := by
  unfold k_X3_about_56
  exact s_aload_n dX3_about_56 rfl (s_cv dX3_about_57 rfl (by decide) w_79 wi_X3_countLabellings ws_X3_countLabellings w_10 wc_X3_countLabellings wd_X3_countLabellings (s_iret dX3_about_60 rfl))
def k_X3_about_48 (l : Launch) (X : Nat → aw_Kt) (d : Nat) (Q : Option Value → aw_H → Prop) : aw_Kt := o_al 0 (o_gf 3 0 (o_cv l d m_X2_size 2 0 (o_ri Q)))
theorem t_X3_about_48 {l : Launch} {X : Nat → aw_Kt} {d : Nat} {Q : Option Value → aw_H → Prop} : aw_Sn l m_X3_about none X d 0 0 Q 48 (k_X3_about_48 l X d Q) := by
  unfold k_X3_about_48
  exact s_aload_n dX3_about_48 rfl (s_getf dX3_about_49 rfl u_X3 (by decide) w_37 (s_cv dX3_about_52 rfl (by decide) w_62 wi_X2_size ws_X2_size w_9 wc_X2_size wd_X2_size (s_iret dX3_about_55 rfl)))
def k_X3_about_0 (l : Launch) (X : Nat → aw_Kt) (d : Nat) (Q : Option Value → aw_H → Prop) : aw_Kt := o_il 1 (o_ts 0 7 [(k_X3_about_48 l X d Q), (k_X3_about_56 l X d Q), (k_X3_about_61 l X d Q), (k_X3_about_69 l X d Q), (k_X3_about_74 l X d Q), (k_X3_about_82 l X d Q), (k_X3_about_87 l X d Q), (k_X3_about_92 l X d Q)] (k_X3_about_97 l X d Q))
theorem t_X3_about_0 {l : Launch} {X : Nat → aw_Kt} {d : Nat} {Q : Option Value → aw_H → Prop} : aw_Sn l m_X3_about none X d 0 0 Q 0 (k_X3_about_0 l X d Q) := by
  unfold k_X3_about_0
  exact s_iload_n dX3_about_0 rfl (s_tsw dX3_about_1 (by decide) (by decide) (by decide) t_X3_about_97 ⟨⟨48, by decide, t_X3_about_48⟩, ⟨⟨56, by decide, t_X3_about_56⟩, ⟨⟨61, by decide, t_X3_about_61⟩, ⟨⟨69, by decide, t_X3_about_69⟩, ⟨⟨74, by decide, t_X3_about_74⟩, ⟨⟨82, by decide, t_X3_about_82⟩, ⟨⟨87, by decide, t_X3_about_87⟩, ⟨⟨92, by decide, t_X3_about_92⟩, trivial⟩⟩⟩⟩⟩⟩⟩⟩)
/-! X3_isPerson -/
def k_X3_isPerson_15 (l : Launch) (X : Nat → aw_Kt) (d : Nat) (Q : Option Value → aw_H → Prop) : aw_Kt := o_rz Q
theorem t_X3_isPerson_15 {l : Launch} {X : Nat → aw_Kt} {d : Nat} {Q : Option Value → aw_H → Prop} : aw_Sn l m_X3_isPerson none X d 0 0 Q 15 (k_X3_isPerson_15 l X d Q) := by
  unfold k_X3_isPerson_15
  exact s_zret dX3_isPerson_15 rfl
def k_X3_isPerson_14 (l : Launch) (X : Nat → aw_Kt) (d : Nat) (Q : Option Value → aw_H → Prop) : aw_Kt := o_ic 0 (k_X3_isPerson_15 l X d Q)
theorem t_X3_isPerson_14 {l : Launch} {X : Nat → aw_Kt} {d : Nat} {Q : Option Value → aw_H → Prop} : aw_Sn l m_X3_isPerson none X d 0 0 Q 14 (k_X3_isPerson_14 l X d Q) := by
  unfold k_X3_isPerson_14
  exact s_iconst dX3_isPerson_14 (by decide) t_X3_isPerson_15
def k_X3_isPerson_0 (l : Launch) (X : Nat → aw_Kt) (d : Nat) (Q : Option Value → aw_H → Prop) : aw_Kt := o_il 0 (o_if (fun x => x < 0) (k_X3_isPerson_14 l X d Q) (o_il 0 (o_ic 8 (o_i3 (fun x y => y ≤ x) (k_X3_isPerson_14 l X d Q) (o_ic 1 (k_X3_isPerson_15 l X d Q))))))
theorem t_X3_isPerson_0 {l : Launch} {X : Nat → aw_Kt} {d : Nat} {Q : Option Value → aw_H → Prop} : aw_Sn l m_X3_isPerson none X d 0 0 Q 0 (k_X3_isPerson_0 l X d Q) := by
  unfold k_X3_isPerson_0
  exact s_iload_n dX3_isPerson_0 rfl (s_if_lt dX3_isPerson_1 (by decide) t_X3_isPerson_14 (s_iload_n dX3_isPerson_4 rfl (s_bipush dX3_isPerson_5 (by decide) (s_icmp_ge dX3_isPerson_7 (by decide) t_X3_isPerson_14 (s_iconst dX3_isPerson_10 (by decide) (s_goto dX3_isPerson_11 (by decide) t_X3_isPerson_15))))))
/-! X3_isLabel -/
def k_X3_isLabel_14 (l : Launch) (X : Nat → aw_Kt) (d : Nat) (Q : Option Value → aw_H → Prop) : aw_Kt := o_rz Q
theorem t_X3_isLabel_14 {l : Launch} {X : Nat → aw_Kt} {d : Nat} {Q : Option Value → aw_H → Prop} : aw_Sn l m_X3_isLabel none X d 0 0 Q 14 (k_X3_isLabel_14 l X d Q) := by
  unfold k_X3_isLabel_14
  exact s_zret dX3_isLabel_14 rfl
def k_X3_isLabel_13 (l : Launch) (X : Nat → aw_Kt) (d : Nat) (Q : Option Value → aw_H → Prop) : aw_Kt := o_ic 0 (k_X3_isLabel_14 l X d Q)
theorem t_X3_isLabel_13 {l : Launch} {X : Nat → aw_Kt} {d : Nat} {Q : Option Value → aw_H → Prop} : aw_Sn l m_X3_isLabel none X d 0 0 Q 13 (k_X3_isLabel_13 l X d Q) := by
  unfold k_X3_isLabel_13
  exact s_iconst dX3_isLabel_13 (by decide) t_X3_isLabel_14
def k_X3_isLabel_0 (l : Launch) (X : Nat → aw_Kt) (d : Nat) (Q : Option Value → aw_H → Prop) : aw_Kt := o_il 0 (o_if (fun x => x < 0) (k_X3_isLabel_13 l X d Q) (o_il 0 (o_ic 5 (o_i3 (fun x y => y ≤ x) (k_X3_isLabel_13 l X d Q) (o_ic 1 (k_X3_isLabel_14 l X d Q))))))
theorem t_X3_isLabel_0 {l : Launch} {X : Nat → aw_Kt} {d : Nat} {Q : Option Value → aw_H → Prop} : aw_Sn l m_X3_isLabel none X d 0 0 Q 0 (k_X3_isLabel_0 l X d Q) := by
  unfold k_X3_isLabel_0
  exact s_iload_n dX3_isLabel_0 rfl (s_if_lt dX3_isLabel_1 (by decide) t_X3_isLabel_13 (s_iload_n dX3_isLabel_4 rfl (s_iconst dX3_isLabel_5 (by decide) (s_icmp_ge dX3_isLabel_6 (by decide) t_X3_isLabel_13 (s_iconst dX3_isLabel_9 (by decide) (s_goto dX3_isLabel_10 (by decide) t_X3_isLabel_14))))))
/-! X3_isFeature -/
def k_X3_isFeature_14 (l : Launch) (X : Nat → aw_Kt) (d : Nat) (Q : Option Value → aw_H → Prop) : aw_Kt := o_rz Q
theorem t_X3_isFeature_14 {l : Launch} {X : Nat → aw_Kt} {d : Nat} {Q : Option Value → aw_H → Prop} : aw_Sn l m_X3_isFeature none X d 0 0 Q 14 (k_X3_isFeature_14 l X d Q) := by
  unfold k_X3_isFeature_14
  exact s_zret dX3_isFeature_14 rfl
def k_X3_isFeature_13 (l : Launch) (X : Nat → aw_Kt) (d : Nat) (Q : Option Value → aw_H → Prop) : aw_Kt := o_ic 0 (k_X3_isFeature_14 l X d Q)
theorem t_X3_isFeature_13 {l : Launch} {X : Nat → aw_Kt} {d : Nat} {Q : Option Value → aw_H → Prop} : aw_Sn l m_X3_isFeature none X d 0 0 Q 13 (k_X3_isFeature_13 l X d Q) := by
  unfold k_X3_isFeature_13
  exact s_iconst dX3_isFeature_13 (by decide) t_X3_isFeature_14
def k_X3_isFeature_0 (l : Launch) (X : Nat → aw_Kt) (d : Nat) (Q : Option Value → aw_H → Prop) : aw_Kt := o_il 0 (o_if (fun x => x < 0) (k_X3_isFeature_13 l X d Q) (o_il 0 (o_ic 4 (o_i3 (fun x y => y ≤ x) (k_X3_isFeature_13 l X d Q) (o_ic 1 (k_X3_isFeature_14 l X d Q))))))
theorem t_X3_isFeature_0 {l : Launch} {X : Nat → aw_Kt} {d : Nat} {Q : Option Value → aw_H → Prop} : aw_Sn l m_X3_isFeature none X d 0 0 Q 0 (k_X3_isFeature_0 l X d Q) := by
  unfold k_X3_isFeature_0
  exact s_iload_n dX3_isFeature_0 rfl (s_if_lt dX3_isFeature_1 (by decide) t_X3_isFeature_13 (s_iload_n dX3_isFeature_4 rfl (s_iconst dX3_isFeature_5 (by decide) (s_icmp_ge dX3_isFeature_6 (by decide) t_X3_isFeature_13 (s_iconst dX3_isFeature_9 (by decide) (s_goto dX3_isFeature_10 (by decide) t_X3_isFeature_14))))))
/-! X3_isPlace -/
def k_X3_isPlace_15 (l : Launch) (X : Nat → aw_Kt) (d : Nat) (Q : Option Value → aw_H → Prop) : aw_Kt := o_rz Q
theorem t_X3_isPlace_15 {l : Launch} {X : Nat → aw_Kt} {d : Nat} {Q : Option Value → aw_H → Prop} : aw_Sn l m_X3_isPlace none X d 0 0 Q 15 (k_X3_isPlace_15 l X d Q) := by
  unfold k_X3_isPlace_15
  exact s_zret dX3_isPlace_15 rfl
def k_X3_isPlace_14 (l : Launch) (X : Nat → aw_Kt) (d : Nat) (Q : Option Value → aw_H → Prop) : aw_Kt := o_ic 0 (k_X3_isPlace_15 l X d Q)
theorem t_X3_isPlace_14 {l : Launch} {X : Nat → aw_Kt} {d : Nat} {Q : Option Value → aw_H → Prop} : aw_Sn l m_X3_isPlace none X d 0 0 Q 14 (k_X3_isPlace_14 l X d Q) := by
  unfold k_X3_isPlace_14
  exact s_iconst dX3_isPlace_14 (by decide) t_X3_isPlace_15
def k_X3_isPlace_0 (l : Launch) (X : Nat → aw_Kt) (d : Nat) (Q : Option Value → aw_H → Prop) : aw_Kt := o_il 0 (o_if (fun x => x < 0) (k_X3_isPlace_14 l X d Q) (o_il 0 (o_ic 8 (o_i3 (fun x y => y ≤ x) (k_X3_isPlace_14 l X d Q) (o_ic 1 (k_X3_isPlace_15 l X d Q))))))
theorem t_X3_isPlace_0 {l : Launch} {X : Nat → aw_Kt} {d : Nat} {Q : Option Value → aw_H → Prop} : aw_Sn l m_X3_isPlace none X d 0 0 Q 0 (k_X3_isPlace_0 l X d Q) := by
  unfold k_X3_isPlace_0
  exact s_iload_n dX3_isPlace_0 rfl (s_if_lt dX3_isPlace_1 (by decide) t_X3_isPlace_14 (s_iload_n dX3_isPlace_4 rfl (s_bipush dX3_isPlace_5 (by decide) (s_icmp_ge dX3_isPlace_7 (by decide) t_X3_isPlace_14 (s_iconst dX3_isPlace_10 (by decide) (s_goto dX3_isPlace_11 (by decide) t_X3_isPlace_15))))))
/-! X3_isBarred -/
def k_X3_isBarred_20 (l : Launch) (X : Nat → aw_Kt) (d : Nat) (Q : Option Value → aw_H → Prop) : aw_Kt := o_rz Q
theorem t_X3_isBarred_20 {l : Launch} {X : Nat → aw_Kt} {d : Nat} {Q : Option Value → aw_H → Prop} : aw_Sn l m_X3_isBarred none X d 0 0 Q 20 (k_X3_isBarred_20 l X d Q) := by
  unfold k_X3_isBarred_20
  exact s_zret dX3_isBarred_20 rfl
def k_X3_isBarred_19 (l : Launch) (X : Nat → aw_Kt) (d : Nat) (Q : Option Value → aw_H → Prop) : aw_Kt := o_ic 0 (k_X3_isBarred_20 l X d Q)
theorem t_X3_isBarred_19 {l : Launch} {X : Nat → aw_Kt} {d : Nat} {Q : Option Value → aw_H → Prop} : aw_Sn l m_X3_isBarred none X d 0 0 Q 19 (k_X3_isBarred_19 l X d Q) := by
  unfold k_X3_isBarred_19
  exact s_iconst dX3_isBarred_19 (by decide) t_X3_isBarred_20
def k_X3_isBarred_0 (l : Launch) (X : Nat → aw_Kt) (d : Nat) (Q : Option Value → aw_H → Prop) : aw_Kt := o_al 0 (o_gf 3 0 (o_il 1 (o_cv l d m_X2_wrongOf 2 1 (o_al 0 (o_gf 3 5 (o_i3 (fun x y => x < y) (k_X3_isBarred_19 l X d Q) (o_ic 1 (k_X3_isBarred_20 l X d Q))))))))
theorem t_X3_isBarred_0 {l : Launch} {X : Nat → aw_Kt} {d : Nat} {Q : Option Value → aw_H → Prop} : aw_Sn l m_X3_isBarred none X d 0 0 Q 0 (k_X3_isBarred_0 l X d Q) := by
  unfold k_X3_isBarred_0
  exact s_aload_n dX3_isBarred_0 rfl (s_getf dX3_isBarred_1 rfl u_X3 (by decide) w_37 (s_iload_n dX3_isBarred_4 rfl (s_cv dX3_isBarred_5 rfl (by decide) w_50 wi_X2_wrongOf ws_X2_wrongOf w_9 wc_X2_wrongOf wd_X2_wrongOf (s_aload_n dX3_isBarred_8 rfl (s_getf dX3_isBarred_9 rfl u_X3 (by decide) w_46 (s_icmp_lt dX3_isBarred_12 (by decide) t_X3_isBarred_19 (s_iconst dX3_isBarred_15 (by decide) (s_goto dX3_isBarred_16 (by decide) t_X3_isBarred_20))))))))
/-! X3_countVotes -/
def k_X3_countVotes_127 (l : Launch) (X : Nat → aw_Kt) (d : Nat) (Q : Option Value → aw_H → Prop) : aw_Kt := o_rv Q
theorem t_X3_countVotes_127 {l : Launch} {X : Nat → aw_Kt} {d : Nat} {Q : Option Value → aw_H → Prop} : aw_Sn l m_X3_countVotes none X d 0 0 Q 127 (k_X3_countVotes_127 l X d Q) := by
  unfold k_X3_countVotes_127
  exact s_vret dX3_countVotes_127 rfl
def k_X3_countVotes_121 (l : Launch) (X : Nat → aw_Kt) (d : Nat) (Q : Option Value → aw_H → Prop) : aw_Kt := o_ii 2 1 (SW l m_X3_countVotes none X d 0 0 Q 64)
theorem t_X3_countVotes_121 {l : Launch} {X : Nat → aw_Kt} {d : Nat} {Q : Option Value → aw_H → Prop} : aw_Sn l m_X3_countVotes none X d 0 0 Q 121 (k_X3_countVotes_121 l X d Q) := by
  unfold k_X3_countVotes_121
  exact s_iinc dX3_countVotes_121 (by decide) (by decide) (s_goto dX3_countVotes_124 (by decide) s_stop)
def k_X3_countVotes_103 (l : Launch) (X : Nat → aw_Kt) (d : Nat) (Q : Option Value → aw_H → Prop) : aw_Kt := o_is 3 (o_il 3 (o_cs l d m_X3_isLabel 1 (o_if (fun x => x = 0) (k_X3_countVotes_121 l X d Q) (o_al 0 (o_gf 3 6 (o_il 3 (o_d2 (o_ia 0 (o_ic 1 (o_ib (fun x y => x + y) (o_xa (k_X3_countVotes_121 l X d Q))))))))))))
theorem t_X3_countVotes_103 {l : Launch} {X : Nat → aw_Kt} {d : Nat} {Q : Option Value → aw_H → Prop} : aw_Sn l m_X3_countVotes none X d 0 0 Q 103 (k_X3_countVotes_103 l X d Q) := by
  unfold k_X3_countVotes_103
  exact s_istore_n dX3_countVotes_103 rfl (by decide) (s_iload_n dX3_countVotes_104 rfl (s_cs dX3_countVotes_105 (by decide) w_41 wt_X3_isLabel w_10 wc_X3_isLabel wd_X3_isLabel (s_if_eq dX3_countVotes_108 (by decide) t_X3_countVotes_121 (s_aload_n dX3_countVotes_111 rfl (s_getf dX3_countVotes_112 rfl u_X3 (by decide) w_63 (s_iload_n dX3_countVotes_115 rfl (s_dup2 dX3_countVotes_116 (s_iaload dX3_countVotes_117 (s_iconst dX3_countVotes_118 (by decide) (s_iadd dX3_countVotes_119 (s_iastore dX3_countVotes_120 t_X3_countVotes_121)))))))))))
def k_X3_countVotes_102 (l : Launch) (X : Nat → aw_Kt) (d : Nat) (Q : Option Value → aw_H → Prop) : aw_Kt := o_ic (-1) (k_X3_countVotes_103 l X d Q)
theorem t_X3_countVotes_102 {l : Launch} {X : Nat → aw_Kt} {d : Nat} {Q : Option Value → aw_H → Prop} : aw_Sn l m_X3_countVotes none X d 0 0 Q 102 (k_X3_countVotes_102 l X d Q) := by
  unfold k_X3_countVotes_102
  exact s_iconst dX3_countVotes_102 (by decide) t_X3_countVotes_103
def k_X3_countVotes_64 (l : Launch) (X : Nat → aw_Kt) (d : Nat) (Q : Option Value → aw_H → Prop) : aw_Kt := o_il 2 (o_al 0 (o_gf 3 1 (o_cv l d m_X1_size 1 0 (o_i3 (fun x y => y ≤ x) (k_X3_countVotes_127 l X d Q) (o_al 0 (o_gf 3 1 (o_il 2 (o_cv l d m_X1_isOn 1 1 (o_if (fun x => x = 0) (k_X3_countVotes_102 l X d Q) (o_al 0 (o_gf 3 1 (o_il 2 (o_al 0 (o_gf 3 0 (o_il 1 (o_cv l d m_X1_wordOn 1 3 (k_X3_countVotes_103 l X d Q)))))))))))))))))
theorem t_X3_countVotes_64 {l : Launch} {X : Nat → aw_Kt} {d : Nat} {Q : Option Value → aw_H → Prop} : aw_Sn l m_X3_countVotes none X d 0 0 Q 64 (k_X3_countVotes_64 l X d Q) := by
  unfold k_X3_countVotes_64
  exact s_iload_n dX3_countVotes_64 rfl (s_aload_n dX3_countVotes_65 rfl (s_getf dX3_countVotes_66 rfl u_X3 (by decide) w_52 (s_cv dX3_countVotes_69 rfl (by decide) w_78 wi_X1_size ws_X1_size w_53 wc_X1_size wd_X1_size (s_icmp_ge dX3_countVotes_72 (by decide) t_X3_countVotes_127 (s_aload_n dX3_countVotes_75 rfl (s_getf dX3_countVotes_76 rfl u_X3 (by decide) w_52 (s_iload_n dX3_countVotes_79 rfl (s_cv dX3_countVotes_80 rfl (by decide) w_57 wi_X1_isOn ws_X1_isOn w_53 wc_X1_isOn wd_X1_isOn (s_if_eq dX3_countVotes_83 (by decide) t_X3_countVotes_102 (s_aload_n dX3_countVotes_86 rfl (s_getf dX3_countVotes_87 rfl u_X3 (by decide) w_52 (s_iload_n dX3_countVotes_90 rfl (s_aload_n dX3_countVotes_91 rfl (s_getf dX3_countVotes_92 rfl u_X3 (by decide) w_37 (s_iload_n dX3_countVotes_95 rfl (s_cv dX3_countVotes_96 rfl (by decide) w_61 wi_X1_wordOn ws_X1_wordOn w_53 wc_X1_wordOn wd_X1_wordOn (s_goto dX3_countVotes_99 (by decide) t_X3_countVotes_103)))))))))))))))))
def k_X3_countVotes_62 (l : Launch) (X : Nat → aw_Kt) (d : Nat) (Q : Option Value → aw_H → Prop) : aw_Kt := o_ic 0 (o_is 2 (SW l m_X3_countVotes none X d 0 0 Q 64))
theorem t_X3_countVotes_62 {l : Launch} {X : Nat → aw_Kt} {d : Nat} {Q : Option Value → aw_H → Prop} : aw_Sn l m_X3_countVotes none X d 0 0 Q 62 (k_X3_countVotes_62 l X d Q) := by
  unfold k_X3_countVotes_62
  exact s_iconst dX3_countVotes_62 (by decide) (s_istore_n dX3_countVotes_63 rfl (by decide) s_stop)
def k_X3_countVotes_56 (l : Launch) (X : Nat → aw_Kt) (d : Nat) (Q : Option Value → aw_H → Prop) : aw_Kt := o_ii 2 1 (SW l m_X3_countVotes none X d 0 0 Q 10)
theorem t_X3_countVotes_56 {l : Launch} {X : Nat → aw_Kt} {d : Nat} {Q : Option Value → aw_H → Prop} : aw_Sn l m_X3_countVotes none X d 0 0 Q 56 (k_X3_countVotes_56 l X d Q) := by
  unfold k_X3_countVotes_56
  exact s_iinc dX3_countVotes_56 (by decide) (by decide) (s_goto dX3_countVotes_59 (by decide) s_stop)
def k_X3_countVotes_10 (l : Launch) (X : Nat → aw_Kt) (d : Nat) (Q : Option Value → aw_H → Prop) : aw_Kt := o_il 2 (o_ic 8 (o_i3 (fun x y => y ≤ x) (k_X3_countVotes_62 l X d Q) (o_al 0 (o_gf 3 0 (o_il 2 (o_il 1 (o_cv l d m_X2_given 2 2 (o_is 3 (o_il 3 (o_cs l d m_X3_isLabel 1 (o_if (fun x => x = 0) (k_X3_countVotes_56 l X d Q) (o_al 0 (o_il 2 (o_cv l d m_X3_isBarred 3 1 (o_if (fun x => x = 0) (o_al 0 (o_gf 3 6 (o_il 3 (o_d2 (o_ia 0 (o_al 0 (o_gf 3 4 (o_il 2 (o_ia 0 (o_ib (fun x y => x + y) (o_xa (k_X3_countVotes_56 l X d Q)))))))))))) (k_X3_countVotes_56 l X d Q))))))))))))))))
theorem t_X3_countVotes_10 {l : Launch} {X : Nat → aw_Kt} {d : Nat} {Q : Option Value → aw_H → Prop} : aw_Sn l m_X3_countVotes none X d 0 0 Q 10 (k_X3_countVotes_10 l X d Q) := by
  unfold k_X3_countVotes_10
  exact s_iload_n dX3_countVotes_10 rfl (s_bipush dX3_countVotes_11 (by decide) (s_icmp_ge dX3_countVotes_13 (by decide) t_X3_countVotes_62 (s_aload_n dX3_countVotes_16 rfl (s_getf dX3_countVotes_17 rfl u_X3 (by decide) w_37 (s_iload_n dX3_countVotes_20 rfl (s_iload_n dX3_countVotes_21 rfl (s_cv dX3_countVotes_22 rfl (by decide) w_40 wi_X2_given ws_X2_given w_9 wc_X2_given wd_X2_given (s_istore_n dX3_countVotes_25 rfl (by decide) (s_iload_n dX3_countVotes_26 rfl (s_cs dX3_countVotes_27 (by decide) w_41 wt_X3_isLabel w_10 wc_X3_isLabel wd_X3_isLabel (s_if_eq dX3_countVotes_30 (by decide) t_X3_countVotes_56 (s_aload_n dX3_countVotes_33 rfl (s_iload_n dX3_countVotes_34 rfl (s_cv dX3_countVotes_35 rfl (by decide) w_49 wi_X3_isBarred ws_X3_isBarred w_10 wc_X3_isBarred wd_X3_isBarred (s_if_ne dX3_countVotes_38 (by decide) (s_aload_n dX3_countVotes_41 rfl (s_getf dX3_countVotes_42 rfl u_X3 (by decide) w_63 (s_iload_n dX3_countVotes_45 rfl (s_dup2 dX3_countVotes_46 (s_iaload dX3_countVotes_47 (s_aload_n dX3_countVotes_48 rfl (s_getf dX3_countVotes_49 rfl u_X3 (by decide) w_51 (s_iload_n dX3_countVotes_52 rfl (s_iaload dX3_countVotes_53 (s_iadd dX3_countVotes_54 (s_iastore dX3_countVotes_55 t_X3_countVotes_56))))))))))) t_X3_countVotes_56)))))))))))))))
def k_X3_countVotes_0 (l : Launch) (X : Nat → aw_Kt) (d : Nat) (Q : Option Value → aw_H → Prop) : aw_Kt := o_al 0 (o_gf 3 6 (o_ic 0 (o_cs l d m_J7_fill_53178 2 (o_ic 0 (o_is 2 (SW l m_X3_countVotes none X d 0 0 Q 10))))))
theorem t_X3_countVotes_0 {l : Launch} {X : Nat → aw_Kt} {d : Nat} {Q : Option Value → aw_H → Prop} : aw_Sn l m_X3_countVotes none X d 0 0 Q 0 (k_X3_countVotes_0 l X d Q) := by
  unfold k_X3_countVotes_0
  exact s_aload_n dX3_countVotes_0 rfl (s_getf dX3_countVotes_1 rfl u_X3 (by decide) w_63 (s_iconst dX3_countVotes_4 (by decide) (s_cs dX3_countVotes_5 (by decide) w_67 wt_J7_fill_53178 w_13 wc_J7_fill_53178 wd_J7_fill_53178 (s_iconst dX3_countVotes_8 (by decide) (s_istore_n dX3_countVotes_9 rfl (by decide) s_stop)))))
/-! X3_decide -/
def k_X3_decide_45 (l : Launch) (X : Nat → aw_Kt) (d : Nat) (Q : Option Value → aw_H → Prop) : aw_Kt := o_ri Q
theorem t_X3_decide_45 {l : Launch} {X : Nat → aw_Kt} {d : Nat} {Q : Option Value → aw_H → Prop} : aw_Sn l m_X3_decide none X d 0 0 Q 45 (k_X3_decide_45 l X d Q) := by
  unfold k_X3_decide_45
  exact s_iret dX3_decide_45 rfl
def k_X3_decide_40 (l : Launch) (X : Nat → aw_Kt) (d : Nat) (Q : Option Value → aw_H → Prop) : aw_Kt := o_al 0 (o_il 1 (o_cv l d m_X3_expertOn 3 1 (k_X3_decide_45 l X d Q)))
theorem t_X3_decide_40 {l : Launch} {X : Nat → aw_Kt} {d : Nat} {Q : Option Value → aw_H → Prop} : aw_Sn l m_X3_decide none X d 0 0 Q 40 (k_X3_decide_40 l X d Q) := by
  unfold k_X3_decide_40
  exact s_aload_n dX3_decide_40 rfl (s_iload_n dX3_decide_41 rfl (s_cv dX3_decide_42 rfl (by decide) w_80 wi_X3_expertOn ws_X3_expertOn w_10 wc_X3_expertOn wd_X3_expertOn t_X3_decide_45))
def k_X3_decide_21 (l : Launch) (X : Nat → aw_Kt) (d : Nat) (Q : Option Value → aw_H → Prop) : aw_Kt := o_al 0 (o_il 1 (o_cv l d m_X3_countVotes 3 1 (o_al 0 (o_cv l d m_X3_winnerInTally 3 0 (o_is 2 (o_il 2 (o_ic (-1) (o_i3 (fun x y => x = y) (k_X3_decide_40 l X d Q) (o_il 2 (k_X3_decide_45 l X d Q))))))))))
theorem t_X3_decide_21 {l : Launch} {X : Nat → aw_Kt} {d : Nat} {Q : Option Value → aw_H → Prop} : aw_Sn l m_X3_decide none X d 0 0 Q 21 (k_X3_decide_21 l X d Q) := by
  unfold k_X3_decide_21
  exact s_aload_n dX3_decide_21 rfl (s_iload_n dX3_decide_22 rfl (s_cv dX3_decide_23 rfl (by decide) w_64 wi_X3_countVotes ws_X3_countVotes w_10 wc_X3_countVotes wd_X3_countVotes (s_aload_n dX3_decide_26 rfl (s_cv dX3_decide_27 rfl (by decide) w_81 wi_X3_winnerInTally ws_X3_winnerInTally w_10 wc_X3_winnerInTally wd_X3_winnerInTally (s_istore_n dX3_decide_30 rfl (by decide) (s_iload_n dX3_decide_31 rfl (s_iconst dX3_decide_32 (by decide) (s_icmp_eq dX3_decide_33 (by decide) t_X3_decide_40 (s_iload_n dX3_decide_36 rfl (s_goto dX3_decide_37 (by decide) t_X3_decide_45))))))))))
def k_X3_decide_0 (l : Launch) (X : Nat → aw_Kt) (d : Nat) (Q : Option Value → aw_H → Prop) : aw_Kt := o_al 0 (o_gf 3 0 (o_il 1 (o_cv l d m_X2_known 2 1 (o_ic (-1) (o_i3 (fun x y => x = y) (k_X3_decide_21 l X d Q) (o_al 0 (o_gf 3 0 (o_il 1 (o_cv l d m_X2_known 2 1 (o_ri Q))))))))))
theorem t_X3_decide_0 {l : Launch} {X : Nat → aw_Kt} {d : Nat} {Q : Option Value → aw_H → Prop} : aw_Sn l m_X3_decide none X d 0 0 Q 0 (k_X3_decide_0 l X d Q) := by
  unfold k_X3_decide_0
  exact s_aload_n dX3_decide_0 rfl (s_getf dX3_decide_1 rfl u_X3 (by decide) w_37 (s_iload_n dX3_decide_4 rfl (s_cv dX3_decide_5 rfl (by decide) w_45 wi_X2_known ws_X2_known w_9 wc_X2_known wd_X2_known (s_iconst dX3_decide_8 (by decide) (s_icmp_eq dX3_decide_9 (by decide) t_X3_decide_21 (s_aload_n dX3_decide_12 rfl (s_getf dX3_decide_13 rfl u_X3 (by decide) w_37 (s_iload_n dX3_decide_16 rfl (s_cv dX3_decide_17 rfl (by decide) w_45 wi_X2_known ws_X2_known w_9 wc_X2_known wd_X2_known (s_iret dX3_decide_20 rfl))))))))))
/-! X3_winnerInTally -/
def k_X3_winnerInTally_51 (l : Launch) (X : Nat → aw_Kt) (d : Nat) (Q : Option Value → aw_H → Prop) : aw_Kt := o_il 1 (o_ri Q)
theorem t_X3_winnerInTally_51 {l : Launch} {X : Nat → aw_Kt} {d : Nat} {Q : Option Value → aw_H → Prop} : aw_Sn l m_X3_winnerInTally none X d 0 0 Q 51 (k_X3_winnerInTally_51 l X d Q) := by
  unfold k_X3_winnerInTally_51
  exact s_iload_n dX3_winnerInTally_51 rfl (s_iret dX3_winnerInTally_52 rfl)
def k_X3_winnerInTally_45 (l : Launch) (X : Nat → aw_Kt) (d : Nat) (Q : Option Value → aw_H → Prop) : aw_Kt := o_ii 3 1 (SW l m_X3_winnerInTally none X d 0 0 Q 6)
theorem t_X3_winnerInTally_45 {l : Launch} {X : Nat → aw_Kt} {d : Nat} {Q : Option Value → aw_H → Prop} : aw_Sn l m_X3_winnerInTally none X d 0 0 Q 45 (k_X3_winnerInTally_45 l X d Q) := by
  unfold k_X3_winnerInTally_45
  exact s_iinc dX3_winnerInTally_45 (by decide) (by decide) (s_goto dX3_winnerInTally_48 (by decide) s_stop)
def k_X3_winnerInTally_33 (l : Launch) (X : Nat → aw_Kt) (d : Nat) (Q : Option Value → aw_H → Prop) : aw_Kt := o_al 0 (o_gf 3 6 (o_il 3 (o_ia 0 (o_il 2 (o_i3 (fun x y => x = y) (o_ic (-1) (o_is 1 (k_X3_winnerInTally_45 l X d Q))) (k_X3_winnerInTally_45 l X d Q))))))
theorem t_X3_winnerInTally_33 {l : Launch} {X : Nat → aw_Kt} {d : Nat} {Q : Option Value → aw_H → Prop} : aw_Sn l m_X3_winnerInTally none X d 0 0 Q 33 (k_X3_winnerInTally_33 l X d Q) := by
  unfold k_X3_winnerInTally_33
  exact s_aload_n dX3_winnerInTally_33 rfl (s_getf dX3_winnerInTally_34 rfl u_X3 (by decide) w_63 (s_iload_n dX3_winnerInTally_37 rfl (s_iaload dX3_winnerInTally_38 (s_iload_n dX3_winnerInTally_39 rfl (s_icmp_ne dX3_winnerInTally_40 (by decide) (s_iconst dX3_winnerInTally_43 (by decide) (s_istore_n dX3_winnerInTally_44 rfl (by decide) t_X3_winnerInTally_45)) t_X3_winnerInTally_45)))))
def k_X3_winnerInTally_6 (l : Launch) (X : Nat → aw_Kt) (d : Nat) (Q : Option Value → aw_H → Prop) : aw_Kt := o_il 3 (o_ic 5 (o_i3 (fun x y => y ≤ x) (k_X3_winnerInTally_51 l X d Q) (o_al 0 (o_gf 3 6 (o_il 3 (o_ia 0 (o_il 2 (o_i3 (fun x y => x ≤ y) (k_X3_winnerInTally_33 l X d Q) (o_al 0 (o_gf 3 6 (o_il 3 (o_ia 0 (o_is 2 (o_il 3 (o_is 1 (k_X3_winnerInTally_45 l X d Q))))))))))))))))
theorem t_X3_winnerInTally_6 {l : Launch} {X : Nat → aw_Kt} {d : Nat} {Q : Option Value → aw_H → Prop} : aw_Sn l m_X3_winnerInTally none X d 0 0 Q 6 (k_X3_winnerInTally_6 l X d Q) := by
  unfold k_X3_winnerInTally_6
  exact s_iload_n dX3_winnerInTally_6 rfl (s_iconst dX3_winnerInTally_7 (by decide) (s_icmp_ge dX3_winnerInTally_8 (by decide) t_X3_winnerInTally_51 (s_aload_n dX3_winnerInTally_11 rfl (s_getf dX3_winnerInTally_12 rfl u_X3 (by decide) w_63 (s_iload_n dX3_winnerInTally_15 rfl (s_iaload dX3_winnerInTally_16 (s_iload_n dX3_winnerInTally_17 rfl (s_icmp_le dX3_winnerInTally_18 (by decide) t_X3_winnerInTally_33 (s_aload_n dX3_winnerInTally_21 rfl (s_getf dX3_winnerInTally_22 rfl u_X3 (by decide) w_63 (s_iload_n dX3_winnerInTally_25 rfl (s_iaload dX3_winnerInTally_26 (s_istore_n dX3_winnerInTally_27 rfl (by decide) (s_iload_n dX3_winnerInTally_28 rfl (s_istore_n dX3_winnerInTally_29 rfl (by decide) (s_goto dX3_winnerInTally_30 (by decide) t_X3_winnerInTally_45))))))))))))))))
def k_X3_winnerInTally_0 (l : Launch) (X : Nat → aw_Kt) (d : Nat) (Q : Option Value → aw_H → Prop) : aw_Kt := o_ic (-1) (o_is 1 (o_ic 0 (o_is 2 (o_ic 0 (o_is 3 (SW l m_X3_winnerInTally none X d 0 0 Q 6))))))
theorem t_X3_winnerInTally_0 {l : Launch} {X : Nat → aw_Kt} {d : Nat} {Q : Option Value → aw_H → Prop} : aw_Sn l m_X3_winnerInTally none X d 0 0 Q 0 (k_X3_winnerInTally_0 l X d Q) := by
  unfold k_X3_winnerInTally_0
  exact s_iconst dX3_winnerInTally_0 (by decide) (s_istore_n dX3_winnerInTally_1 rfl (by decide) (s_iconst dX3_winnerInTally_2 (by decide) (s_istore_n dX3_winnerInTally_3 rfl (by decide) (s_iconst dX3_winnerInTally_4 (by decide) (s_istore_n dX3_winnerInTally_5 rfl (by decide) s_stop)))))
/-! X3_expertOn -/
def k_X3_expertOn_48 (l : Launch) (X : Nat → aw_Kt) (d : Nat) (Q : Option Value → aw_H → Prop) : aw_Kt := o_ic (-1) (o_ri Q)
theorem t_X3_expertOn_48 {l : Launch} {X : Nat → aw_Kt} {d : Nat} {Q : Option Value → aw_H → Prop} : aw_Sn l m_X3_expertOn none X d 0 0 Q 48 (k_X3_expertOn_48 l X d Q) := by
  unfold k_X3_expertOn_48
  exact s_iconst dX3_expertOn_48 (by decide) (s_iret dX3_expertOn_49 rfl)
def k_X3_expertOn_42 (l : Launch) (X : Nat → aw_Kt) (d : Nat) (Q : Option Value → aw_H → Prop) : aw_Kt := o_ii 2 1 (SW l m_X3_expertOn none X d 0 0 Q 2)
theorem t_X3_expertOn_42 {l : Launch} {X : Nat → aw_Kt} {d : Nat} {Q : Option Value → aw_H → Prop} : aw_Sn l m_X3_expertOn none X d 0 0 Q 42 (k_X3_expertOn_42 l X d Q) := by
  unfold k_X3_expertOn_42
  exact s_iinc dX3_expertOn_42 (by decide) (by decide) (s_goto dX3_expertOn_45 (by decide) s_stop)
def k_X3_expertOn_2 (l : Launch) (X : Nat → aw_Kt) (d : Nat) (Q : Option Value → aw_H → Prop) : aw_Kt := o_il 2 (o_ic 8 (o_i3 (fun x y => y ≤ x) (k_X3_expertOn_48 l X d Q) (o_al 0 (o_gf 3 0 (o_il 2 (o_il 1 (o_cv l d m_X2_given 2 2 (o_is 3 (o_al 0 (o_gf 3 3 (o_il 2 (o_ia 1 (o_if (fun x => x = 0) (k_X3_expertOn_42 l X d Q) (o_il 3 (o_ic (-1) (o_i3 (fun x y => x = y) (k_X3_expertOn_42 l X d Q) (o_al 0 (o_il 2 (o_cv l d m_X3_isBarred 3 1 (o_if (fun x => x = 0) (o_il 3 (o_ri Q)) (k_X3_expertOn_42 l X d Q)))))))))))))))))))))
theorem t_X3_expertOn_2 {l : Launch} {X : Nat → aw_Kt} {d : Nat} {Q : Option Value → aw_H → Prop} : aw_Sn l m_X3_expertOn none X d 0 0 Q 2 (k_X3_expertOn_2 l X d Q) := by
  unfold k_X3_expertOn_2
  exact s_iload_n dX3_expertOn_2 rfl (s_bipush dX3_expertOn_3 (by decide) (s_icmp_ge dX3_expertOn_5 (by decide) t_X3_expertOn_48 (s_aload_n dX3_expertOn_8 rfl (s_getf dX3_expertOn_9 rfl u_X3 (by decide) w_37 (s_iload_n dX3_expertOn_12 rfl (s_iload_n dX3_expertOn_13 rfl (s_cv dX3_expertOn_14 rfl (by decide) w_40 wi_X2_given ws_X2_given w_9 wc_X2_given wd_X2_given (s_istore_n dX3_expertOn_17 rfl (by decide) (s_aload_n dX3_expertOn_18 rfl (s_getf dX3_expertOn_19 rfl u_X3 (by decide) w_47 (s_iload_n dX3_expertOn_22 rfl (s_baload dX3_expertOn_23 (s_if_eq dX3_expertOn_24 (by decide) t_X3_expertOn_42 (s_iload_n dX3_expertOn_27 rfl (s_iconst dX3_expertOn_28 (by decide) (s_icmp_eq dX3_expertOn_29 (by decide) t_X3_expertOn_42 (s_aload_n dX3_expertOn_32 rfl (s_iload_n dX3_expertOn_33 rfl (s_cv dX3_expertOn_34 rfl (by decide) w_49 wi_X3_isBarred ws_X3_isBarred w_10 wc_X3_isBarred wd_X3_isBarred (s_if_ne dX3_expertOn_37 (by decide) (s_iload_n dX3_expertOn_40 rfl (s_iret dX3_expertOn_41 rfl)) t_X3_expertOn_42))))))))))))))))))))
def k_X3_expertOn_0 (l : Launch) (X : Nat → aw_Kt) (d : Nat) (Q : Option Value → aw_H → Prop) : aw_Kt := o_ic 0 (o_is 2 (SW l m_X3_expertOn none X d 0 0 Q 2))
theorem t_X3_expertOn_0 {l : Launch} {X : Nat → aw_Kt} {d : Nat} {Q : Option Value → aw_H → Prop} : aw_Sn l m_X3_expertOn none X d 0 0 Q 0 (k_X3_expertOn_0 l X d Q) := by
  unfold k_X3_expertOn_0
  exact s_iconst dX3_expertOn_0 (by decide) (s_istore_n dX3_expertOn_1 rfl (by decide) s_stop)
/-! X3_leadInTally -/
def k_X3_leadInTally_56 (l : Launch) (X : Nat → aw_Kt) (d : Nat) (Q : Option Value → aw_H → Prop) : aw_Kt := o_il 1 (o_il 2 (o_ib (fun x y => x - y) (o_ri Q)))
theorem t_X3_leadInTally_56 {l : Launch} {X : Nat → aw_Kt} {d : Nat} {Q : Option Value → aw_H → Prop} : aw_Sn l m_X3_leadInTally none X d 0 0 Q 56 (k_X3_leadInTally_56 l X d Q) := by
  unfold k_X3_leadInTally_56
  exact s_iload_n dX3_leadInTally_56 rfl (s_iload_n dX3_leadInTally_57 rfl (s_isub dX3_leadInTally_58 (s_iret dX3_leadInTally_59 rfl)))
def k_X3_leadInTally_50 (l : Launch) (X : Nat → aw_Kt) (d : Nat) (Q : Option Value → aw_H → Prop) : aw_Kt := o_ii 3 1 (SW l m_X3_leadInTally none X d 0 0 Q 6)
theorem t_X3_leadInTally_50 {l : Launch} {X : Nat → aw_Kt} {d : Nat} {Q : Option Value → aw_H → Prop} : aw_Sn l m_X3_leadInTally none X d 0 0 Q 50 (k_X3_leadInTally_50 l X d Q) := by
  unfold k_X3_leadInTally_50
  exact s_iinc dX3_leadInTally_50 (by decide) (by decide) (s_goto dX3_leadInTally_53 (by decide) s_stop)
def k_X3_leadInTally_33 (l : Launch) (X : Nat → aw_Kt) (d : Nat) (Q : Option Value → aw_H → Prop) : aw_Kt := o_al 0 (o_gf 3 6 (o_il 3 (o_ia 0 (o_il 2 (o_i3 (fun x y => x ≤ y) (k_X3_leadInTally_50 l X d Q) (o_al 0 (o_gf 3 6 (o_il 3 (o_ia 0 (o_is 2 (k_X3_leadInTally_50 l X d Q)))))))))))
theorem t_X3_leadInTally_33 {l : Launch} {X : Nat → aw_Kt} {d : Nat} {Q : Option Value → aw_H → Prop} : aw_Sn l m_X3_leadInTally none X d 0 0 Q 33 (k_X3_leadInTally_33 l X d Q) := by
  unfold k_X3_leadInTally_33
  exact s_aload_n dX3_leadInTally_33 rfl (s_getf dX3_leadInTally_34 rfl u_X3 (by decide) w_63 (s_iload_n dX3_leadInTally_37 rfl (s_iaload dX3_leadInTally_38 (s_iload_n dX3_leadInTally_39 rfl (s_icmp_le dX3_leadInTally_40 (by decide) t_X3_leadInTally_50 (s_aload_n dX3_leadInTally_43 rfl (s_getf dX3_leadInTally_44 rfl u_X3 (by decide) w_63 (s_iload_n dX3_leadInTally_47 rfl (s_iaload dX3_leadInTally_48 (s_istore_n dX3_leadInTally_49 rfl (by decide) t_X3_leadInTally_50))))))))))
def k_X3_leadInTally_6 (l : Launch) (X : Nat → aw_Kt) (d : Nat) (Q : Option Value → aw_H → Prop) : aw_Kt := o_il 3 (o_ic 5 (o_i3 (fun x y => y ≤ x) (k_X3_leadInTally_56 l X d Q) (o_al 0 (o_gf 3 6 (o_il 3 (o_ia 0 (o_il 1 (o_i3 (fun x y => x ≤ y) (k_X3_leadInTally_33 l X d Q) (o_il 1 (o_is 2 (o_al 0 (o_gf 3 6 (o_il 3 (o_ia 0 (o_is 1 (k_X3_leadInTally_50 l X d Q))))))))))))))))
theorem t_X3_leadInTally_6 {l : Launch} {X : Nat → aw_Kt} {d : Nat} {Q : Option Value → aw_H → Prop} : aw_Sn l m_X3_leadInTally none X d 0 0 Q 6 (k_X3_leadInTally_6 l X d Q) := by
  unfold k_X3_leadInTally_6
  exact s_iload_n dX3_leadInTally_6 rfl (s_iconst dX3_leadInTally_7 (by decide) (s_icmp_ge dX3_leadInTally_8 (by decide) t_X3_leadInTally_56 (s_aload_n dX3_leadInTally_11 rfl (s_getf dX3_leadInTally_12 rfl u_X3 (by decide) w_63 (s_iload_n dX3_leadInTally_15 rfl (s_iaload dX3_leadInTally_16 (s_iload_n dX3_leadInTally_17 rfl (s_icmp_le dX3_leadInTally_18 (by decide) t_X3_leadInTally_33 (s_iload_n dX3_leadInTally_21 rfl (s_istore_n dX3_leadInTally_22 rfl (by decide) (s_aload_n dX3_leadInTally_23 rfl (s_getf dX3_leadInTally_24 rfl u_X3 (by decide) w_63 (s_iload_n dX3_leadInTally_27 rfl (s_iaload dX3_leadInTally_28 (s_istore_n dX3_leadInTally_29 rfl (by decide) (s_goto dX3_leadInTally_30 (by decide) t_X3_leadInTally_50))))))))))))))))
def k_X3_leadInTally_0 (l : Launch) (X : Nat → aw_Kt) (d : Nat) (Q : Option Value → aw_H → Prop) : aw_Kt := o_ic 0 (o_is 1 (o_ic 0 (o_is 2 (o_ic 0 (o_is 3 (SW l m_X3_leadInTally none X d 0 0 Q 6))))))
theorem t_X3_leadInTally_0 {l : Launch} {X : Nat → aw_Kt} {d : Nat} {Q : Option Value → aw_H → Prop} : aw_Sn l m_X3_leadInTally none X d 0 0 Q 0 (k_X3_leadInTally_0 l X d Q) := by
  unfold k_X3_leadInTally_0
  exact s_iconst dX3_leadInTally_0 (by decide) (s_istore_n dX3_leadInTally_1 rfl (by decide) (s_iconst dX3_leadInTally_2 (by decide) (s_istore_n dX3_leadInTally_3 rfl (by decide) (s_iconst dX3_leadInTally_4 (by decide) (s_istore_n dX3_leadInTally_5 rfl (by decide) s_stop)))))
/-! X3_learnRound -/
def k_X3_learnRound_74 (l : Launch) (X : Nat → aw_Kt) (d : Nat) (Q : Option Value → aw_H → Prop) : aw_Kt := o_al 0 (o_gf 3 8 (o_ic 0 (o_al 0 (o_gf 3 4 (o_ic 0 (o_ic 8 (o_cp d (o_il 1 (o_rz Q)))))))))
theorem t_X3_learnRound_74 {l : Launch} {X : Nat → aw_Kt} {d : Nat} {Q : Option Value → aw_H → Prop} : aw_Sn l m_X3_learnRound none X d 0 0 Q 74 (k_X3_learnRound_74 l X d Q) := by
  unfold k_X3_learnRound_74
  exact s_aload_n dX3_learnRound_74 rfl (s_getf dX3_learnRound_75 rfl u_X3 (by decide) w_82 (s_iconst dX3_learnRound_78 (by decide) (s_aload_n dX3_learnRound_79 rfl (s_getf dX3_learnRound_80 rfl u_X3 (by decide) w_51 (s_iconst dX3_learnRound_83 (by decide) (s_bipush dX3_learnRound_84 (by decide) (s_copy dX3_learnRound_86 w_83 w_84 w_85 w_86 (s_iload_n dX3_learnRound_89 rfl (s_zret dX3_learnRound_90 rfl)))))))))
def k_X3_learnRound_68 (l : Launch) (X : Nat → aw_Kt) (d : Nat) (Q : Option Value → aw_H → Prop) : aw_Kt := o_ii 2 1 (SW l m_X3_learnRound none X d 0 0 Q 34)
theorem t_X3_learnRound_68 {l : Launch} {X : Nat → aw_Kt} {d : Nat} {Q : Option Value → aw_H → Prop} : aw_Sn l m_X3_learnRound none X d 0 0 Q 68 (k_X3_learnRound_68 l X d Q) := by
  unfold k_X3_learnRound_68
  exact s_iinc dX3_learnRound_68 (by decide) (by decide) (s_goto dX3_learnRound_71 (by decide) s_stop)
def k_X3_learnRound_34 (l : Launch) (X : Nat → aw_Kt) (d : Nat) (Q : Option Value → aw_H → Prop) : aw_Kt := o_il 2 (o_ic 8 (o_i3 (fun x y => y ≤ x) (k_X3_learnRound_74 l X d Q) (o_al 0 (o_gf 3 8 (o_il 2 (o_al 0 (o_il 2 (o_cv l d m_X3_earnedTrust 3 1 (o_xa (o_al 0 (o_gf 3 8 (o_il 2 (o_ia 0 (o_al 0 (o_gf 3 4 (o_il 2 (o_ia 0 (o_i3 (fun x y => x = y) (k_X3_learnRound_68 l X d Q) (o_ic 1 (o_is 1 (k_X3_learnRound_68 l X d Q)))))))))))))))))))))
theorem t_X3_learnRound_34 {l : Launch} {X : Nat → aw_Kt} {d : Nat} {Q : Option Value → aw_H → Prop} : aw_Sn l m_X3_learnRound none X d 0 0 Q 34 (k_X3_learnRound_34 l X d Q) := by
  unfold k_X3_learnRound_34
  exact s_iload_n dX3_learnRound_34 rfl (s_bipush dX3_learnRound_35 (by decide) (s_icmp_ge dX3_learnRound_37 (by decide) t_X3_learnRound_74 (s_aload_n dX3_learnRound_40 rfl (s_getf dX3_learnRound_41 rfl u_X3 (by decide) w_82 (s_iload_n dX3_learnRound_44 rfl (s_aload_n dX3_learnRound_45 rfl (s_iload_n dX3_learnRound_46 rfl (s_cv dX3_learnRound_47 rfl (by decide) w_87 wi_X3_earnedTrust ws_X3_earnedTrust w_10 wc_X3_earnedTrust wd_X3_earnedTrust (s_iastore dX3_learnRound_50 (s_aload_n dX3_learnRound_51 rfl (s_getf dX3_learnRound_52 rfl u_X3 (by decide) w_82 (s_iload_n dX3_learnRound_55 rfl (s_iaload dX3_learnRound_56 (s_aload_n dX3_learnRound_57 rfl (s_getf dX3_learnRound_58 rfl u_X3 (by decide) w_51 (s_iload_n dX3_learnRound_61 rfl (s_iaload dX3_learnRound_62 (s_icmp_eq dX3_learnRound_63 (by decide) t_X3_learnRound_68 (s_iconst dX3_learnRound_66 (by decide) (s_istore_n dX3_learnRound_67 rfl (by decide) t_X3_learnRound_68))))))))))))))))))))
def k_X3_learnRound_30 (l : Launch) (X : Nat → aw_Kt) (d : Nat) (Q : Option Value → aw_H → Prop) : aw_Kt := o_ic 0 (o_is 1 (o_ic 0 (o_is 2 (SW l m_X3_learnRound none X d 0 0 Q 34))))
theorem t_X3_learnRound_30 {l : Launch} {X : Nat → aw_Kt} {d : Nat} {Q : Option Value → aw_H → Prop} : aw_Sn l m_X3_learnRound none X d 0 0 Q 30 (k_X3_learnRound_30 l X d Q) := by
  unfold k_X3_learnRound_30
  exact s_iconst dX3_learnRound_30 (by decide) (s_istore_n dX3_learnRound_31 rfl (by decide) (s_iconst dX3_learnRound_32 (by decide) (s_istore_n dX3_learnRound_33 rfl (by decide) s_stop)))
def k_X3_learnRound_2 (l : Launch) (X : Nat → aw_Kt) (d : Nat) (Q : Option Value → aw_H → Prop) : aw_Kt := o_il 1 (o_al 0 (o_gf 3 0 (o_cv l d m_X2_size 2 0 (o_i3 (fun x y => y ≤ x) (k_X3_learnRound_30 l X d Q) (o_al 0 (o_gf 3 7 (o_il 1 (o_al 0 (o_il 1 (o_cv l d m_X3_decide 3 1 (o_xa (o_ii 1 1 (SW l m_X3_learnRound none X d 0 0 Q 2)))))))))))))
theorem t_X3_learnRound_2 {l : Launch} {X : Nat → aw_Kt} {d : Nat} {Q : Option Value → aw_H → Prop} : aw_Sn l m_X3_learnRound none X d 0 0 Q 2 (k_X3_learnRound_2 l X d Q) := by
  unfold k_X3_learnRound_2
  exact s_iload_n dX3_learnRound_2 rfl (s_aload_n dX3_learnRound_3 rfl (s_getf dX3_learnRound_4 rfl u_X3 (by decide) w_37 (s_cv dX3_learnRound_7 rfl (by decide) w_62 wi_X2_size ws_X2_size w_9 wc_X2_size wd_X2_size (s_icmp_ge dX3_learnRound_10 (by decide) t_X3_learnRound_30 (s_aload_n dX3_learnRound_13 rfl (s_getf dX3_learnRound_14 rfl u_X3 (by decide) w_88 (s_iload_n dX3_learnRound_17 rfl (s_aload_n dX3_learnRound_18 rfl (s_iload_n dX3_learnRound_19 rfl (s_cv dX3_learnRound_20 rfl (by decide) w_65 wi_X3_decide ws_X3_decide w_10 wc_X3_decide wd_X3_decide (s_iastore dX3_learnRound_23 (s_iinc dX3_learnRound_24 (by decide) (by decide) (s_goto dX3_learnRound_27 (by decide) s_stop)))))))))))))
def k_X3_learnRound_0 (l : Launch) (X : Nat → aw_Kt) (d : Nat) (Q : Option Value → aw_H → Prop) : aw_Kt := o_ic 0 (o_is 1 (SW l m_X3_learnRound none X d 0 0 Q 2))
theorem t_X3_learnRound_0 {l : Launch} {X : Nat → aw_Kt} {d : Nat} {Q : Option Value → aw_H → Prop} : aw_Sn l m_X3_learnRound none X d 0 0 Q 0 (k_X3_learnRound_0 l X d Q) := by
  unfold k_X3_learnRound_0
  exact s_iconst dX3_learnRound_0 (by decide) (s_istore_n dX3_learnRound_1 rfl (by decide) s_stop)
/-! X3_earnedTrust -/
def k_X3_earnedTrust_91 (l : Launch) (X : Nat → aw_Kt) (d : Nat) (Q : Option Value → aw_H → Prop) : aw_Kt := o_ri Q
theorem t_X3_earnedTrust_91 {l : Launch} {X : Nat → aw_Kt} {d : Nat} {Q : Option Value → aw_H → Prop} : aw_Sn l m_X3_earnedTrust none X d 0 0 Q 91 (k_X3_earnedTrust_91 l X d Q) := by
  unfold k_X3_earnedTrust_91
  exact s_iret dX3_earnedTrust_91 rfl
def k_X3_earnedTrust_83 (l : Launch) (X : Nat → aw_Kt) (d : Nat) (Q : Option Value → aw_H → Prop) : aw_Kt := o_ic 1 (o_ic 9 (o_il 3 (o_ib (fun x y => x * y) (o_il 2 (o_dv (o_ib (fun x y => x + y) (k_X3_earnedTrust_91 l X d Q)))))))
theorem t_X3_earnedTrust_83 {l : Launch} {X : Nat → aw_Kt} {d : Nat} {Q : Option Value → aw_H → Prop} : aw_Sn l m_X3_earnedTrust none X d 0 0 Q 83 (k_X3_earnedTrust_83 l X d Q) := by
  unfold k_X3_earnedTrust_83
  exact s_iconst dX3_earnedTrust_83 (by decide) (s_bipush dX3_earnedTrust_84 (by decide) (s_iload_n dX3_earnedTrust_86 rfl (s_imul dX3_earnedTrust_87 (s_iload_n dX3_earnedTrust_88 rfl (s_idiv dX3_earnedTrust_89 (s_iadd dX3_earnedTrust_90 t_X3_earnedTrust_91))))))
def k_X3_earnedTrust_75 (l : Launch) (X : Nat → aw_Kt) (d : Nat) (Q : Option Value → aw_H → Prop) : aw_Kt := o_il 2 (o_if (fun x => x = 0) (o_ic 1 (k_X3_earnedTrust_91 l X d Q)) (k_X3_earnedTrust_83 l X d Q))
theorem t_X3_earnedTrust_75 {l : Launch} {X : Nat → aw_Kt} {d : Nat} {Q : Option Value → aw_H → Prop} : aw_Sn l m_X3_earnedTrust none X d 0 0 Q 75 (k_X3_earnedTrust_75 l X d Q) := by
  unfold k_X3_earnedTrust_75
  exact s_iload_n dX3_earnedTrust_75 rfl (s_if_ne dX3_earnedTrust_76 (by decide) (s_iconst dX3_earnedTrust_79 (by decide) (s_goto dX3_earnedTrust_80 (by decide) t_X3_earnedTrust_91)) t_X3_earnedTrust_83)
def k_X3_earnedTrust_69 (l : Launch) (X : Nat → aw_Kt) (d : Nat) (Q : Option Value → aw_H → Prop) : aw_Kt := o_ii 4 1 (SW l m_X3_earnedTrust none X d 0 0 Q 7)
theorem t_X3_earnedTrust_69 {l : Launch} {X : Nat → aw_Kt} {d : Nat} {Q : Option Value → aw_H → Prop} : aw_Sn l m_X3_earnedTrust none X d 0 0 Q 69 (k_X3_earnedTrust_69 l X d Q) := by
  unfold k_X3_earnedTrust_69
  exact s_iinc dX3_earnedTrust_69 (by decide) (by decide) (s_goto dX3_earnedTrust_72 (by decide) s_stop)
def k_X3_earnedTrust_51 (l : Launch) (X : Nat → aw_Kt) (d : Nat) (Q : Option Value → aw_H → Prop) : aw_Kt := o_ii 2 1 (o_il 5 (o_al 0 (o_gf 3 7 (o_il 4 (o_ia 0 (o_i3 (fun x y => x = y) (o_ii 3 1 (k_X3_earnedTrust_69 l X d Q)) (k_X3_earnedTrust_69 l X d Q)))))))
theorem t_X3_earnedTrust_51 {l : Launch} {X : Nat → aw_Kt} {d : Nat} {Q : Option Value → aw_H → Prop} : aw_Sn l m_X3_earnedTrust none X d 0 0 Q 51 (k_X3_earnedTrust_51 l X d Q) := by
  unfold k_X3_earnedTrust_51
  exact s_iinc dX3_earnedTrust_51 (by decide) (by decide) (s_iload dX3_earnedTrust_54 (s_aload_n dX3_earnedTrust_56 rfl (s_getf dX3_earnedTrust_57 rfl u_X3 (by decide) w_88 (s_iload dX3_earnedTrust_60 (s_iaload dX3_earnedTrust_62 (s_icmp_ne dX3_earnedTrust_63 (by decide) (s_iinc dX3_earnedTrust_66 (by decide) (by decide) t_X3_earnedTrust_69) t_X3_earnedTrust_69))))))
def k_X3_earnedTrust_7 (l : Launch) (X : Nat → aw_Kt) (d : Nat) (Q : Option Value → aw_H → Prop) : aw_Kt := o_il 4 (o_al 0 (o_gf 3 0 (o_cv l d m_X2_size 2 0 (o_i3 (fun x y => y ≤ x) (k_X3_earnedTrust_75 l X d Q) (o_al 0 (o_gf 3 0 (o_il 1 (o_il 4 (o_cv l d m_X2_given 2 2 (o_is 5 (o_il 5 (o_ic (-1) (o_i3 (fun x y => x = y) (k_X3_earnedTrust_69 l X d Q) (o_al 0 (o_gf 3 7 (o_il 4 (o_ia 0 (o_ic (-1) (o_i3 (fun x y => x = y) (k_X3_earnedTrust_69 l X d Q) (k_X3_earnedTrust_51 l X d Q))))))))))))))))))))
theorem t_X3_earnedTrust_7 {l : Launch} {X : Nat → aw_Kt} {d : Nat} {Q : Option Value → aw_H → Prop} : aw_Sn l m_X3_earnedTrust none X d 0 0 Q 7 (k_X3_earnedTrust_7 l X d Q) := by
  unfold k_X3_earnedTrust_7
  exact s_iload dX3_earnedTrust_7 (s_aload_n dX3_earnedTrust_9 rfl (s_getf dX3_earnedTrust_10 rfl u_X3 (by decide) w_37 (s_cv dX3_earnedTrust_13 rfl (by decide) w_62 wi_X2_size ws_X2_size w_9 wc_X2_size wd_X2_size (s_icmp_ge dX3_earnedTrust_16 (by decide) t_X3_earnedTrust_75 (s_aload_n dX3_earnedTrust_19 rfl (s_getf dX3_earnedTrust_20 rfl u_X3 (by decide) w_37 (s_iload_n dX3_earnedTrust_23 rfl (s_iload dX3_earnedTrust_24 (s_cv dX3_earnedTrust_26 rfl (by decide) w_40 wi_X2_given ws_X2_given w_9 wc_X2_given wd_X2_given (s_istore dX3_earnedTrust_29 (by decide) (s_iload dX3_earnedTrust_31 (s_iconst dX3_earnedTrust_33 (by decide) (s_icmp_eq dX3_earnedTrust_34 (by decide) t_X3_earnedTrust_69 (s_aload_n dX3_earnedTrust_37 rfl (s_getf dX3_earnedTrust_38 rfl u_X3 (by decide) w_88 (s_iload dX3_earnedTrust_41 (s_iaload dX3_earnedTrust_43 (s_iconst dX3_earnedTrust_44 (by decide) (s_icmp_ne dX3_earnedTrust_45 (by decide) (s_goto dX3_earnedTrust_48 (by decide) t_X3_earnedTrust_69) t_X3_earnedTrust_51)))))))))))))))))))
def k_X3_earnedTrust_0 (l : Launch) (X : Nat → aw_Kt) (d : Nat) (Q : Option Value → aw_H → Prop) : aw_Kt := o_ic 0 (o_is 2 (o_ic 0 (o_is 3 (o_ic 0 (o_is 4 (SW l m_X3_earnedTrust none X d 0 0 Q 7))))))
theorem t_X3_earnedTrust_0 {l : Launch} {X : Nat → aw_Kt} {d : Nat} {Q : Option Value → aw_H → Prop} : aw_Sn l m_X3_earnedTrust none X d 0 0 Q 0 (k_X3_earnedTrust_0 l X d Q) := by
  unfold k_X3_earnedTrust_0
  exact s_iconst dX3_earnedTrust_0 (by decide) (s_istore_n dX3_earnedTrust_1 rfl (by decide) (s_iconst dX3_earnedTrust_2 (by decide) (s_istore_n dX3_earnedTrust_3 rfl (by decide) (s_iconst dX3_earnedTrust_4 (by decide) (s_istore dX3_earnedTrust_5 (by decide) s_stop)))))
/-! X3_partOfAgreement -/
def k_X3_partOfAgreement_71 (l : Launch) (X : Nat → aw_Kt) (d : Nat) (Q : Option Value → aw_H → Prop) : aw_Kt := o_rl Q
theorem t_X3_partOfAgreement_71 {l : Launch} {X : Nat → aw_Kt} {d : Nat} {Q : Option Value → aw_H → Prop} : aw_Sn l m_X3_partOfAgreement none X d 0 0 Q 71 (k_X3_partOfAgreement_71 l X d Q) := by
  unfold k_X3_partOfAgreement_71
  exact s_lret dX3_partOfAgreement_71 rfl
def k_X3_partOfAgreement_64 (l : Launch) (X : Nat → aw_Kt) (d : Nat) (Q : Option Value → aw_H → Prop) : aw_Kt := o_al 0 (o_gf 3 2 (o_cv l d m_X0_denominator 0 0 (k_X3_partOfAgreement_71 l X d Q)))
theorem t_X3_partOfAgreement_64 {l : Launch} {X : Nat → aw_Kt} {d : Nat} {Q : Option Value → aw_H → Prop} : aw_Sn l m_X3_partOfAgreement none X d 0 0 Q 64 (k_X3_partOfAgreement_64 l X d Q) := by
  unfold k_X3_partOfAgreement_64
  exact s_aload_n dX3_partOfAgreement_64 rfl (s_getf dX3_partOfAgreement_65 rfl u_X3 (by decide) w_68 (s_cv dX3_partOfAgreement_68 rfl (by decide) w_89 wi_X0_denominator ws_X0_denominator w_6 wc_X0_denominator wd_X0_denominator t_X3_partOfAgreement_71))
def k_X3_partOfAgreement_50 (l : Launch) (X : Nat → aw_Kt) (d : Nat) (Q : Option Value → aw_H → Prop) : aw_Kt := o_il 1 (o_if (fun x => x = 0) (o_al 0 (o_gf 3 2 (o_cv l d m_X0_numerator 0 0 (k_X3_partOfAgreement_71 l X d Q)))) (k_X3_partOfAgreement_64 l X d Q))
theorem t_X3_partOfAgreement_50 {l : Launch} {X : Nat → aw_Kt} {d : Nat} {Q : Option Value → aw_H → Prop} : aw_Sn l m_X3_partOfAgreement none X d 0 0 Q 50 (k_X3_partOfAgreement_50 l X d Q) := by
  unfold k_X3_partOfAgreement_50
  exact s_iload_n dX3_partOfAgreement_50 rfl (s_if_ne dX3_partOfAgreement_51 (by decide) (s_aload_n dX3_partOfAgreement_54 rfl (s_getf dX3_partOfAgreement_55 rfl u_X3 (by decide) w_68 (s_cv dX3_partOfAgreement_58 rfl (by decide) w_90 wi_X0_numerator ws_X0_numerator w_6 wc_X0_numerator wd_X0_numerator (s_goto dX3_partOfAgreement_61 (by decide) t_X3_partOfAgreement_71)))) t_X3_partOfAgreement_64)
def k_X3_partOfAgreement_28 (l : Launch) (X : Nat → aw_Kt) (d : Nat) (Q : Option Value → aw_H → Prop) : aw_Kt := o_al 0 (o_gf 3 2 (o_cv l d m_X0_denominator 0 0 (o_lc 0 (o_cm (o_if (fun x => x = 0) (SW l m_X3_partOfAgreement none X d 0 0 Q 40) (k_X3_partOfAgreement_50 l X d Q))))))
theorem t_X3_partOfAgreement_28 {l : Launch} {X : Nat → aw_Kt} {d : Nat} {Q : Option Value → aw_H → Prop} : aw_Sn l m_X3_partOfAgreement none X d 0 0 Q 28 (k_X3_partOfAgreement_28 l X d Q) := by
  unfold k_X3_partOfAgreement_28
  exact s_aload_n dX3_partOfAgreement_28 rfl (s_getf dX3_partOfAgreement_29 rfl u_X3 (by decide) w_68 (s_cv dX3_partOfAgreement_32 rfl (by decide) w_89 wi_X0_denominator ws_X0_denominator w_6 wc_X0_denominator wd_X0_denominator (s_lconst dX3_partOfAgreement_35 (by decide) (s_lcmp dX3_partOfAgreement_36 (s_if_ne dX3_partOfAgreement_37 (by decide) s_stop t_X3_partOfAgreement_50)))))
def k_X3_partOfAgreement_14 (l : Launch) (X : Nat → aw_Kt) (d : Nat) (Q : Option Value → aw_H → Prop) : aw_Kt := o_il 1 (o_ic 3 (o_i3 (fun x y => x = y) (o_al 0 (o_gf 3 2 (o_cv l d m_X0_secondCount 0 0 (o_i2 (o_rl Q))))) (k_X3_partOfAgreement_28 l X d Q)))
theorem t_X3_partOfAgreement_14 {l : Launch} {X : Nat → aw_Kt} {d : Nat} {Q : Option Value → aw_H → Prop} : aw_Sn l m_X3_partOfAgreement none X d 0 0 Q 14 (k_X3_partOfAgreement_14 l X d Q) := by
  unfold k_X3_partOfAgreement_14
  exact s_iload_n dX3_partOfAgreement_14 rfl (s_iconst dX3_partOfAgreement_15 (by decide) (s_icmp_ne dX3_partOfAgreement_16 (by decide) (s_aload_n dX3_partOfAgreement_19 rfl (s_getf dX3_partOfAgreement_20 rfl u_X3 (by decide) w_68 (s_cv dX3_partOfAgreement_23 rfl (by decide) w_91 wi_X0_secondCount ws_X0_secondCount w_6 wc_X0_secondCount wd_X0_secondCount (s_i2l dX3_partOfAgreement_26 (s_lret dX3_partOfAgreement_27 rfl))))) t_X3_partOfAgreement_28))
def k_X3_partOfAgreement_0 (l : Launch) (X : Nat → aw_Kt) (d : Nat) (Q : Option Value → aw_H → Prop) : aw_Kt := o_il 1 (o_ic 2 (o_i3 (fun x y => x = y) (o_al 0 (o_gf 3 2 (o_cv l d m_X0_rowCount 0 0 (o_i2 (o_rl Q))))) (k_X3_partOfAgreement_14 l X d Q)))
theorem t_X3_partOfAgreement_0 {l : Launch} {X : Nat → aw_Kt} {d : Nat} {Q : Option Value → aw_H → Prop} : aw_Sn l m_X3_partOfAgreement none X d 0 0 Q 0 (k_X3_partOfAgreement_0 l X d Q) := by
  unfold k_X3_partOfAgreement_0
  exact s_iload_n dX3_partOfAgreement_0 rfl (s_iconst dX3_partOfAgreement_1 (by decide) (s_icmp_ne dX3_partOfAgreement_2 (by decide) (s_aload_n dX3_partOfAgreement_5 rfl (s_getf dX3_partOfAgreement_6 rfl u_X3 (by decide) w_68 (s_cv dX3_partOfAgreement_9 rfl (by decide) w_92 wi_X0_rowCount ws_X0_rowCount w_6 wc_X0_rowCount wd_X0_rowCount (s_i2l dX3_partOfAgreement_12 (s_lret dX3_partOfAgreement_13 rfl))))) t_X3_partOfAgreement_14))
/-! X3_countLabellings -/
def k_X3_countLabellings_27 (l : Launch) (X : Nat → aw_Kt) (d : Nat) (Q : Option Value → aw_H → Prop) : aw_Kt := o_il 1 (o_ri Q)
theorem t_X3_countLabellings_27 {l : Launch} {X : Nat → aw_Kt} {d : Nat} {Q : Option Value → aw_H → Prop} : aw_Sn l m_X3_countLabellings none X d 0 0 Q 27 (k_X3_countLabellings_27 l X d Q) := by
  unfold k_X3_countLabellings_27
  exact s_iload_n dX3_countLabellings_27 rfl (s_iret dX3_countLabellings_28 rfl)
def k_X3_countLabellings_4 (l : Launch) (X : Nat → aw_Kt) (d : Nat) (Q : Option Value → aw_H → Prop) : aw_Kt := o_il 2 (o_ic 8 (o_i3 (fun x y => y ≤ x) (k_X3_countLabellings_27 l X d Q) (o_il 1 (o_al 0 (o_gf 3 0 (o_il 2 (o_cv l d m_X2_givenBy 2 1 (o_ib (fun x y => x + y) (o_is 1 (o_ii 2 1 (SW l m_X3_countLabellings none X d 0 0 Q 4)))))))))))
theorem t_X3_countLabellings_4 {l : Launch} {X : Nat → aw_Kt} {d : Nat} {Q : Option Value → aw_H → Prop} : aw_Sn l m_X3_countLabellings none X d 0 0 Q 4 (k_X3_countLabellings_4 l X d Q) := by
  unfold k_X3_countLabellings_4
  exact s_iload_n dX3_countLabellings_4 rfl (s_bipush dX3_countLabellings_5 (by decide) (s_icmp_ge dX3_countLabellings_7 (by decide) t_X3_countLabellings_27 (s_iload_n dX3_countLabellings_10 rfl (s_aload_n dX3_countLabellings_11 rfl (s_getf dX3_countLabellings_12 rfl u_X3 (by decide) w_37 (s_iload_n dX3_countLabellings_15 rfl (s_cv dX3_countLabellings_16 rfl (by decide) w_48 wi_X2_givenBy ws_X2_givenBy w_9 wc_X2_givenBy wd_X2_givenBy (s_iadd dX3_countLabellings_19 (s_istore_n dX3_countLabellings_20 rfl (by decide) (s_iinc dX3_countLabellings_21 (by decide) (by decide) (s_goto dX3_countLabellings_24 (by decide) s_stop)))))))))))
def k_X3_countLabellings_0 (l : Launch) (X : Nat → aw_Kt) (d : Nat) (Q : Option Value → aw_H → Prop) : aw_Kt := o_ic 0 (o_is 1 (o_ic 0 (o_is 2 (SW l m_X3_countLabellings none X d 0 0 Q 4))))
theorem t_X3_countLabellings_0 {l : Launch} {X : Nat → aw_Kt} {d : Nat} {Q : Option Value → aw_H → Prop} : aw_Sn l m_X3_countLabellings none X d 0 0 Q 0 (k_X3_countLabellings_0 l X d Q) := by
  unfold k_X3_countLabellings_0
  exact s_iconst dX3_countLabellings_0 (by decide) (s_istore_n dX3_countLabellings_1 rfl (by decide) (s_iconst dX3_countLabellings_2 (by decide) (s_istore_n dX3_countLabellings_3 rfl (by decide) s_stop)))
/-! X3_countDecided -/
def k_X3_countDecided_33 (l : Launch) (X : Nat → aw_Kt) (d : Nat) (Q : Option Value → aw_H → Prop) : aw_Kt := o_il 1 (o_ri Q)
theorem t_X3_countDecided_33 {l : Launch} {X : Nat → aw_Kt} {d : Nat} {Q : Option Value → aw_H → Prop} : aw_Sn l m_X3_countDecided none X d 0 0 Q 33 (k_X3_countDecided_33 l X d Q) := by
  unfold k_X3_countDecided_33
  exact s_iload_n dX3_countDecided_33 rfl (s_iret dX3_countDecided_34 rfl)
def k_X3_countDecided_27 (l : Launch) (X : Nat → aw_Kt) (d : Nat) (Q : Option Value → aw_H → Prop) : aw_Kt := o_ii 2 1 (SW l m_X3_countDecided none X d 0 0 Q 4)
theorem t_X3_countDecided_27 {l : Launch} {X : Nat → aw_Kt} {d : Nat} {Q : Option Value → aw_H → Prop} : aw_Sn l m_X3_countDecided none X d 0 0 Q 27 (k_X3_countDecided_27 l X d Q) := by
  unfold k_X3_countDecided_27
  exact s_iinc dX3_countDecided_27 (by decide) (by decide) (s_goto dX3_countDecided_30 (by decide) s_stop)
def k_X3_countDecided_4 (l : Launch) (X : Nat → aw_Kt) (d : Nat) (Q : Option Value → aw_H → Prop) : aw_Kt := o_il 2 (o_al 0 (o_gf 3 0 (o_cv l d m_X2_size 2 0 (o_i3 (fun x y => y ≤ x) (k_X3_countDecided_33 l X d Q) (o_al 0 (o_il 2 (o_cv l d m_X3_decide 3 1 (o_ic (-1) (o_i3 (fun x y => x = y) (k_X3_countDecided_27 l X d Q) (o_ii 1 1 (k_X3_countDecided_27 l X d Q)))))))))))
theorem t_X3_countDecided_4 {l : Launch} {X : Nat → aw_Kt} {d : Nat} {Q : Option Value → aw_H → Prop} : aw_Sn l m_X3_countDecided none X d 0 0 Q 4 (k_X3_countDecided_4 l X d Q) := by
  unfold k_X3_countDecided_4
  exact s_iload_n dX3_countDecided_4 rfl (s_aload_n dX3_countDecided_5 rfl (s_getf dX3_countDecided_6 rfl u_X3 (by decide) w_37 (s_cv dX3_countDecided_9 rfl (by decide) w_62 wi_X2_size ws_X2_size w_9 wc_X2_size wd_X2_size (s_icmp_ge dX3_countDecided_12 (by decide) t_X3_countDecided_33 (s_aload_n dX3_countDecided_15 rfl (s_iload_n dX3_countDecided_16 rfl (s_cv dX3_countDecided_17 rfl (by decide) w_65 wi_X3_decide ws_X3_decide w_10 wc_X3_decide wd_X3_decide (s_iconst dX3_countDecided_20 (by decide) (s_icmp_eq dX3_countDecided_21 (by decide) t_X3_countDecided_27 (s_iinc dX3_countDecided_24 (by decide) (by decide) t_X3_countDecided_27))))))))))
def k_X3_countDecided_0 (l : Launch) (X : Nat → aw_Kt) (d : Nat) (Q : Option Value → aw_H → Prop) : aw_Kt := o_ic 0 (o_is 1 (o_ic 0 (o_is 2 (SW l m_X3_countDecided none X d 0 0 Q 4))))
theorem t_X3_countDecided_0 {l : Launch} {X : Nat → aw_Kt} {d : Nat} {Q : Option Value → aw_H → Prop} : aw_Sn l m_X3_countDecided none X d 0 0 Q 0 (k_X3_countDecided_0 l X d Q) := by
  unfold k_X3_countDecided_0
  exact s_iconst dX3_countDecided_0 (by decide) (s_istore_n dX3_countDecided_1 rfl (by decide) (s_iconst dX3_countDecided_2 (by decide) (s_istore_n dX3_countDecided_3 rfl (by decide) s_stop)))
/-! X3_countBarred -/
def k_X3_countBarred_27 (l : Launch) (X : Nat → aw_Kt) (d : Nat) (Q : Option Value → aw_H → Prop) : aw_Kt := o_il 1 (o_ri Q)
theorem t_X3_countBarred_27 {l : Launch} {X : Nat → aw_Kt} {d : Nat} {Q : Option Value → aw_H → Prop} : aw_Sn l m_X3_countBarred none X d 0 0 Q 27 (k_X3_countBarred_27 l X d Q) := by
  unfold k_X3_countBarred_27
  exact s_iload_n dX3_countBarred_27 rfl (s_iret dX3_countBarred_28 rfl)
def k_X3_countBarred_21 (l : Launch) (X : Nat → aw_Kt) (d : Nat) (Q : Option Value → aw_H → Prop) : aw_Kt := o_ii 2 1 (SW l m_X3_countBarred none X d 0 0 Q 4)
theorem t_X3_countBarred_21 {l : Launch} {X : Nat → aw_Kt} {d : Nat} {Q : Option Value → aw_H → Prop} : aw_Sn l m_X3_countBarred none X d 0 0 Q 21 (k_X3_countBarred_21 l X d Q) := by
  unfold k_X3_countBarred_21
  exact s_iinc dX3_countBarred_21 (by decide) (by decide) (s_goto dX3_countBarred_24 (by decide) s_stop)
def k_X3_countBarred_4 (l : Launch) (X : Nat → aw_Kt) (d : Nat) (Q : Option Value → aw_H → Prop) : aw_Kt := o_il 2 (o_ic 8 (o_i3 (fun x y => y ≤ x) (k_X3_countBarred_27 l X d Q) (o_al 0 (o_il 2 (o_cv l d m_X3_isBarred 3 1 (o_if (fun x => x = 0) (k_X3_countBarred_21 l X d Q) (o_ii 1 1 (k_X3_countBarred_21 l X d Q))))))))
theorem t_X3_countBarred_4 {l : Launch} {X : Nat → aw_Kt} {d : Nat} {Q : Option Value → aw_H → Prop} : aw_Sn l m_X3_countBarred none X d 0 0 Q 4 (k_X3_countBarred_4 l X d Q) := by
  unfold k_X3_countBarred_4
  exact s_iload_n dX3_countBarred_4 rfl (s_bipush dX3_countBarred_5 (by decide) (s_icmp_ge dX3_countBarred_7 (by decide) t_X3_countBarred_27 (s_aload_n dX3_countBarred_10 rfl (s_iload_n dX3_countBarred_11 rfl (s_cv dX3_countBarred_12 rfl (by decide) w_49 wi_X3_isBarred ws_X3_isBarred w_10 wc_X3_isBarred wd_X3_isBarred (s_if_eq dX3_countBarred_15 (by decide) t_X3_countBarred_21 (s_iinc dX3_countBarred_18 (by decide) (by decide) t_X3_countBarred_21)))))))
def k_X3_countBarred_0 (l : Launch) (X : Nat → aw_Kt) (d : Nat) (Q : Option Value → aw_H → Prop) : aw_Kt := o_ic 0 (o_is 1 (o_ic 0 (o_is 2 (SW l m_X3_countBarred none X d 0 0 Q 4))))
theorem t_X3_countBarred_0 {l : Launch} {X : Nat → aw_Kt} {d : Nat} {Q : Option Value → aw_H → Prop} : aw_Sn l m_X3_countBarred none X d 0 0 Q 0 (k_X3_countBarred_0 l X d Q) := by
  unfold k_X3_countBarred_0
  exact s_iconst dX3_countBarred_0 (by decide) (s_istore_n dX3_countBarred_1 rfl (by decide) (s_iconst dX3_countBarred_2 (by decide) (s_istore_n dX3_countBarred_3 rfl (by decide) s_stop)))
/-! X3_countDisputed -/
def k_X3_countDisputed_32 (l : Launch) (X : Nat → aw_Kt) (d : Nat) (Q : Option Value → aw_H → Prop) : aw_Kt := o_il 1 (o_ri Q)
theorem t_X3_countDisputed_32 {l : Launch} {X : Nat → aw_Kt} {d : Nat} {Q : Option Value → aw_H → Prop} : aw_Sn l m_X3_countDisputed none X d 0 0 Q 32 (k_X3_countDisputed_32 l X d Q) := by
  unfold k_X3_countDisputed_32
  exact s_iload_n dX3_countDisputed_32 rfl (s_iret dX3_countDisputed_33 rfl)
def k_X3_countDisputed_26 (l : Launch) (X : Nat → aw_Kt) (d : Nat) (Q : Option Value → aw_H → Prop) : aw_Kt := o_ii 2 1 (SW l m_X3_countDisputed none X d 0 0 Q 4)
theorem t_X3_countDisputed_26 {l : Launch} {X : Nat → aw_Kt} {d : Nat} {Q : Option Value → aw_H → Prop} : aw_Sn l m_X3_countDisputed none X d 0 0 Q 26 (k_X3_countDisputed_26 l X d Q) := by
  unfold k_X3_countDisputed_26
  exact s_iinc dX3_countDisputed_26 (by decide) (by decide) (s_goto dX3_countDisputed_29 (by decide) s_stop)
def k_X3_countDisputed_4 (l : Launch) (X : Nat → aw_Kt) (d : Nat) (Q : Option Value → aw_H → Prop) : aw_Kt := o_il 2 (o_al 0 (o_gf 3 0 (o_cv l d m_X2_size 2 0 (o_i3 (fun x y => y ≤ x) (k_X3_countDisputed_32 l X d Q) (o_al 0 (o_il 2 (o_cv l d m_X3_isDisputed 3 1 (o_if (fun x => x = 0) (k_X3_countDisputed_26 l X d Q) (o_ii 1 1 (k_X3_countDisputed_26 l X d Q))))))))))
theorem t_X3_countDisputed_4 {l : Launch} {X : Nat → aw_Kt} {d : Nat} {Q : Option Value → aw_H → Prop} : aw_Sn l m_X3_countDisputed none X d 0 0 Q 4 (k_X3_countDisputed_4 l X d Q) := by
  unfold k_X3_countDisputed_4
  exact s_iload_n dX3_countDisputed_4 rfl (s_aload_n dX3_countDisputed_5 rfl (s_getf dX3_countDisputed_6 rfl u_X3 (by decide) w_37 (s_cv dX3_countDisputed_9 rfl (by decide) w_62 wi_X2_size ws_X2_size w_9 wc_X2_size wd_X2_size (s_icmp_ge dX3_countDisputed_12 (by decide) t_X3_countDisputed_32 (s_aload_n dX3_countDisputed_15 rfl (s_iload_n dX3_countDisputed_16 rfl (s_cv dX3_countDisputed_17 rfl (by decide) w_93 wi_X3_isDisputed ws_X3_isDisputed w_10 wc_X3_isDisputed wd_X3_isDisputed (s_if_eq dX3_countDisputed_20 (by decide) t_X3_countDisputed_26 (s_iinc dX3_countDisputed_23 (by decide) (by decide) t_X3_countDisputed_26)))))))))
def k_X3_countDisputed_0 (l : Launch) (X : Nat → aw_Kt) (d : Nat) (Q : Option Value → aw_H → Prop) : aw_Kt := o_ic 0 (o_is 1 (o_ic 0 (o_is 2 (SW l m_X3_countDisputed none X d 0 0 Q 4))))
theorem t_X3_countDisputed_0 {l : Launch} {X : Nat → aw_Kt} {d : Nat} {Q : Option Value → aw_H → Prop} : aw_Sn l m_X3_countDisputed none X d 0 0 Q 0 (k_X3_countDisputed_0 l X d Q) := by
  unfold k_X3_countDisputed_0
  exact s_iconst dX3_countDisputed_0 (by decide) (s_istore_n dX3_countDisputed_1 rfl (by decide) (s_iconst dX3_countDisputed_2 (by decide) (s_istore_n dX3_countDisputed_3 rfl (by decide) s_stop)))
/-! X3_isDisputed -/
def k_X3_isDisputed_78 (l : Launch) (X : Nat → aw_Kt) (d : Nat) (Q : Option Value → aw_H → Prop) : aw_Kt := o_ic 0 (o_rz Q)
theorem t_X3_isDisputed_78 {l : Launch} {X : Nat → aw_Kt} {d : Nat} {Q : Option Value → aw_H → Prop} : aw_Sn l m_X3_isDisputed none X d 0 0 Q 78 (k_X3_isDisputed_78 l X d Q) := by
  unfold k_X3_isDisputed_78
  exact s_iconst dX3_isDisputed_78 (by decide) (s_zret dX3_isDisputed_79 rfl)
def k_X3_isDisputed_72 (l : Launch) (X : Nat → aw_Kt) (d : Nat) (Q : Option Value → aw_H → Prop) : aw_Kt := o_ii 3 1 (SW l m_X3_isDisputed none X d 0 0 Q 4)
theorem t_X3_isDisputed_72 {l : Launch} {X : Nat → aw_Kt} {d : Nat} {Q : Option Value → aw_H → Prop} : aw_Sn l m_X3_isDisputed none X d 0 0 Q 72 (k_X3_isDisputed_72 l X d Q) := by
  unfold k_X3_isDisputed_72
  exact s_iinc dX3_isDisputed_72 (by decide) (by decide) (s_goto dX3_isDisputed_75 (by decide) s_stop)
def k_X3_isDisputed_69 (l : Launch) (X : Nat → aw_Kt) (d : Nat) (Q : Option Value → aw_H → Prop) : aw_Kt := o_il 4 (o_is 2 (k_X3_isDisputed_72 l X d Q))
theorem t_X3_isDisputed_69 {l : Launch} {X : Nat → aw_Kt} {d : Nat} {Q : Option Value → aw_H → Prop} : aw_Sn l m_X3_isDisputed none X d 0 0 Q 69 (k_X3_isDisputed_69 l X d Q) := by
  unfold k_X3_isDisputed_69
  exact s_iload dX3_isDisputed_69 (s_istore_n dX3_isDisputed_71 rfl (by decide) t_X3_isDisputed_72)
def k_X3_isDisputed_56 (l : Launch) (X : Nat → aw_Kt) (d : Nat) (Q : Option Value → aw_H → Prop) : aw_Kt := o_il 2 (o_ic (-1) (o_i3 (fun x y => x = y) (k_X3_isDisputed_69 l X d Q) (o_il 4 (o_il 2 (o_i3 (fun x y => x = y) (k_X3_isDisputed_69 l X d Q) (o_ic 1 (o_rz Q)))))))
theorem t_X3_isDisputed_56 {l : Launch} {X : Nat → aw_Kt} {d : Nat} {Q : Option Value → aw_H → Prop} : aw_Sn l m_X3_isDisputed none X d 0 0 Q 56 (k_X3_isDisputed_56 l X d Q) := by
  unfold k_X3_isDisputed_56
  exact s_iload_n dX3_isDisputed_56 rfl (s_iconst dX3_isDisputed_57 (by decide) (s_icmp_eq dX3_isDisputed_58 (by decide) t_X3_isDisputed_69 (s_iload dX3_isDisputed_61 (s_iload_n dX3_isDisputed_63 rfl (s_icmp_eq dX3_isDisputed_64 (by decide) t_X3_isDisputed_69 (s_iconst dX3_isDisputed_67 (by decide) (s_zret dX3_isDisputed_68 rfl)))))))
def k_X3_isDisputed_43 (l : Launch) (X : Nat → aw_Kt) (d : Nat) (Q : Option Value → aw_H → Prop) : aw_Kt := o_is 4 (o_il 4 (o_cs l d m_X3_isLabel 1 (o_if (fun x => x = 0) (k_X3_isDisputed_72 l X d Q) (k_X3_isDisputed_56 l X d Q))))
theorem t_X3_isDisputed_43 {l : Launch} {X : Nat → aw_Kt} {d : Nat} {Q : Option Value → aw_H → Prop} : aw_Sn l m_X3_isDisputed none X d 0 0 Q 43 (k_X3_isDisputed_43 l X d Q) := by
  unfold k_X3_isDisputed_43
  exact s_istore dX3_isDisputed_43 (by decide) (s_iload dX3_isDisputed_45 (s_cs dX3_isDisputed_47 (by decide) w_41 wt_X3_isLabel w_10 wc_X3_isLabel wd_X3_isLabel (s_if_ne dX3_isDisputed_50 (by decide) (s_goto dX3_isDisputed_53 (by decide) t_X3_isDisputed_72) t_X3_isDisputed_56)))
def k_X3_isDisputed_42 (l : Launch) (X : Nat → aw_Kt) (d : Nat) (Q : Option Value → aw_H → Prop) : aw_Kt := o_ic (-1) (k_X3_isDisputed_43 l X d Q)
theorem t_X3_isDisputed_42 {l : Launch} {X : Nat → aw_Kt} {d : Nat} {Q : Option Value → aw_H → Prop} : aw_Sn l m_X3_isDisputed none X d 0 0 Q 42 (k_X3_isDisputed_42 l X d Q) := by
  unfold k_X3_isDisputed_42
  exact s_iconst dX3_isDisputed_42 (by decide) t_X3_isDisputed_43
def k_X3_isDisputed_4 (l : Launch) (X : Nat → aw_Kt) (d : Nat) (Q : Option Value → aw_H → Prop) : aw_Kt := o_il 3 (o_al 0 (o_gf 3 1 (o_cv l d m_X1_size 1 0 (o_i3 (fun x y => y ≤ x) (k_X3_isDisputed_78 l X d Q) (o_al 0 (o_gf 3 1 (o_il 3 (o_cv l d m_X1_isOn 1 1 (o_if (fun x => x = 0) (k_X3_isDisputed_42 l X d Q) (o_al 0 (o_gf 3 1 (o_il 3 (o_al 0 (o_gf 3 0 (o_il 1 (o_cv l d m_X1_wordOn 1 3 (k_X3_isDisputed_43 l X d Q)))))))))))))))))
theorem t_X3_isDisputed_4 {l : Launch} {X : Nat → aw_Kt} {d : Nat} {Q : Option Value → aw_H → Prop} : aw_Sn l m_X3_isDisputed none X d 0 0 Q 4 (k_X3_isDisputed_4 l X d Q) := by
  unfold k_X3_isDisputed_4
  exact s_iload_n dX3_isDisputed_4 rfl (s_aload_n dX3_isDisputed_5 rfl (s_getf dX3_isDisputed_6 rfl u_X3 (by decide) w_52 (s_cv dX3_isDisputed_9 rfl (by decide) w_78 wi_X1_size ws_X1_size w_53 wc_X1_size wd_X1_size (s_icmp_ge dX3_isDisputed_12 (by decide) t_X3_isDisputed_78 (s_aload_n dX3_isDisputed_15 rfl (s_getf dX3_isDisputed_16 rfl u_X3 (by decide) w_52 (s_iload_n dX3_isDisputed_19 rfl (s_cv dX3_isDisputed_20 rfl (by decide) w_57 wi_X1_isOn ws_X1_isOn w_53 wc_X1_isOn wd_X1_isOn (s_if_eq dX3_isDisputed_23 (by decide) t_X3_isDisputed_42 (s_aload_n dX3_isDisputed_26 rfl (s_getf dX3_isDisputed_27 rfl u_X3 (by decide) w_52 (s_iload_n dX3_isDisputed_30 rfl (s_aload_n dX3_isDisputed_31 rfl (s_getf dX3_isDisputed_32 rfl u_X3 (by decide) w_37 (s_iload_n dX3_isDisputed_35 rfl (s_cv dX3_isDisputed_36 rfl (by decide) w_61 wi_X1_wordOn ws_X1_wordOn w_53 wc_X1_wordOn wd_X1_wordOn (s_goto dX3_isDisputed_39 (by decide) t_X3_isDisputed_43)))))))))))))))))
def k_X3_isDisputed_0 (l : Launch) (X : Nat → aw_Kt) (d : Nat) (Q : Option Value → aw_H → Prop) : aw_Kt := o_ic (-1) (o_is 2 (o_ic 0 (o_is 3 (SW l m_X3_isDisputed none X d 0 0 Q 4))))
theorem t_X3_isDisputed_0 {l : Launch} {X : Nat → aw_Kt} {d : Nat} {Q : Option Value → aw_H → Prop} : aw_Sn l m_X3_isDisputed none X d 0 0 Q 0 (k_X3_isDisputed_0 l X d Q) := by
  unfold k_X3_isDisputed_0
  exact s_iconst dX3_isDisputed_0 (by decide) (s_istore_n dX3_isDisputed_1 rfl (by decide) (s_iconst dX3_isDisputed_2 (by decide) (s_istore_n dX3_isDisputed_3 rfl (by decide) s_stop)))
/-! J9_floorMod_7cf53 -/
def k_J9_floorMod_7cf53_18 (l : Launch) (X : Nat → aw_Kt) (d : Nat) (Q : Option Value → aw_H → Prop) : aw_Kt := o_il 2 (o_ri Q)
theorem t_J9_floorMod_7cf53_18 {l : Launch} {X : Nat → aw_Kt} {d : Nat} {Q : Option Value → aw_H → Prop} : aw_Sn l m_J9_floorMod_7cf53 none X d 0 0 Q 18 (k_J9_floorMod_7cf53_18 l X d Q) := by
  unfold k_J9_floorMod_7cf53_18
  exact s_iload_n dJ9_floorMod_7cf53_18 rfl (s_iret dJ9_floorMod_7cf53_19 rfl)
def k_J9_floorMod_7cf53_0 (l : Launch) (X : Nat → aw_Kt) (d : Nat) (Q : Option Value → aw_H → Prop) : aw_Kt := o_il 0 (o_il 1 (o_rm (o_is 2 (o_il 0 (o_il 1 (o_ib (fun x y => x ^^^ y) (o_if (fun x => 0 ≤ x) (k_J9_floorMod_7cf53_18 l X d Q) (o_il 2 (o_if (fun x => x = 0) (k_J9_floorMod_7cf53_18 l X d Q) (o_il 2 (o_il 1 (o_ib (fun x y => x + y) (o_ri Q)))))))))))))
theorem t_J9_floorMod_7cf53_0 {l : Launch} {X : Nat → aw_Kt} {d : Nat} {Q : Option Value → aw_H → Prop} : aw_Sn l m_J9_floorMod_7cf53 none X d 0 0 Q 0 (k_J9_floorMod_7cf53_0 l X d Q) := by
  unfold k_J9_floorMod_7cf53_0
  exact s_iload_n dJ9_floorMod_7cf53_0 rfl (s_iload_n dJ9_floorMod_7cf53_1 rfl (s_irem dJ9_floorMod_7cf53_2 (s_istore_n dJ9_floorMod_7cf53_3 rfl (by decide) (s_iload_n dJ9_floorMod_7cf53_4 rfl (s_iload_n dJ9_floorMod_7cf53_5 rfl (s_ixor dJ9_floorMod_7cf53_6 (s_if_ge dJ9_floorMod_7cf53_7 (by decide) t_J9_floorMod_7cf53_18 (s_iload_n dJ9_floorMod_7cf53_10 rfl (s_if_eq dJ9_floorMod_7cf53_11 (by decide) t_J9_floorMod_7cf53_18 (s_iload_n dJ9_floorMod_7cf53_14 rfl (s_iload_n dJ9_floorMod_7cf53_15 rfl (s_iadd dJ9_floorMod_7cf53_16 (s_iret dJ9_floorMod_7cf53_17 rfl)))))))))))))
/-! J7_fill_53178 -/
def k_J7_fill_53178_20 (l : Launch) (X : Nat → aw_Kt) (d : Nat) (Q : Option Value → aw_H → Prop) : aw_Kt := o_rv Q
theorem t_J7_fill_53178_20 {l : Launch} {X : Nat → aw_Kt} {d : Nat} {Q : Option Value → aw_H → Prop} : aw_Sn l m_J7_fill_53178 none X d 0 0 Q 20 (k_J7_fill_53178_20 l X d Q) := by
  unfold k_J7_fill_53178_20
  exact s_vret dJ7_fill_53178_20 rfl
def k_J7_fill_53178_5 (l : Launch) (X : Nat → aw_Kt) (d : Nat) (Q : Option Value → aw_H → Prop) : aw_Kt := o_il 2 (o_il 3 (o_i3 (fun x y => y ≤ x) (k_J7_fill_53178_20 l X d Q) (o_al 0 (o_il 2 (o_il 1 (o_xa (o_ii 2 1 (SW l m_J7_fill_53178 none X d 0 0 Q 5))))))))
theorem t_J7_fill_53178_5 {l : Launch} {X : Nat → aw_Kt} {d : Nat} {Q : Option Value → aw_H → Prop} : aw_Sn l m_J7_fill_53178 none X d 0 0 Q 5 (k_J7_fill_53178_5 l X d Q) := by
  unfold k_J7_fill_53178_5
  exact s_iload_n dJ7_fill_53178_5 rfl (s_iload_n dJ7_fill_53178_6 rfl (s_icmp_ge dJ7_fill_53178_7 (by decide) t_J7_fill_53178_20 (s_aload_n dJ7_fill_53178_10 rfl (s_iload_n dJ7_fill_53178_11 rfl (s_iload_n dJ7_fill_53178_12 rfl (s_iastore dJ7_fill_53178_13 (s_iinc dJ7_fill_53178_14 (by decide) (by decide) (s_goto dJ7_fill_53178_17 (by decide) s_stop))))))))
def k_J7_fill_53178_0 (l : Launch) (X : Nat → aw_Kt) (d : Nat) (Q : Option Value → aw_H → Prop) : aw_Kt := o_ic 0 (o_is 2 (o_al 0 (o_an (o_is 3 (SW l m_J7_fill_53178 none X d 0 0 Q 5)))))
theorem t_J7_fill_53178_0 {l : Launch} {X : Nat → aw_Kt} {d : Nat} {Q : Option Value → aw_H → Prop} : aw_Sn l m_J7_fill_53178 none X d 0 0 Q 0 (k_J7_fill_53178_0 l X d Q) := by
  unfold k_J7_fill_53178_0
  exact s_iconst dJ7_fill_53178_0 (by decide) (s_istore_n dJ7_fill_53178_1 rfl (by decide) (s_aload_n dJ7_fill_53178_2 rfl (s_alen dJ7_fill_53178_3 (s_istore_n dJ7_fill_53178_4 rfl (by decide) s_stop))))
