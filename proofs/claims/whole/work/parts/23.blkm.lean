/-! X4_thrown -/
def k_X4_thrown_0 (l : Launch) (X : Nat → aw_Kt) (d : Nat) (Q : Option Value → aw_H → Prop) : aw_Kt := o_al 0 (o_gf 4 0 (o_ri Q))
theorem t_X4_thrown_0 {l : Launch} {X : Nat → aw_Kt} {d : Nat} {Q : Option Value → aw_H → Prop} : aw_Sn l m_X4_thrown none X d 0 0 Q 0 (k_X4_thrown_0 l X d Q) := by
  unfold k_X4_thrown_0
  exact s_aload_n dX4_thrown_0 rfl (s_getf dX4_thrown_1 rfl u_X4 (by decide) w_94 (s_iret dX4_thrown_4 rfl))
/-! X4_in -/
def k_X4_in_15 (l : Launch) (X : Nat → aw_Kt) (d : Nat) (Q : Option Value → aw_H → Prop) : aw_Kt := o_rz Q
theorem t_X4_in_15 {l : Launch} {X : Nat → aw_Kt} {d : Nat} {Q : Option Value → aw_H → Prop} : aw_Sn l m_X4_in none X d 0 0 Q 15 (k_X4_in_15 l X d Q) := by
  unfold k_X4_in_15
  exact s_zret dX4_in_15 rfl
def k_X4_in_14 (l : Launch) (X : Nat → aw_Kt) (d : Nat) (Q : Option Value → aw_H → Prop) : aw_Kt := o_ic 0 (k_X4_in_15 l X d Q)
theorem t_X4_in_14 {l : Launch} {X : Nat → aw_Kt} {d : Nat} {Q : Option Value → aw_H → Prop} : aw_Sn l m_X4_in none X d 0 0 Q 14 (k_X4_in_14 l X d Q) := by
  unfold k_X4_in_14
  exact s_iconst dX4_in_14 (by decide) t_X4_in_15
def k_X4_in_0 (l : Launch) (X : Nat → aw_Kt) (d : Nat) (Q : Option Value → aw_H → Prop) : aw_Kt := o_il 0 (o_il 1 (o_i3 (fun x y => x < y) (k_X4_in_14 l X d Q) (o_il 0 (o_il 2 (o_i3 (fun x y => y < x) (k_X4_in_14 l X d Q) (o_ic 1 (k_X4_in_15 l X d Q)))))))
theorem t_X4_in_0 {l : Launch} {X : Nat → aw_Kt} {d : Nat} {Q : Option Value → aw_H → Prop} : aw_Sn l m_X4_in none X d 0 0 Q 0 (k_X4_in_0 l X d Q) := by
  unfold k_X4_in_0
  exact s_iload_n dX4_in_0 rfl (s_iload_n dX4_in_1 rfl (s_icmp_lt dX4_in_2 (by decide) t_X4_in_14 (s_iload_n dX4_in_5 rfl (s_iload_n dX4_in_6 rfl (s_icmp_gt dX4_in_7 (by decide) t_X4_in_14 (s_iconst dX4_in_10 (by decide) (s_goto dX4_in_11 (by decide) t_X4_in_15)))))))
/-! X4_isRow -/
def k_X4_isRow_0 (l : Launch) (X : Nat → aw_Kt) (d : Nat) (Q : Option Value → aw_H → Prop) : aw_Kt := o_il 1 (o_ic 0 (o_al 0 (o_gf 4 1 (o_ic 1 (o_ib (fun x y => x - y) (o_cs l d m_X4_in 3 (o_rz Q)))))))
theorem t_X4_isRow_0 {l : Launch} {X : Nat → aw_Kt} {d : Nat} {Q : Option Value → aw_H → Prop} : aw_Sn l m_X4_isRow none X d 0 0 Q 0 (k_X4_isRow_0 l X d Q) := by
  unfold k_X4_isRow_0
  exact s_iload_n dX4_isRow_0 rfl (s_iconst dX4_isRow_1 (by decide) (s_aload_n dX4_isRow_2 rfl (s_getf dX4_isRow_3 rfl u_X4 (by decide) w_95 (s_iconst dX4_isRow_6 (by decide) (s_isub dX4_isRow_7 (s_cs dX4_isRow_8 (by decide) w_97 wt_X4_in w_96 wc_X4_in wd_X4_in (s_zret dX4_isRow_11 rfl)))))))
/-! X4_isPerson -/
def k_X4_isPerson_0 (l : Launch) (X : Nat → aw_Kt) (d : Nat) (Q : Option Value → aw_H → Prop) : aw_Kt := o_il 0 (o_ic 0 (o_ic 7 (o_cs l d m_X4_in 3 (o_rz Q))))
theorem t_X4_isPerson_0 {l : Launch} {X : Nat → aw_Kt} {d : Nat} {Q : Option Value → aw_H → Prop} : aw_Sn l m_X4_isPerson none X d 0 0 Q 0 (k_X4_isPerson_0 l X d Q) := by
  unfold k_X4_isPerson_0
  exact s_iload_n dX4_isPerson_0 rfl (s_iconst dX4_isPerson_1 (by decide) (s_bipush dX4_isPerson_2 (by decide) (s_cs dX4_isPerson_4 (by decide) w_97 wt_X4_in w_96 wc_X4_in wd_X4_in (s_zret dX4_isPerson_7 rfl))))
/-! X4_row -/
def k_X4_row_12 (l : Launch) (X : Nat → aw_Kt) (d : Nat) (Q : Option Value → aw_H → Prop) : aw_Kt := o_al 0 (o_gf 4 2 (o_ic 4 (o_al 0 (o_gf 4 1 (o_ib (fun x y => x * y) (o_il 1 (o_xa (o_al 0 (o_gf 4 2 (o_ic 4 (o_al 0 (o_gf 4 1 (o_ib (fun x y => x * y) (o_ic 1 (o_ib (fun x y => x + y) (o_il 2 (o_xa (o_al 0 (o_gf 4 2 (o_ic 4 (o_al 0 (o_gf 4 1 (o_ib (fun x y => x * y) (o_ic 2 (o_ib (fun x y => x + y) (o_il 3 (o_xa (o_al 0 (o_gf 4 2 (o_ic 4 (o_al 0 (o_gf 4 1 (o_ib (fun x y => x * y) (o_ic 3 (o_ib (fun x y => x + y) (o_il 4 (o_xa (o_al 0 (o_gf 4 4 (o_al 0 (o_gf 4 1 (o_ic (-1) (o_xa (o_al 0 (o_dp (o_gf 4 1 (o_ic 1 (o_ib (fun x y => x + y) (o_pi 4 1 (o_al 0 (o_gf 4 1 (o_ic 1 (o_ib (fun x y => x - y) (o_ri Q))))))))))))))))))))))))))))))))))))))))))))))))))))))
theorem t_X4_row_12 {l : Launch} {X : Nat → aw_Kt} {d : Nat} {Q : Option Value → aw_H → Prop} : aw_Sn l m_X4_row none X d 0 0 Q 12 (k_X4_row_12 l X d Q) := by
  unfold k_X4_row_12
  exact s_aload_n dX4_row_12 rfl (s_getf dX4_row_13 rfl u_X4 (by decide) w_98 (s_iconst dX4_row_16 (by decide) (s_aload_n dX4_row_17 rfl (s_getf dX4_row_18 rfl u_X4 (by decide) w_95 (s_imul dX4_row_21 (s_iload_n dX4_row_22 rfl (s_iastore dX4_row_23 (s_aload_n dX4_row_24 rfl (s_getf dX4_row_25 rfl u_X4 (by decide) w_98 (s_iconst dX4_row_28 (by decide) (s_aload_n dX4_row_29 rfl (s_getf dX4_row_30 rfl u_X4 (by decide) w_95 (s_imul dX4_row_33 (s_iconst dX4_row_34 (by decide) (s_iadd dX4_row_35 (s_iload_n dX4_row_36 rfl (s_iastore dX4_row_37 (s_aload_n dX4_row_38 rfl (s_getf dX4_row_39 rfl u_X4 (by decide) w_98 (s_iconst dX4_row_42 (by decide) (s_aload_n dX4_row_43 rfl (s_getf dX4_row_44 rfl u_X4 (by decide) w_95 (s_imul dX4_row_47 (s_iconst dX4_row_48 (by decide) (s_iadd dX4_row_49 (s_iload_n dX4_row_50 rfl (s_iastore dX4_row_51 (s_aload_n dX4_row_52 rfl (s_getf dX4_row_53 rfl u_X4 (by decide) w_98 (s_iconst dX4_row_56 (by decide) (s_aload_n dX4_row_57 rfl (s_getf dX4_row_58 rfl u_X4 (by decide) w_95 (s_imul dX4_row_61 (s_iconst dX4_row_62 (by decide) (s_iadd dX4_row_63 (s_iload dX4_row_64 (s_iastore dX4_row_66 (s_aload_n dX4_row_67 rfl (s_getf dX4_row_68 rfl u_X4 (by decide) w_99 (s_aload_n dX4_row_71 rfl (s_getf dX4_row_72 rfl u_X4 (by decide) w_95 (s_iconst dX4_row_75 (by decide) (s_iastore dX4_row_76 (s_aload_n dX4_row_77 rfl (s_dup dX4_row_78 (s_getf dX4_row_79 rfl u_X4 (by decide) w_95 (s_iconst dX4_row_82 (by decide) (s_iadd dX4_row_83 (s_puti dX4_row_84 rfl u_X4 tyX4_ok nmX4 (by decide) rfl (by decide +kernel) w_95 (s_aload_n dX4_row_87 rfl (s_getf dX4_row_88 rfl u_X4 (by decide) w_95 (s_iconst dX4_row_91 (by decide) (s_isub dX4_row_92 (s_iret dX4_row_93 rfl))))))))))))))))))))))))))))))))))))))))))))))))))))))
def k_X4_row_0 (l : Launch) (X : Nat → aw_Kt) (d : Nat) (Q : Option Value → aw_H → Prop) : aw_Kt := o_al 0 (o_gf 4 1 (o_ic 40 (o_i3 (fun x y => x = y) (o_ic (-104) (o_ri Q)) (k_X4_row_12 l X d Q))))
theorem t_X4_row_0 {l : Launch} {X : Nat → aw_Kt} {d : Nat} {Q : Option Value → aw_H → Prop} : aw_Sn l m_X4_row none X d 0 0 Q 0 (k_X4_row_0 l X d Q) := by
  unfold k_X4_row_0
  exact s_aload_n dX4_row_0 rfl (s_getf dX4_row_1 rfl u_X4 (by decide) w_95 (s_bipush dX4_row_4 (by decide) (s_icmp_ne dX4_row_6 (by decide) (s_bipush dX4_row_9 (by decide) (s_iret dX4_row_11 rfl)) t_X4_row_12)))
/-! X4_label -/
def k_X4_label_46 (l : Launch) (X : Nat → aw_Kt) (d : Nat) (Q : Option Value → aw_H → Prop) : aw_Kt := o_al 0 (o_gf 4 3 (o_ic 8 (o_il 2 (o_ib (fun x y => x * y) (o_il 1 (o_ib (fun x y => x + y) (o_il 3 (o_ic 1 (o_ib (fun x y => x + y) (o_xa (o_ic 1 (o_ri Q))))))))))))
theorem t_X4_label_46 {l : Launch} {X : Nat → aw_Kt} {d : Nat} {Q : Option Value → aw_H → Prop} : aw_Sn l m_X4_label none X d 0 0 Q 46 (k_X4_label_46 l X d Q) := by
  unfold k_X4_label_46
  exact s_aload_n dX4_label_46 rfl (s_getf dX4_label_47 rfl u_X4 (by decide) w_100 (s_bipush dX4_label_50 (by decide) (s_iload_n dX4_label_52 rfl (s_imul dX4_label_53 (s_iload_n dX4_label_54 rfl (s_iadd dX4_label_55 (s_iload_n dX4_label_56 rfl (s_iconst dX4_label_57 (by decide) (s_iadd dX4_label_58 (s_iastore dX4_label_59 (s_iconst dX4_label_60 (by decide) (s_iret dX4_label_61 rfl))))))))))))
def k_X4_label_30 (l : Launch) (X : Nat → aw_Kt) (d : Nat) (Q : Option Value → aw_H → Prop) : aw_Kt := o_al 0 (o_gf 4 3 (o_ic 8 (o_il 2 (o_ib (fun x y => x * y) (o_il 1 (o_ib (fun x y => x + y) (o_ia 0 (o_if (fun x => x ≤ 0) (k_X4_label_46 l X d Q) (o_ic 0 (o_ri Q))))))))))
theorem t_X4_label_30 {l : Launch} {X : Nat → aw_Kt} {d : Nat} {Q : Option Value → aw_H → Prop} : aw_Sn l m_X4_label none X d 0 0 Q 30 (k_X4_label_30 l X d Q) := by
  unfold k_X4_label_30
  exact s_aload_n dX4_label_30 rfl (s_getf dX4_label_31 rfl u_X4 (by decide) w_100 (s_bipush dX4_label_34 (by decide) (s_iload_n dX4_label_36 rfl (s_imul dX4_label_37 (s_iload_n dX4_label_38 rfl (s_iadd dX4_label_39 (s_iaload dX4_label_40 (s_if_le dX4_label_41 (by decide) t_X4_label_46 (s_iconst dX4_label_44 (by decide) (s_iret dX4_label_45 rfl))))))))))
def k_X4_label_18 (l : Launch) (X : Nat → aw_Kt) (d : Nat) (Q : Option Value → aw_H → Prop) : aw_Kt := o_il 3 (o_ic 0 (o_ic 4 (o_cs l d m_X4_in 3 (o_if (fun x => x = 0) (o_ic (-102) (o_ri Q)) (k_X4_label_30 l X d Q)))))
theorem t_X4_label_18 {l : Launch} {X : Nat → aw_Kt} {d : Nat} {Q : Option Value → aw_H → Prop} : aw_Sn l m_X4_label none X d 0 0 Q 18 (k_X4_label_18 l X d Q) := by
  unfold k_X4_label_18
  exact s_iload_n dX4_label_18 rfl (s_iconst dX4_label_19 (by decide) (s_iconst dX4_label_20 (by decide) (s_cs dX4_label_21 (by decide) w_97 wt_X4_in w_96 wc_X4_in wd_X4_in (s_if_ne dX4_label_24 (by decide) (s_bipush dX4_label_27 (by decide) (s_iret dX4_label_29 rfl)) t_X4_label_30))))
def k_X4_label_15 (l : Launch) (X : Nat → aw_Kt) (d : Nat) (Q : Option Value → aw_H → Prop) : aw_Kt := o_ic (-101) (o_ri Q)
theorem t_X4_label_15 {l : Launch} {X : Nat → aw_Kt} {d : Nat} {Q : Option Value → aw_H → Prop} : aw_Sn l m_X4_label none X d 0 0 Q 15 (k_X4_label_15 l X d Q) := by
  unfold k_X4_label_15
  exact s_bipush dX4_label_15 (by decide) (s_iret dX4_label_17 rfl)
def k_X4_label_0 (l : Launch) (X : Nat → aw_Kt) (d : Nat) (Q : Option Value → aw_H → Prop) : aw_Kt := o_il 1 (o_cs l d m_X4_isPerson 1 (o_if (fun x => x = 0) (k_X4_label_15 l X d Q) (o_al 0 (o_il 2 (o_cv l d m_X4_isRow 4 1 (o_if (fun x => x = 0) (k_X4_label_15 l X d Q) (k_X4_label_18 l X d Q)))))))
theorem t_X4_label_0 {l : Launch} {X : Nat → aw_Kt} {d : Nat} {Q : Option Value → aw_H → Prop} : aw_Sn l m_X4_label none X d 0 0 Q 0 (k_X4_label_0 l X d Q) := by
  unfold k_X4_label_0
  exact s_iload_n dX4_label_0 rfl (s_cs dX4_label_1 (by decide) w_102 wt_X4_isPerson w_96 wc_X4_isPerson wd_X4_isPerson (s_if_eq dX4_label_4 (by decide) t_X4_label_15 (s_aload_n dX4_label_7 rfl (s_iload_n dX4_label_8 rfl (s_cv dX4_label_9 rfl (by decide) w_101 wi_X4_isRow ws_X4_isRow w_96 wc_X4_isRow wd_X4_isRow (s_if_ne dX4_label_12 (by decide) t_X4_label_15 t_X4_label_18))))))
/-! X4_said -/
def k_X4_said_33 (l : Launch) (X : Nat → aw_Kt) (d : Nat) (Q : Option Value → aw_H → Prop) : aw_Kt := o_ri Q
theorem t_X4_said_33 {l : Launch} {X : Nat → aw_Kt} {d : Nat} {Q : Option Value → aw_H → Prop} : aw_Sn l m_X4_said none X d 0 0 Q 33 (k_X4_said_33 l X d Q) := by
  unfold k_X4_said_33
  exact s_iret dX4_said_33 rfl
def k_X4_said_20 (l : Launch) (X : Nat → aw_Kt) (d : Nat) (Q : Option Value → aw_H → Prop) : aw_Kt := o_al 0 (o_gf 4 3 (o_ic 8 (o_il 2 (o_ib (fun x y => x * y) (o_il 1 (o_ib (fun x y => x + y) (o_ia 0 (o_ic 1 (o_ib (fun x y => x - y) (k_X4_said_33 l X d Q))))))))))
theorem t_X4_said_20 {l : Launch} {X : Nat → aw_Kt} {d : Nat} {Q : Option Value → aw_H → Prop} : aw_Sn l m_X4_said none X d 0 0 Q 20 (k_X4_said_20 l X d Q) := by
  unfold k_X4_said_20
  exact s_aload_n dX4_said_20 rfl (s_getf dX4_said_21 rfl u_X4 (by decide) w_100 (s_bipush dX4_said_24 (by decide) (s_iload_n dX4_said_26 rfl (s_imul dX4_said_27 (s_iload_n dX4_said_28 rfl (s_iadd dX4_said_29 (s_iaload dX4_said_30 (s_iconst dX4_said_31 (by decide) (s_isub dX4_said_32 t_X4_said_33)))))))))
def k_X4_said_15 (l : Launch) (X : Nat → aw_Kt) (d : Nat) (Q : Option Value → aw_H → Prop) : aw_Kt := o_ic (-101) (k_X4_said_33 l X d Q)
theorem t_X4_said_15 {l : Launch} {X : Nat → aw_Kt} {d : Nat} {Q : Option Value → aw_H → Prop} : aw_Sn l m_X4_said none X d 0 0 Q 15 (k_X4_said_15 l X d Q) := by
  unfold k_X4_said_15
  exact s_bipush dX4_said_15 (by decide) (s_goto dX4_said_17 (by decide) t_X4_said_33)
def k_X4_said_0 (l : Launch) (X : Nat → aw_Kt) (d : Nat) (Q : Option Value → aw_H → Prop) : aw_Kt := o_il 1 (o_cs l d m_X4_isPerson 1 (o_if (fun x => x = 0) (k_X4_said_15 l X d Q) (o_al 0 (o_il 2 (o_cv l d m_X4_isRow 4 1 (o_if (fun x => x = 0) (k_X4_said_15 l X d Q) (k_X4_said_20 l X d Q)))))))
theorem t_X4_said_0 {l : Launch} {X : Nat → aw_Kt} {d : Nat} {Q : Option Value → aw_H → Prop} : aw_Sn l m_X4_said none X d 0 0 Q 0 (k_X4_said_0 l X d Q) := by
  unfold k_X4_said_0
  exact s_iload_n dX4_said_0 rfl (s_cs dX4_said_1 (by decide) w_102 wt_X4_isPerson w_96 wc_X4_isPerson wd_X4_isPerson (s_if_eq dX4_said_4 (by decide) t_X4_said_15 (s_aload_n dX4_said_7 rfl (s_iload_n dX4_said_8 rfl (s_cv dX4_said_9 rfl (by decide) w_101 wi_X4_isRow ws_X4_isRow w_96 wc_X4_isRow wd_X4_isRow (s_if_ne dX4_said_12 (by decide) t_X4_said_15 t_X4_said_20))))))
/-! X4_gold -/
def k_X4_gold_23 (l : Launch) (X : Nat → aw_Kt) (d : Nat) (Q : Option Value → aw_H → Prop) : aw_Kt := o_al 0 (o_gf 4 4 (o_il 1 (o_ia 0 (o_is 3 (o_al 0 (o_gf 4 4 (o_il 1 (o_il 2 (o_xa (o_il 3 (o_ri Q)))))))))))
theorem t_X4_gold_23 {l : Launch} {X : Nat → aw_Kt} {d : Nat} {Q : Option Value → aw_H → Prop} : aw_Sn l m_X4_gold none X d 0 0 Q 23 (k_X4_gold_23 l X d Q) := by
  unfold k_X4_gold_23
  exact s_aload_n dX4_gold_23 rfl (s_getf dX4_gold_24 rfl u_X4 (by decide) w_99 (s_iload_n dX4_gold_27 rfl (s_iaload dX4_gold_28 (s_istore_n dX4_gold_29 rfl (by decide) (s_aload_n dX4_gold_30 rfl (s_getf dX4_gold_31 rfl u_X4 (by decide) w_99 (s_iload_n dX4_gold_34 rfl (s_iload_n dX4_gold_35 rfl (s_iastore dX4_gold_36 (s_iload_n dX4_gold_37 rfl (s_iret dX4_gold_38 rfl)))))))))))
def k_X4_gold_11 (l : Launch) (X : Nat → aw_Kt) (d : Nat) (Q : Option Value → aw_H → Prop) : aw_Kt := o_il 2 (o_ic (-1) (o_ic 4 (o_cs l d m_X4_in 3 (o_if (fun x => x = 0) (o_ic (-102) (o_ri Q)) (k_X4_gold_23 l X d Q)))))
theorem t_X4_gold_11 {l : Launch} {X : Nat → aw_Kt} {d : Nat} {Q : Option Value → aw_H → Prop} : aw_Sn l m_X4_gold none X d 0 0 Q 11 (k_X4_gold_11 l X d Q) := by
  unfold k_X4_gold_11
  exact s_iload_n dX4_gold_11 rfl (s_iconst dX4_gold_12 (by decide) (s_iconst dX4_gold_13 (by decide) (s_cs dX4_gold_14 (by decide) w_97 wt_X4_in w_96 wc_X4_in wd_X4_in (s_if_ne dX4_gold_17 (by decide) (s_bipush dX4_gold_20 (by decide) (s_iret dX4_gold_22 rfl)) t_X4_gold_23))))
def k_X4_gold_0 (l : Launch) (X : Nat → aw_Kt) (d : Nat) (Q : Option Value → aw_H → Prop) : aw_Kt := o_al 0 (o_il 1 (o_cv l d m_X4_isRow 4 1 (o_if (fun x => x = 0) (o_ic (-101) (o_ri Q)) (k_X4_gold_11 l X d Q))))
theorem t_X4_gold_0 {l : Launch} {X : Nat → aw_Kt} {d : Nat} {Q : Option Value → aw_H → Prop} : aw_Sn l m_X4_gold none X d 0 0 Q 0 (k_X4_gold_0 l X d Q) := by
  unfold k_X4_gold_0
  exact s_aload_n dX4_gold_0 rfl (s_iload_n dX4_gold_1 rfl (s_cv dX4_gold_2 rfl (by decide) w_101 wi_X4_isRow ws_X4_isRow w_96 wc_X4_isRow wd_X4_isRow (s_if_ne dX4_gold_5 (by decide) (s_bipush dX4_gold_8 (by decide) (s_iret dX4_gold_10 rfl)) t_X4_gold_11)))
/-! X4_bound -/
def k_X4_bound_13 (l : Launch) (X : Nat → aw_Kt) (d : Nat) (Q : Option Value → aw_H → Prop) : aw_Kt := o_al 0 (o_gf 4 5 (o_is 2 (o_al 0 (o_il 1 (o_pi 4 5 (o_il 2 (o_ri Q)))))))
theorem t_X4_bound_13 {l : Launch} {X : Nat → aw_Kt} {d : Nat} {Q : Option Value → aw_H → Prop} : aw_Sn l m_X4_bound none X d 0 0 Q 13 (k_X4_bound_13 l X d Q) := by
  unfold k_X4_bound_13
  exact s_aload_n dX4_bound_13 rfl (s_getf dX4_bound_14 rfl u_X4 (by decide) w_103 (s_istore_n dX4_bound_17 rfl (by decide) (s_aload_n dX4_bound_18 rfl (s_iload_n dX4_bound_19 rfl (s_puti dX4_bound_20 rfl u_X4 tyX4_ok nmX4 (by decide) rfl (by decide +kernel) w_103 (s_iload_n dX4_bound_23 rfl (s_iret dX4_bound_24 rfl)))))))
def k_X4_bound_0 (l : Launch) (X : Nat → aw_Kt) (d : Nat) (Q : Option Value → aw_H → Prop) : aw_Kt := o_il 1 (o_ic 1 (o_ic 9 (o_cs l d m_X4_in 3 (o_if (fun x => x = 0) (o_ic (-102) (o_ri Q)) (k_X4_bound_13 l X d Q)))))
theorem t_X4_bound_0 {l : Launch} {X : Nat → aw_Kt} {d : Nat} {Q : Option Value → aw_H → Prop} : aw_Sn l m_X4_bound none X d 0 0 Q 0 (k_X4_bound_0 l X d Q) := by
  unfold k_X4_bound_0
  exact s_iload_n dX4_bound_0 rfl (s_iconst dX4_bound_1 (by decide) (s_bipush dX4_bound_2 (by decide) (s_cs dX4_bound_4 (by decide) w_97 wt_X4_in w_96 wc_X4_in wd_X4_in (s_if_ne dX4_bound_7 (by decide) (s_bipush dX4_bound_10 (by decide) (s_iret dX4_bound_12 rfl)) t_X4_bound_13))))
/-! X4_expert -/
def k_X4_expert_34 (l : Launch) (X : Nat → aw_Kt) (d : Nat) (Q : Option Value → aw_H → Prop) : aw_Kt := o_ri Q
theorem t_X4_expert_34 {l : Launch} {X : Nat → aw_Kt} {d : Nat} {Q : Option Value → aw_H → Prop} : aw_Sn l m_X4_expert none X d 0 0 Q 34 (k_X4_expert_34 l X d Q) := by
  unfold k_X4_expert_34
  exact s_iret dX4_expert_34 rfl
def k_X4_expert_33 (l : Launch) (X : Nat → aw_Kt) (d : Nat) (Q : Option Value → aw_H → Prop) : aw_Kt := o_ic 0 (k_X4_expert_34 l X d Q)
theorem t_X4_expert_33 {l : Launch} {X : Nat → aw_Kt} {d : Nat} {Q : Option Value → aw_H → Prop} : aw_Sn l m_X4_expert none X d 0 0 Q 33 (k_X4_expert_33 l X d Q) := by
  unfold k_X4_expert_33
  exact s_iconst dX4_expert_33 (by decide) t_X4_expert_34
def k_X4_expert_10 (l : Launch) (X : Nat → aw_Kt) (d : Nat) (Q : Option Value → aw_H → Prop) : aw_Kt := o_al 0 (o_gf 4 6 (o_il 1 (o_ia 1 (o_is 3 (o_al 0 (o_gf 4 6 (o_il 1 (o_il 2 (o_zs (o_il 3 (o_il 2 (o_i3 (fun x y => x = y) (k_X4_expert_33 l X d Q) (o_ic 1 (k_X4_expert_34 l X d Q))))))))))))))
theorem t_X4_expert_10 {l : Launch} {X : Nat → aw_Kt} {d : Nat} {Q : Option Value → aw_H → Prop} : aw_Sn l m_X4_expert none X d 0 0 Q 10 (k_X4_expert_10 l X d Q) := by
  unfold k_X4_expert_10
  exact s_aload_n dX4_expert_10 rfl (s_getf dX4_expert_11 rfl u_X4 (by decide) w_104 (s_iload_n dX4_expert_14 rfl (s_baload dX4_expert_15 (s_istore_n dX4_expert_16 rfl (by decide) (s_aload_n dX4_expert_17 rfl (s_getf dX4_expert_18 rfl u_X4 (by decide) w_104 (s_iload_n dX4_expert_21 rfl (s_iload_n dX4_expert_22 rfl (s_bastore dX4_expert_23 (s_iload_n dX4_expert_24 rfl (s_iload_n dX4_expert_25 rfl (s_icmp_eq dX4_expert_26 (by decide) t_X4_expert_33 (s_iconst dX4_expert_29 (by decide) (s_goto dX4_expert_30 (by decide) t_X4_expert_34))))))))))))))
def k_X4_expert_0 (l : Launch) (X : Nat → aw_Kt) (d : Nat) (Q : Option Value → aw_H → Prop) : aw_Kt := o_il 1 (o_cs l d m_X4_isPerson 1 (o_if (fun x => x = 0) (o_ic (-101) (o_ri Q)) (k_X4_expert_10 l X d Q)))
theorem t_X4_expert_0 {l : Launch} {X : Nat → aw_Kt} {d : Nat} {Q : Option Value → aw_H → Prop} : aw_Sn l m_X4_expert none X d 0 0 Q 0 (k_X4_expert_0 l X d Q) := by
  unfold k_X4_expert_0
  exact s_iload_n dX4_expert_0 rfl (s_cs dX4_expert_1 (by decide) w_102 wt_X4_isPerson w_96 wc_X4_isPerson wd_X4_isPerson (s_if_ne dX4_expert_4 (by decide) (s_bipush dX4_expert_7 (by decide) (s_iret dX4_expert_9 rfl)) t_X4_expert_10))
/-! X4_wrong -/
def k_X4_wrong_72 (l : Launch) (X : Nat → aw_Kt) (d : Nat) (Q : Option Value → aw_H → Prop) : aw_Kt := o_il 2 (o_ri Q)
theorem t_X4_wrong_72 {l : Launch} {X : Nat → aw_Kt} {d : Nat} {Q : Option Value → aw_H → Prop} : aw_Sn l m_X4_wrong none X d 0 0 Q 72 (k_X4_wrong_72 l X d Q) := by
  unfold k_X4_wrong_72
  exact s_iload_n dX4_wrong_72 rfl (s_iret dX4_wrong_73 rfl)
def k_X4_wrong_64 (l : Launch) (X : Nat → aw_Kt) (d : Nat) (Q : Option Value → aw_H → Prop) : aw_Kt := o_ib (fun x y => x + y) (o_is 2 (o_ii 3 1 (SW l m_X4_wrong none X d 0 0 Q 4)))
theorem t_X4_wrong_64 {l : Launch} {X : Nat → aw_Kt} {d : Nat} {Q : Option Value → aw_H → Prop} : aw_Sn l m_X4_wrong none X d 0 0 Q 64 (k_X4_wrong_64 l X d Q) := by
  unfold k_X4_wrong_64
  exact s_iadd dX4_wrong_64 (s_istore_n dX4_wrong_65 rfl (by decide) (s_iinc dX4_wrong_66 (by decide) (by decide) (s_goto dX4_wrong_69 (by decide) s_stop)))
def k_X4_wrong_63 (l : Launch) (X : Nat → aw_Kt) (d : Nat) (Q : Option Value → aw_H → Prop) : aw_Kt := o_ic 0 (k_X4_wrong_64 l X d Q)
theorem t_X4_wrong_63 {l : Launch} {X : Nat → aw_Kt} {d : Nat} {Q : Option Value → aw_H → Prop} : aw_Sn l m_X4_wrong none X d 0 0 Q 63 (k_X4_wrong_63 l X d Q) := by
  unfold k_X4_wrong_63
  exact s_iconst dX4_wrong_63 (by decide) t_X4_wrong_64
def k_X4_wrong_4 (l : Launch) (X : Nat → aw_Kt) (d : Nat) (Q : Option Value → aw_H → Prop) : aw_Kt := o_il 3 (o_al 0 (o_gf 4 1 (o_i3 (fun x y => y ≤ x) (k_X4_wrong_72 l X d Q) (o_il 2 (o_al 0 (o_gf 4 4 (o_il 3 (o_ia 0 (o_ic (-1) (o_i3 (fun x y => x = y) (k_X4_wrong_63 l X d Q) (o_al 0 (o_gf 4 3 (o_ic 8 (o_il 3 (o_ib (fun x y => x * y) (o_il 1 (o_ib (fun x y => x + y) (o_ia 0 (o_if (fun x => x ≤ 0) (k_X4_wrong_63 l X d Q) (o_al 0 (o_gf 4 3 (o_ic 8 (o_il 3 (o_ib (fun x y => x * y) (o_il 1 (o_ib (fun x y => x + y) (o_ia 0 (o_ic 1 (o_ib (fun x y => x - y) (o_al 0 (o_gf 4 4 (o_il 3 (o_ia 0 (o_i3 (fun x y => x = y) (k_X4_wrong_63 l X d Q) (o_ic 1 (k_X4_wrong_64 l X d Q))))))))))))))))))))))))))))))))))))
theorem t_X4_wrong_4 {l : Launch} {X : Nat → aw_Kt} {d : Nat} {Q : Option Value → aw_H → Prop} : aw_Sn l m_X4_wrong none X d 0 0 Q 4 (k_X4_wrong_4 l X d Q) := by
  unfold k_X4_wrong_4
  exact s_iload_n dX4_wrong_4 rfl (s_aload_n dX4_wrong_5 rfl (s_getf dX4_wrong_6 rfl u_X4 (by decide) w_95 (s_icmp_ge dX4_wrong_9 (by decide) t_X4_wrong_72 (s_iload_n dX4_wrong_12 rfl (s_aload_n dX4_wrong_13 rfl (s_getf dX4_wrong_14 rfl u_X4 (by decide) w_99 (s_iload_n dX4_wrong_17 rfl (s_iaload dX4_wrong_18 (s_iconst dX4_wrong_19 (by decide) (s_icmp_eq dX4_wrong_20 (by decide) t_X4_wrong_63 (s_aload_n dX4_wrong_23 rfl (s_getf dX4_wrong_24 rfl u_X4 (by decide) w_100 (s_bipush dX4_wrong_27 (by decide) (s_iload_n dX4_wrong_29 rfl (s_imul dX4_wrong_30 (s_iload_n dX4_wrong_31 rfl (s_iadd dX4_wrong_32 (s_iaload dX4_wrong_33 (s_if_le dX4_wrong_34 (by decide) t_X4_wrong_63 (s_aload_n dX4_wrong_37 rfl (s_getf dX4_wrong_38 rfl u_X4 (by decide) w_100 (s_bipush dX4_wrong_41 (by decide) (s_iload_n dX4_wrong_43 rfl (s_imul dX4_wrong_44 (s_iload_n dX4_wrong_45 rfl (s_iadd dX4_wrong_46 (s_iaload dX4_wrong_47 (s_iconst dX4_wrong_48 (by decide) (s_isub dX4_wrong_49 (s_aload_n dX4_wrong_50 rfl (s_getf dX4_wrong_51 rfl u_X4 (by decide) w_99 (s_iload_n dX4_wrong_54 rfl (s_iaload dX4_wrong_55 (s_icmp_eq dX4_wrong_56 (by decide) t_X4_wrong_63 (s_iconst dX4_wrong_59 (by decide) (s_goto dX4_wrong_60 (by decide) t_X4_wrong_64))))))))))))))))))))))))))))))))))))
def k_X4_wrong_0 (l : Launch) (X : Nat → aw_Kt) (d : Nat) (Q : Option Value → aw_H → Prop) : aw_Kt := o_ic 0 (o_is 2 (o_ic 0 (o_is 3 (SW l m_X4_wrong none X d 0 0 Q 4))))
theorem t_X4_wrong_0 {l : Launch} {X : Nat → aw_Kt} {d : Nat} {Q : Option Value → aw_H → Prop} : aw_Sn l m_X4_wrong none X d 0 0 Q 0 (k_X4_wrong_0 l X d Q) := by
  unfold k_X4_wrong_0
  exact s_iconst dX4_wrong_0 (by decide) (s_istore_n dX4_wrong_1 rfl (by decide) (s_iconst dX4_wrong_2 (by decide) (s_istore_n dX4_wrong_3 rfl (by decide) s_stop)))
/-! X4_isBarred -/
def k_X4_isBarred_17 (l : Launch) (X : Nat → aw_Kt) (d : Nat) (Q : Option Value → aw_H → Prop) : aw_Kt := o_rz Q
theorem t_X4_isBarred_17 {l : Launch} {X : Nat → aw_Kt} {d : Nat} {Q : Option Value → aw_H → Prop} : aw_Sn l m_X4_isBarred none X d 0 0 Q 17 (k_X4_isBarred_17 l X d Q) := by
  unfold k_X4_isBarred_17
  exact s_zret dX4_isBarred_17 rfl
def k_X4_isBarred_16 (l : Launch) (X : Nat → aw_Kt) (d : Nat) (Q : Option Value → aw_H → Prop) : aw_Kt := o_ic 0 (k_X4_isBarred_17 l X d Q)
theorem t_X4_isBarred_16 {l : Launch} {X : Nat → aw_Kt} {d : Nat} {Q : Option Value → aw_H → Prop} : aw_Sn l m_X4_isBarred none X d 0 0 Q 16 (k_X4_isBarred_16 l X d Q) := by
  unfold k_X4_isBarred_16
  exact s_iconst dX4_isBarred_16 (by decide) t_X4_isBarred_17
def k_X4_isBarred_0 (l : Launch) (X : Nat → aw_Kt) (d : Nat) (Q : Option Value → aw_H → Prop) : aw_Kt := o_al 0 (o_il 1 (o_cv l d m_X4_wrong 4 1 (o_al 0 (o_gf 4 5 (o_i3 (fun x y => x < y) (k_X4_isBarred_16 l X d Q) (o_ic 1 (k_X4_isBarred_17 l X d Q)))))))
theorem t_X4_isBarred_0 {l : Launch} {X : Nat → aw_Kt} {d : Nat} {Q : Option Value → aw_H → Prop} : aw_Sn l m_X4_isBarred none X d 0 0 Q 0 (k_X4_isBarred_0 l X d Q) := by
  unfold k_X4_isBarred_0
  exact s_aload_n dX4_isBarred_0 rfl (s_iload_n dX4_isBarred_1 rfl (s_cv dX4_isBarred_2 rfl (by decide) w_105 wi_X4_wrong ws_X4_wrong w_96 wc_X4_wrong wd_X4_wrong (s_aload_n dX4_isBarred_5 rfl (s_getf dX4_isBarred_6 rfl u_X4 (by decide) w_103 (s_icmp_lt dX4_isBarred_9 (by decide) t_X4_isBarred_16 (s_iconst dX4_isBarred_12 (by decide) (s_goto dX4_isBarred_13 (by decide) t_X4_isBarred_17)))))))
/-! X4_labelled -/
def k_X4_labelled_40 (l : Launch) (X : Nat → aw_Kt) (d : Nat) (Q : Option Value → aw_H → Prop) : aw_Kt := o_il 2 (o_ri Q)
theorem t_X4_labelled_40 {l : Launch} {X : Nat → aw_Kt} {d : Nat} {Q : Option Value → aw_H → Prop} : aw_Sn l m_X4_labelled none X d 0 0 Q 40 (k_X4_labelled_40 l X d Q) := by
  unfold k_X4_labelled_40
  exact s_iload_n dX4_labelled_40 rfl (s_iret dX4_labelled_41 rfl)
def k_X4_labelled_32 (l : Launch) (X : Nat → aw_Kt) (d : Nat) (Q : Option Value → aw_H → Prop) : aw_Kt := o_ib (fun x y => x + y) (o_is 2 (o_ii 3 1 (SW l m_X4_labelled none X d 0 0 Q 4)))
theorem t_X4_labelled_32 {l : Launch} {X : Nat → aw_Kt} {d : Nat} {Q : Option Value → aw_H → Prop} : aw_Sn l m_X4_labelled none X d 0 0 Q 32 (k_X4_labelled_32 l X d Q) := by
  unfold k_X4_labelled_32
  exact s_iadd dX4_labelled_32 (s_istore_n dX4_labelled_33 rfl (by decide) (s_iinc dX4_labelled_34 (by decide) (by decide) (s_goto dX4_labelled_37 (by decide) s_stop)))
def k_X4_labelled_31 (l : Launch) (X : Nat → aw_Kt) (d : Nat) (Q : Option Value → aw_H → Prop) : aw_Kt := o_ic 0 (k_X4_labelled_32 l X d Q)
theorem t_X4_labelled_31 {l : Launch} {X : Nat → aw_Kt} {d : Nat} {Q : Option Value → aw_H → Prop} : aw_Sn l m_X4_labelled none X d 0 0 Q 31 (k_X4_labelled_31 l X d Q) := by
  unfold k_X4_labelled_31
  exact s_iconst dX4_labelled_31 (by decide) t_X4_labelled_32
def k_X4_labelled_4 (l : Launch) (X : Nat → aw_Kt) (d : Nat) (Q : Option Value → aw_H → Prop) : aw_Kt := o_il 3 (o_al 0 (o_gf 4 1 (o_i3 (fun x y => y ≤ x) (k_X4_labelled_40 l X d Q) (o_il 2 (o_al 0 (o_gf 4 3 (o_ic 8 (o_il 3 (o_ib (fun x y => x * y) (o_il 1 (o_ib (fun x y => x + y) (o_ia 0 (o_if (fun x => x ≤ 0) (k_X4_labelled_31 l X d Q) (o_ic 1 (k_X4_labelled_32 l X d Q)))))))))))))))
theorem t_X4_labelled_4 {l : Launch} {X : Nat → aw_Kt} {d : Nat} {Q : Option Value → aw_H → Prop} : aw_Sn l m_X4_labelled none X d 0 0 Q 4 (k_X4_labelled_4 l X d Q) := by
  unfold k_X4_labelled_4
  exact s_iload_n dX4_labelled_4 rfl (s_aload_n dX4_labelled_5 rfl (s_getf dX4_labelled_6 rfl u_X4 (by decide) w_95 (s_icmp_ge dX4_labelled_9 (by decide) t_X4_labelled_40 (s_iload_n dX4_labelled_12 rfl (s_aload_n dX4_labelled_13 rfl (s_getf dX4_labelled_14 rfl u_X4 (by decide) w_100 (s_bipush dX4_labelled_17 (by decide) (s_iload_n dX4_labelled_19 rfl (s_imul dX4_labelled_20 (s_iload_n dX4_labelled_21 rfl (s_iadd dX4_labelled_22 (s_iaload dX4_labelled_23 (s_if_le dX4_labelled_24 (by decide) t_X4_labelled_31 (s_iconst dX4_labelled_27 (by decide) (s_goto dX4_labelled_28 (by decide) t_X4_labelled_32)))))))))))))))
def k_X4_labelled_0 (l : Launch) (X : Nat → aw_Kt) (d : Nat) (Q : Option Value → aw_H → Prop) : aw_Kt := o_ic 0 (o_is 2 (o_ic 0 (o_is 3 (SW l m_X4_labelled none X d 0 0 Q 4))))
theorem t_X4_labelled_0 {l : Launch} {X : Nat → aw_Kt} {d : Nat} {Q : Option Value → aw_H → Prop} : aw_Sn l m_X4_labelled none X d 0 0 Q 0 (k_X4_labelled_0 l X d Q) := by
  unfold k_X4_labelled_0
  exact s_iconst dX4_labelled_0 (by decide) (s_istore_n dX4_labelled_1 rfl (by decide) (s_iconst dX4_labelled_2 (by decide) (s_istore_n dX4_labelled_3 rfl (by decide) s_stop)))
/-! X4_person -/
def k_X4_person_73 (l : Launch) (X : Nat → aw_Kt) (d : Nat) (Q : Option Value → aw_H → Prop) : aw_Kt := o_ic (-102) (o_ri Q)
theorem t_X4_person_73 {l : Launch} {X : Nat → aw_Kt} {d : Nat} {Q : Option Value → aw_H → Prop} : aw_Sn l m_X4_person none X d 0 0 Q 73 (k_X4_person_73 l X d Q) := by
  unfold k_X4_person_73
  exact s_bipush dX4_person_73 (by decide) (s_iret dX4_person_75 rfl)
def k_X4_person_67 (l : Launch) (X : Nat → aw_Kt) (d : Nat) (Q : Option Value → aw_H → Prop) : aw_Kt := o_al 0 (o_il 1 (o_cv l d m_X4_labelled 4 1 (o_ri Q)))
theorem t_X4_person_67 {l : Launch} {X : Nat → aw_Kt} {d : Nat} {Q : Option Value → aw_H → Prop} : aw_Sn l m_X4_person none X d 0 0 Q 67 (k_X4_person_67 l X d Q) := by
  unfold k_X4_person_67
  exact s_aload_n dX4_person_67 rfl (s_iload_n dX4_person_68 rfl (s_cv dX4_person_69 rfl (by decide) w_106 wi_X4_labelled ws_X4_labelled w_96 wc_X4_labelled wd_X4_labelled (s_iret dX4_person_72 rfl)))
def k_X4_person_66 (l : Launch) (X : Nat → aw_Kt) (d : Nat) (Q : Option Value → aw_H → Prop) : aw_Kt := o_ri Q
theorem t_X4_person_66 {l : Launch} {X : Nat → aw_Kt} {d : Nat} {Q : Option Value → aw_H → Prop} : aw_Sn l m_X4_person none X d 0 0 Q 66 (k_X4_person_66 l X d Q) := by
  unfold k_X4_person_66
  exact s_iret dX4_person_66 rfl
def k_X4_person_65 (l : Launch) (X : Nat → aw_Kt) (d : Nat) (Q : Option Value → aw_H → Prop) : aw_Kt := o_ic 0 (k_X4_person_66 l X d Q)
theorem t_X4_person_65 {l : Launch} {X : Nat → aw_Kt} {d : Nat} {Q : Option Value → aw_H → Prop} : aw_Sn l m_X4_person none X d 0 0 Q 65 (k_X4_person_65 l X d Q) := by
  unfold k_X4_person_65
  exact s_iconst dX4_person_65 (by decide) t_X4_person_66
def k_X4_person_53 (l : Launch) (X : Nat → aw_Kt) (d : Nat) (Q : Option Value → aw_H → Prop) : aw_Kt := o_al 0 (o_il 1 (o_cv l d m_X4_isBarred 4 1 (o_if (fun x => x = 0) (k_X4_person_65 l X d Q) (o_ic 1 (k_X4_person_66 l X d Q)))))
theorem t_X4_person_53 {l : Launch} {X : Nat → aw_Kt} {d : Nat} {Q : Option Value → aw_H → Prop} : aw_Sn l m_X4_person none X d 0 0 Q 53 (k_X4_person_53 l X d Q) := by
  unfold k_X4_person_53
  exact s_aload_n dX4_person_53 rfl (s_iload_n dX4_person_54 rfl (s_cv dX4_person_55 rfl (by decide) w_107 wi_X4_isBarred ws_X4_isBarred w_96 wc_X4_isBarred wd_X4_isBarred (s_if_eq dX4_person_58 (by decide) t_X4_person_65 (s_iconst dX4_person_61 (by decide) (s_goto dX4_person_62 (by decide) t_X4_person_66)))))
def k_X4_person_47 (l : Launch) (X : Nat → aw_Kt) (d : Nat) (Q : Option Value → aw_H → Prop) : aw_Kt := o_al 0 (o_il 1 (o_cv l d m_X4_wrong 4 1 (o_ri Q)))
theorem t_X4_person_47 {l : Launch} {X : Nat → aw_Kt} {d : Nat} {Q : Option Value → aw_H → Prop} : aw_Sn l m_X4_person none X d 0 0 Q 47 (k_X4_person_47 l X d Q) := by
  unfold k_X4_person_47
  exact s_aload_n dX4_person_47 rfl (s_iload_n dX4_person_48 rfl (s_cv dX4_person_49 rfl (by decide) w_105 wi_X4_wrong ws_X4_wrong w_96 wc_X4_wrong wd_X4_wrong (s_iret dX4_person_52 rfl)))
def k_X4_person_40 (l : Launch) (X : Nat → aw_Kt) (d : Nat) (Q : Option Value → aw_H → Prop) : aw_Kt := o_al 0 (o_gf 4 7 (o_il 1 (o_ia 0 (o_ri Q))))
theorem t_X4_person_40 {l : Launch} {X : Nat → aw_Kt} {d : Nat} {Q : Option Value → aw_H → Prop} : aw_Sn l m_X4_person none X d 0 0 Q 40 (k_X4_person_40 l X d Q) := by
  unfold k_X4_person_40
  exact s_aload_n dX4_person_40 rfl (s_getf dX4_person_41 rfl u_X4 (by decide) w_108 (s_iload_n dX4_person_44 rfl (s_iaload dX4_person_45 (s_iret dX4_person_46 rfl))))
def k_X4_person_10 (l : Launch) (X : Nat → aw_Kt) (d : Nat) (Q : Option Value → aw_H → Prop) : aw_Kt := o_il 2 (o_ts 0 3 [(k_X4_person_40 l X d Q), (k_X4_person_47 l X d Q), (k_X4_person_53 l X d Q), (k_X4_person_67 l X d Q)] (k_X4_person_73 l X d Q))
theorem t_X4_person_10 {l : Launch} {X : Nat → aw_Kt} {d : Nat} {Q : Option Value → aw_H → Prop} : aw_Sn l m_X4_person none X d 0 0 Q 10 (k_X4_person_10 l X d Q) := by
  unfold k_X4_person_10
  exact s_iload_n dX4_person_10 rfl (s_tsw dX4_person_11 (by decide) (by decide) (by decide) t_X4_person_73 ⟨⟨40, by decide, t_X4_person_40⟩, ⟨⟨47, by decide, t_X4_person_47⟩, ⟨⟨53, by decide, t_X4_person_53⟩, ⟨⟨67, by decide, t_X4_person_67⟩, trivial⟩⟩⟩⟩)
def k_X4_person_0 (l : Launch) (X : Nat → aw_Kt) (d : Nat) (Q : Option Value → aw_H → Prop) : aw_Kt := o_il 1 (o_cs l d m_X4_isPerson 1 (o_if (fun x => x = 0) (o_ic (-101) (o_ri Q)) (k_X4_person_10 l X d Q)))
theorem t_X4_person_0 {l : Launch} {X : Nat → aw_Kt} {d : Nat} {Q : Option Value → aw_H → Prop} : aw_Sn l m_X4_person none X d 0 0 Q 0 (k_X4_person_0 l X d Q) := by
  unfold k_X4_person_0
  exact s_iload_n dX4_person_0 rfl (s_cs dX4_person_1 (by decide) w_102 wt_X4_isPerson w_96 wc_X4_isPerson wd_X4_isPerson (s_if_ne dX4_person_4 (by decide) (s_bipush dX4_person_7 (by decide) (s_iret dX4_person_9 rfl)) t_X4_person_10))
/-! X4_rule -/
def k_X4_rule_42 (l : Launch) (X : Nat → aw_Kt) (d : Nat) (Q : Option Value → aw_H → Prop) : aw_Kt := o_al 0 (o_gf 4 10 (o_al 0 (o_gf 4 9 (o_il 1 (o_xa (o_al 0 (o_gf 4 11 (o_al 0 (o_gf 4 9 (o_il 2 (o_xa (o_al 0 (o_gf 4 12 (o_al 0 (o_gf 4 9 (o_il 3 (o_xa (o_al 0 (o_gf 4 13 (o_al 0 (o_gf 4 9 (o_il 4 (o_xa (o_al 0 (o_gf 4 14 (o_al 0 (o_gf 4 9 (o_ic 1 (o_zs (o_al 0 (o_dp (o_gf 4 9 (o_ic 1 (o_ib (fun x y => x + y) (o_pi 4 9 (o_al 0 (o_gf 4 9 (o_ic 1 (o_ib (fun x y => x - y) (o_ri Q))))))))))))))))))))))))))))))))))))))))
theorem t_X4_rule_42 {l : Launch} {X : Nat → aw_Kt} {d : Nat} {Q : Option Value → aw_H → Prop} : aw_Sn l m_X4_rule none X d 0 0 Q 42 (k_X4_rule_42 l X d Q) := by
  unfold k_X4_rule_42
  exact s_aload_n dX4_rule_42 rfl (s_getf dX4_rule_43 rfl u_X4 (by decide) w_109 (s_aload_n dX4_rule_46 rfl (s_getf dX4_rule_47 rfl u_X4 (by decide) w_110 (s_iload_n dX4_rule_50 rfl (s_iastore dX4_rule_51 (s_aload_n dX4_rule_52 rfl (s_getf dX4_rule_53 rfl u_X4 (by decide) w_111 (s_aload_n dX4_rule_56 rfl (s_getf dX4_rule_57 rfl u_X4 (by decide) w_110 (s_iload_n dX4_rule_60 rfl (s_iastore dX4_rule_61 (s_aload_n dX4_rule_62 rfl (s_getf dX4_rule_63 rfl u_X4 (by decide) w_112 (s_aload_n dX4_rule_66 rfl (s_getf dX4_rule_67 rfl u_X4 (by decide) w_110 (s_iload_n dX4_rule_70 rfl (s_iastore dX4_rule_71 (s_aload_n dX4_rule_72 rfl (s_getf dX4_rule_73 rfl u_X4 (by decide) w_113 (s_aload_n dX4_rule_76 rfl (s_getf dX4_rule_77 rfl u_X4 (by decide) w_110 (s_iload dX4_rule_80 (s_iastore dX4_rule_82 (s_aload_n dX4_rule_83 rfl (s_getf dX4_rule_84 rfl u_X4 (by decide) w_114 (s_aload_n dX4_rule_87 rfl (s_getf dX4_rule_88 rfl u_X4 (by decide) w_110 (s_iconst dX4_rule_91 (by decide) (s_bastore dX4_rule_92 (s_aload_n dX4_rule_93 rfl (s_dup dX4_rule_94 (s_getf dX4_rule_95 rfl u_X4 (by decide) w_110 (s_iconst dX4_rule_98 (by decide) (s_iadd dX4_rule_99 (s_puti dX4_rule_100 rfl u_X4 tyX4_ok nmX4 (by decide) rfl (by decide +kernel) w_110 (s_aload_n dX4_rule_103 rfl (s_getf dX4_rule_104 rfl u_X4 (by decide) w_110 (s_iconst dX4_rule_107 (by decide) (s_isub dX4_rule_108 (s_iret dX4_rule_109 rfl))))))))))))))))))))))))))))))))))))))))
def k_X4_rule_30 (l : Launch) (X : Nat → aw_Kt) (d : Nat) (Q : Option Value → aw_H → Prop) : aw_Kt := o_al 0 (o_gf 4 9 (o_ic 6 (o_i3 (fun x y => x = y) (o_ic (-104) (o_ri Q)) (k_X4_rule_42 l X d Q))))
theorem t_X4_rule_30 {l : Launch} {X : Nat → aw_Kt} {d : Nat} {Q : Option Value → aw_H → Prop} : aw_Sn l m_X4_rule none X d 0 0 Q 30 (k_X4_rule_30 l X d Q) := by
  unfold k_X4_rule_30
  exact s_aload_n dX4_rule_30 rfl (s_getf dX4_rule_31 rfl u_X4 (by decide) w_110 (s_bipush dX4_rule_34 (by decide) (s_icmp_ne dX4_rule_36 (by decide) (s_bipush dX4_rule_39 (by decide) (s_iret dX4_rule_41 rfl)) t_X4_rule_42)))
def k_X4_rule_27 (l : Launch) (X : Nat → aw_Kt) (d : Nat) (Q : Option Value → aw_H → Prop) : aw_Kt := o_ic (-102) (o_ri Q)
theorem t_X4_rule_27 {l : Launch} {X : Nat → aw_Kt} {d : Nat} {Q : Option Value → aw_H → Prop} : aw_Sn l m_X4_rule none X d 0 0 Q 27 (k_X4_rule_27 l X d Q) := by
  unfold k_X4_rule_27
  exact s_bipush dX4_rule_27 (by decide) (s_iret dX4_rule_29 rfl)
def k_X4_rule_0 (l : Launch) (X : Nat → aw_Kt) (d : Nat) (Q : Option Value → aw_H → Prop) : aw_Kt := o_il 1 (o_ic 0 (o_ic 3 (o_cs l d m_X4_in 3 (o_if (fun x => x = 0) (k_X4_rule_27 l X d Q) (o_il 2 (o_ic 0 (o_ic 3 (o_cs l d m_X4_in 3 (o_if (fun x => x = 0) (k_X4_rule_27 l X d Q) (o_il 3 (o_ic 0 (o_ic 3 (o_cs l d m_X4_in 3 (o_if (fun x => x = 0) (k_X4_rule_27 l X d Q) (k_X4_rule_30 l X d Q)))))))))))))))
theorem t_X4_rule_0 {l : Launch} {X : Nat → aw_Kt} {d : Nat} {Q : Option Value → aw_H → Prop} : aw_Sn l m_X4_rule none X d 0 0 Q 0 (k_X4_rule_0 l X d Q) := by
  unfold k_X4_rule_0
  exact s_iload_n dX4_rule_0 rfl (s_iconst dX4_rule_1 (by decide) (s_iconst dX4_rule_2 (by decide) (s_cs dX4_rule_3 (by decide) w_97 wt_X4_in w_96 wc_X4_in wd_X4_in (s_if_eq dX4_rule_6 (by decide) t_X4_rule_27 (s_iload_n dX4_rule_9 rfl (s_iconst dX4_rule_10 (by decide) (s_iconst dX4_rule_11 (by decide) (s_cs dX4_rule_12 (by decide) w_97 wt_X4_in w_96 wc_X4_in wd_X4_in (s_if_eq dX4_rule_15 (by decide) t_X4_rule_27 (s_iload_n dX4_rule_18 rfl (s_iconst dX4_rule_19 (by decide) (s_iconst dX4_rule_20 (by decide) (s_cs dX4_rule_21 (by decide) w_97 wt_X4_in w_96 wc_X4_in wd_X4_in (s_if_ne dX4_rule_24 (by decide) t_X4_rule_27 t_X4_rule_30))))))))))))))
/-! X4_turn -/
def k_X4_turn_41 (l : Launch) (X : Nat → aw_Kt) (d : Nat) (Q : Option Value → aw_H → Prop) : aw_Kt := o_ri Q
theorem t_X4_turn_41 {l : Launch} {X : Nat → aw_Kt} {d : Nat} {Q : Option Value → aw_H → Prop} : aw_Sn l m_X4_turn none X d 0 0 Q 41 (k_X4_turn_41 l X d Q) := by
  unfold k_X4_turn_41
  exact s_iret dX4_turn_41 rfl
def k_X4_turn_40 (l : Launch) (X : Nat → aw_Kt) (d : Nat) (Q : Option Value → aw_H → Prop) : aw_Kt := o_ic 0 (k_X4_turn_41 l X d Q)
theorem t_X4_turn_40 {l : Launch} {X : Nat → aw_Kt} {d : Nat} {Q : Option Value → aw_H → Prop} : aw_Sn l m_X4_turn none X d 0 0 Q 40 (k_X4_turn_40 l X d Q) := by
  unfold k_X4_turn_40
  exact s_iconst dX4_turn_40 (by decide) t_X4_turn_41
def k_X4_turn_17 (l : Launch) (X : Nat → aw_Kt) (d : Nat) (Q : Option Value → aw_H → Prop) : aw_Kt := o_al 0 (o_gf 4 14 (o_il 1 (o_ia 1 (o_is 3 (o_al 0 (o_gf 4 14 (o_il 1 (o_il 2 (o_zs (o_il 3 (o_il 2 (o_i3 (fun x y => x = y) (k_X4_turn_40 l X d Q) (o_ic 1 (k_X4_turn_41 l X d Q))))))))))))))
theorem t_X4_turn_17 {l : Launch} {X : Nat → aw_Kt} {d : Nat} {Q : Option Value → aw_H → Prop} : aw_Sn l m_X4_turn none X d 0 0 Q 17 (k_X4_turn_17 l X d Q) := by
  unfold k_X4_turn_17
  exact s_aload_n dX4_turn_17 rfl (s_getf dX4_turn_18 rfl u_X4 (by decide) w_114 (s_iload_n dX4_turn_21 rfl (s_baload dX4_turn_22 (s_istore_n dX4_turn_23 rfl (by decide) (s_aload_n dX4_turn_24 rfl (s_getf dX4_turn_25 rfl u_X4 (by decide) w_114 (s_iload_n dX4_turn_28 rfl (s_iload_n dX4_turn_29 rfl (s_bastore dX4_turn_30 (s_iload_n dX4_turn_31 rfl (s_iload_n dX4_turn_32 rfl (s_icmp_eq dX4_turn_33 (by decide) t_X4_turn_40 (s_iconst dX4_turn_36 (by decide) (s_goto dX4_turn_37 (by decide) t_X4_turn_41))))))))))))))
def k_X4_turn_0 (l : Launch) (X : Nat → aw_Kt) (d : Nat) (Q : Option Value → aw_H → Prop) : aw_Kt := o_il 1 (o_ic 0 (o_al 0 (o_gf 4 9 (o_ic 1 (o_ib (fun x y => x - y) (o_cs l d m_X4_in 3 (o_if (fun x => x = 0) (o_ic (-101) (o_ri Q)) (k_X4_turn_17 l X d Q))))))))
theorem t_X4_turn_0 {l : Launch} {X : Nat → aw_Kt} {d : Nat} {Q : Option Value → aw_H → Prop} : aw_Sn l m_X4_turn none X d 0 0 Q 0 (k_X4_turn_0 l X d Q) := by
  unfold k_X4_turn_0
  exact s_iload_n dX4_turn_0 rfl (s_iconst dX4_turn_1 (by decide) (s_aload_n dX4_turn_2 rfl (s_getf dX4_turn_3 rfl u_X4 (by decide) w_110 (s_iconst dX4_turn_6 (by decide) (s_isub dX4_turn_7 (s_cs dX4_turn_8 (by decide) w_97 wt_X4_in w_96 wc_X4_in wd_X4_in (s_if_ne dX4_turn_11 (by decide) (s_bipush dX4_turn_14 (by decide) (s_iret dX4_turn_16 rfl)) t_X4_turn_17)))))))
/-! X4_table -/
def k_X4_table_13 (l : Launch) (X : Nat → aw_Kt) (d : Nat) (Q : Option Value → aw_H → Prop) : aw_Kt := o_al 0 (o_gf 4 15 (o_il 1 (o_ia 0 (o_is 3 (o_al 0 (o_gf 4 15 (o_il 1 (o_il 2 (o_xa (o_il 3 (o_ri Q)))))))))))
theorem t_X4_table_13 {l : Launch} {X : Nat → aw_Kt} {d : Nat} {Q : Option Value → aw_H → Prop} : aw_Sn l m_X4_table none X d 0 0 Q 13 (k_X4_table_13 l X d Q) := by
  unfold k_X4_table_13
  exact s_aload_n dX4_table_13 rfl (s_getf dX4_table_14 rfl u_X4 (by decide) w_115 (s_iload_n dX4_table_17 rfl (s_iaload dX4_table_18 (s_istore_n dX4_table_19 rfl (by decide) (s_aload_n dX4_table_20 rfl (s_getf dX4_table_21 rfl u_X4 (by decide) w_115 (s_iload_n dX4_table_24 rfl (s_iload_n dX4_table_25 rfl (s_iastore dX4_table_26 (s_iload_n dX4_table_27 rfl (s_iret dX4_table_28 rfl)))))))))))
def k_X4_table_0 (l : Launch) (X : Nat → aw_Kt) (d : Nat) (Q : Option Value → aw_H → Prop) : aw_Kt := o_il 1 (o_ic 0 (o_ic 7 (o_cs l d m_X4_in 3 (o_if (fun x => x = 0) (o_ic (-102) (o_ri Q)) (k_X4_table_13 l X d Q)))))
theorem t_X4_table_0 {l : Launch} {X : Nat → aw_Kt} {d : Nat} {Q : Option Value → aw_H → Prop} : aw_Sn l m_X4_table none X d 0 0 Q 0 (k_X4_table_0 l X d Q) := by
  unfold k_X4_table_0
  exact s_iload_n dX4_table_0 rfl (s_iconst dX4_table_1 (by decide) (s_bipush dX4_table_2 (by decide) (s_cs dX4_table_4 (by decide) w_97 wt_X4_in w_96 wc_X4_in wd_X4_in (s_if_ne dX4_table_7 (by decide) (s_bipush dX4_table_10 (by decide) (s_iret dX4_table_12 rfl)) t_X4_table_13))))
/-! X4_saysOf -/
def k_X4_saysOf_159 (l : Launch) (X : Nat → aw_Kt) (d : Nat) (Q : Option Value → aw_H → Prop) : aw_Kt := o_ri Q
theorem t_X4_saysOf_159 {l : Launch} {X : Nat → aw_Kt} {d : Nat} {Q : Option Value → aw_H → Prop} : aw_Sn l m_X4_saysOf none X d 0 0 Q 159 (k_X4_saysOf_159 l X d Q) := by
  unfold k_X4_saysOf_159
  exact s_iret dX4_saysOf_159 rfl
def k_X4_saysOf_157 (l : Launch) (X : Nat → aw_Kt) (d : Nat) (Q : Option Value → aw_H → Prop) : aw_Kt := o_il 6 (k_X4_saysOf_159 l X d Q)
theorem t_X4_saysOf_157 {l : Launch} {X : Nat → aw_Kt} {d : Nat} {Q : Option Value → aw_H → Prop} : aw_Sn l m_X4_saysOf none X d 0 0 Q 157 (k_X4_saysOf_157 l X d Q) := by
  unfold k_X4_saysOf_157
  exact s_iload dX4_saysOf_157 t_X4_saysOf_159
def k_X4_saysOf_139 (l : Launch) (X : Nat → aw_Kt) (d : Nat) (Q : Option Value → aw_H → Prop) : aw_Kt := o_il 5 (o_ic 5 (o_rm (o_is 6 (o_il 6 (o_if (fun x => 0 ≤ x) (k_X4_saysOf_157 l X d Q) (o_il 6 (o_ic 5 (o_ib (fun x y => x + y) (k_X4_saysOf_159 l X d Q)))))))))
theorem t_X4_saysOf_139 {l : Launch} {X : Nat → aw_Kt} {d : Nat} {Q : Option Value → aw_H → Prop} : aw_Sn l m_X4_saysOf none X d 0 0 Q 139 (k_X4_saysOf_139 l X d Q) := by
  unfold k_X4_saysOf_139
  exact s_iload dX4_saysOf_139 (s_iconst dX4_saysOf_141 (by decide) (s_irem dX4_saysOf_142 (s_istore dX4_saysOf_143 (by decide) (s_iload dX4_saysOf_145 (s_if_ge dX4_saysOf_147 (by decide) t_X4_saysOf_157 (s_iload dX4_saysOf_150 (s_iconst dX4_saysOf_152 (by decide) (s_iadd dX4_saysOf_153 (s_goto dX4_saysOf_154 (by decide) t_X4_saysOf_159)))))))))
def k_X4_saysOf_137 (l : Launch) (X : Nat → aw_Kt) (d : Nat) (Q : Option Value → aw_H → Prop) : aw_Kt := o_is 5 (k_X4_saysOf_139 l X d Q)
theorem t_X4_saysOf_137 {l : Launch} {X : Nat → aw_Kt} {d : Nat} {Q : Option Value → aw_H → Prop} : aw_Sn l m_X4_saysOf none X d 0 0 Q 137 (k_X4_saysOf_137 l X d Q) := by
  unfold k_X4_saysOf_137
  exact s_istore dX4_saysOf_137 (by decide) t_X4_saysOf_139
def k_X4_saysOf_136 (l : Launch) (X : Nat → aw_Kt) (d : Nat) (Q : Option Value → aw_H → Prop) : aw_Kt := o_ic 1 (k_X4_saysOf_137 l X d Q)
theorem t_X4_saysOf_136 {l : Launch} {X : Nat → aw_Kt} {d : Nat} {Q : Option Value → aw_H → Prop} : aw_Sn l m_X4_saysOf none X d 0 0 Q 136 (k_X4_saysOf_136 l X d Q) := by
  unfold k_X4_saysOf_136
  exact s_iconst dX4_saysOf_136 (by decide) t_X4_saysOf_137
def k_X4_saysOf_122 (l : Launch) (X : Nat → aw_Kt) (d : Nat) (Q : Option Value → aw_H → Prop) : aw_Kt := o_il 3 (o_al 0 (o_gf 4 13 (o_il 1 (o_ia 0 (o_i3 (fun x y => y ≤ x) (k_X4_saysOf_136 l X d Q) (o_ic 0 (k_X4_saysOf_137 l X d Q)))))))
theorem t_X4_saysOf_122 {l : Launch} {X : Nat → aw_Kt} {d : Nat} {Q : Option Value → aw_H → Prop} : aw_Sn l m_X4_saysOf none X d 0 0 Q 122 (k_X4_saysOf_122 l X d Q) := by
  unfold k_X4_saysOf_122
  exact s_iload_n dX4_saysOf_122 rfl (s_aload_n dX4_saysOf_123 rfl (s_getf dX4_saysOf_124 rfl u_X4 (by decide) w_113 (s_iload_n dX4_saysOf_127 rfl (s_iaload dX4_saysOf_128 (s_icmp_ge dX4_saysOf_129 (by decide) t_X4_saysOf_136 (s_iconst dX4_saysOf_132 (by decide) (s_goto dX4_saysOf_133 (by decide) t_X4_saysOf_137)))))))
def k_X4_saysOf_110 (l : Launch) (X : Nat → aw_Kt) (d : Nat) (Q : Option Value → aw_H → Prop) : aw_Kt := o_al 0 (o_gf 4 15 (o_il 6 (o_ia 0 (o_is 5 (k_X4_saysOf_139 l X d Q)))))
theorem t_X4_saysOf_110 {l : Launch} {X : Nat → aw_Kt} {d : Nat} {Q : Option Value → aw_H → Prop} : aw_Sn l m_X4_saysOf none X d 0 0 Q 110 (k_X4_saysOf_110 l X d Q) := by
  unfold k_X4_saysOf_110
  exact s_aload_n dX4_saysOf_110 rfl (s_getf dX4_saysOf_111 rfl u_X4 (by decide) w_115 (s_iload dX4_saysOf_114 (s_iaload dX4_saysOf_116 (s_istore dX4_saysOf_117 (by decide) (s_goto dX4_saysOf_119 (by decide) t_X4_saysOf_139)))))
def k_X4_saysOf_76 (l : Launch) (X : Nat → aw_Kt) (d : Nat) (Q : Option Value → aw_H → Prop) : aw_Kt := o_al 0 (o_gf 4 10 (o_il 1 (o_ia 0 (o_ic 2 (o_i3 (fun x y => x = y) (o_il 3 (o_al 0 (o_gf 4 13 (o_il 1 (o_ia 0 (o_ib (fun x y => x + y) (o_is 6 (o_il 6 (o_ic 0 (o_ic 7 (o_cs l d m_X4_in 3 (o_if (fun x => x = 0) (o_ic (-3) (o_ri Q)) (k_X4_saysOf_110 l X d Q))))))))))))) (k_X4_saysOf_122 l X d Q))))))
theorem t_X4_saysOf_76 {l : Launch} {X : Nat → aw_Kt} {d : Nat} {Q : Option Value → aw_H → Prop} : aw_Sn l m_X4_saysOf none X d 0 0 Q 76 (k_X4_saysOf_76 l X d Q) := by
  unfold k_X4_saysOf_76
  exact s_aload_n dX4_saysOf_76 rfl (s_getf dX4_saysOf_77 rfl u_X4 (by decide) w_109 (s_iload_n dX4_saysOf_80 rfl (s_iaload dX4_saysOf_81 (s_iconst dX4_saysOf_82 (by decide) (s_icmp_ne dX4_saysOf_83 (by decide) (s_iload_n dX4_saysOf_86 rfl (s_aload_n dX4_saysOf_87 rfl (s_getf dX4_saysOf_88 rfl u_X4 (by decide) w_113 (s_iload_n dX4_saysOf_91 rfl (s_iaload dX4_saysOf_92 (s_iadd dX4_saysOf_93 (s_istore dX4_saysOf_94 (by decide) (s_iload dX4_saysOf_96 (s_iconst dX4_saysOf_98 (by decide) (s_bipush dX4_saysOf_99 (by decide) (s_cs dX4_saysOf_101 (by decide) w_97 wt_X4_in w_96 wc_X4_in wd_X4_in (s_if_ne dX4_saysOf_104 (by decide) (s_bipush dX4_saysOf_107 (by decide) (s_iret dX4_saysOf_109 rfl)) t_X4_saysOf_110)))))))))))) t_X4_saysOf_122)))))
def k_X4_saysOf_71 (l : Launch) (X : Nat → aw_Kt) (d : Nat) (Q : Option Value → aw_H → Prop) : aw_Kt := o_is 5 (k_X4_saysOf_139 l X d Q)
theorem t_X4_saysOf_71 {l : Launch} {X : Nat → aw_Kt} {d : Nat} {Q : Option Value → aw_H → Prop} : aw_Sn l m_X4_saysOf none X d 0 0 Q 71 (k_X4_saysOf_71 l X d Q) := by
  unfold k_X4_saysOf_71
  exact s_istore dX4_saysOf_71 (by decide) (s_goto dX4_saysOf_73 (by decide) t_X4_saysOf_139)
def k_X4_saysOf_67 (l : Launch) (X : Nat → aw_Kt) (d : Nat) (Q : Option Value → aw_H → Prop) : aw_Kt := o_il 3 (o_il 4 (o_rm (k_X4_saysOf_71 l X d Q)))
theorem t_X4_saysOf_67 {l : Launch} {X : Nat → aw_Kt} {d : Nat} {Q : Option Value → aw_H → Prop} : aw_Sn l m_X4_saysOf none X d 0 0 Q 67 (k_X4_saysOf_67 l X d Q) := by
  unfold k_X4_saysOf_67
  exact s_iload_n dX4_saysOf_67 rfl (s_iload dX4_saysOf_68 (s_irem dX4_saysOf_70 t_X4_saysOf_71))
def k_X4_saysOf_51 (l : Launch) (X : Nat → aw_Kt) (d : Nat) (Q : Option Value → aw_H → Prop) : aw_Kt := o_al 0 (o_gf 4 10 (o_il 1 (o_ia 0 (o_if (fun x => x = 0) (o_il 3 (o_il 4 (o_dv (k_X4_saysOf_71 l X d Q)))) (k_X4_saysOf_67 l X d Q)))))
theorem t_X4_saysOf_51 {l : Launch} {X : Nat → aw_Kt} {d : Nat} {Q : Option Value → aw_H → Prop} : aw_Sn l m_X4_saysOf none X d 0 0 Q 51 (k_X4_saysOf_51 l X d Q) := by
  unfold k_X4_saysOf_51
  exact s_aload_n dX4_saysOf_51 rfl (s_getf dX4_saysOf_52 rfl u_X4 (by decide) w_109 (s_iload_n dX4_saysOf_55 rfl (s_iaload dX4_saysOf_56 (s_if_ne dX4_saysOf_57 (by decide) (s_iload_n dX4_saysOf_60 rfl (s_iload dX4_saysOf_61 (s_idiv dX4_saysOf_63 (s_goto dX4_saysOf_64 (by decide) t_X4_saysOf_71)))) t_X4_saysOf_67))))
def k_X4_saysOf_0 (l : Launch) (X : Nat → aw_Kt) (d : Nat) (Q : Option Value → aw_H → Prop) : aw_Kt := o_al 0 (o_gf 4 2 (o_ic 4 (o_il 2 (o_ib (fun x y => x * y) (o_al 0 (o_gf 4 11 (o_il 1 (o_ia 0 (o_ib (fun x y => x + y) (o_ia 0 (o_is 3 (o_al 0 (o_gf 4 2 (o_ic 4 (o_il 2 (o_ib (fun x y => x * y) (o_al 0 (o_gf 4 12 (o_il 1 (o_ia 0 (o_ib (fun x y => x + y) (o_ia 0 (o_is 4 (o_al 0 (o_gf 4 10 (o_il 1 (o_ia 0 (o_ic 2 (o_i3 (fun x y => y ≤ x) (k_X4_saysOf_76 l X d Q) (o_il 4 (o_if (fun x => x = 0) (o_ic (-2) (o_ri Q)) (k_X4_saysOf_51 l X d Q))))))))))))))))))))))))))))))))
theorem t_X4_saysOf_0 {l : Launch} {X : Nat → aw_Kt} {d : Nat} {Q : Option Value → aw_H → Prop} : aw_Sn l m_X4_saysOf none X d 0 0 Q 0 (k_X4_saysOf_0 l X d Q) := by
  unfold k_X4_saysOf_0
  exact s_aload_n dX4_saysOf_0 rfl (s_getf dX4_saysOf_1 rfl u_X4 (by decide) w_98 (s_iconst dX4_saysOf_4 (by decide) (s_iload_n dX4_saysOf_5 rfl (s_imul dX4_saysOf_6 (s_aload_n dX4_saysOf_7 rfl (s_getf dX4_saysOf_8 rfl u_X4 (by decide) w_111 (s_iload_n dX4_saysOf_11 rfl (s_iaload dX4_saysOf_12 (s_iadd dX4_saysOf_13 (s_iaload dX4_saysOf_14 (s_istore_n dX4_saysOf_15 rfl (by decide) (s_aload_n dX4_saysOf_16 rfl (s_getf dX4_saysOf_17 rfl u_X4 (by decide) w_98 (s_iconst dX4_saysOf_20 (by decide) (s_iload_n dX4_saysOf_21 rfl (s_imul dX4_saysOf_22 (s_aload_n dX4_saysOf_23 rfl (s_getf dX4_saysOf_24 rfl u_X4 (by decide) w_112 (s_iload_n dX4_saysOf_27 rfl (s_iaload dX4_saysOf_28 (s_iadd dX4_saysOf_29 (s_iaload dX4_saysOf_30 (s_istore dX4_saysOf_31 (by decide) (s_aload_n dX4_saysOf_33 rfl (s_getf dX4_saysOf_34 rfl u_X4 (by decide) w_109 (s_iload_n dX4_saysOf_37 rfl (s_iaload dX4_saysOf_38 (s_iconst dX4_saysOf_39 (by decide) (s_icmp_ge dX4_saysOf_40 (by decide) t_X4_saysOf_76 (s_iload dX4_saysOf_43 (s_if_ne dX4_saysOf_45 (by decide) (s_bipush dX4_saysOf_48 (by decide) (s_iret dX4_saysOf_50 rfl)) t_X4_saysOf_51)))))))))))))))))))))))))))))))
/-! X4_says -/
def k_X4_says_70 (l : Launch) (X : Nat → aw_Kt) (d : Nat) (Q : Option Value → aw_H → Prop) : aw_Kt := o_ri Q
theorem t_X4_says_70 {l : Launch} {X : Nat → aw_Kt} {d : Nat} {Q : Option Value → aw_H → Prop} : aw_Sn l m_X4_says none X d 0 0 Q 70 (k_X4_says_70 l X d Q) := by
  unfold k_X4_says_70
  exact s_iret dX4_says_70 rfl
def k_X4_says_69 (l : Launch) (X : Nat → aw_Kt) (d : Nat) (Q : Option Value → aw_H → Prop) : aw_Kt := o_il 3 (k_X4_says_70 l X d Q)
theorem t_X4_says_69 {l : Launch} {X : Nat → aw_Kt} {d : Nat} {Q : Option Value → aw_H → Prop} : aw_Sn l m_X4_says none X d 0 0 Q 69 (k_X4_says_69 l X d Q) := by
  unfold k_X4_says_69
  exact s_iload_n dX4_says_69 rfl t_X4_says_70
def k_X4_says_58 (l : Launch) (X : Nat → aw_Kt) (d : Nat) (Q : Option Value → aw_H → Prop) : aw_Kt := o_pi 4 0 (o_il 3 (o_if (fun x => 0 ≤ x) (k_X4_says_69 l X d Q) (o_ic 0 (k_X4_says_70 l X d Q))))
theorem t_X4_says_58 {l : Launch} {X : Nat → aw_Kt} {d : Nat} {Q : Option Value → aw_H → Prop} : aw_Sn l m_X4_says none X d 0 0 Q 58 (k_X4_says_58 l X d Q) := by
  unfold k_X4_says_58
  exact s_puti dX4_says_58 rfl u_X4 tyX4_ok nmX4 (by decide) rfl (by decide +kernel) w_94 (s_iload_n dX4_says_61 rfl (s_if_ge dX4_says_62 (by decide) t_X4_says_69 (s_iconst dX4_says_65 (by decide) (s_goto dX4_says_66 (by decide) t_X4_says_70))))
def k_X4_says_57 (l : Launch) (X : Nat → aw_Kt) (d : Nat) (Q : Option Value → aw_H → Prop) : aw_Kt := o_ic 0 (k_X4_says_58 l X d Q)
theorem t_X4_says_57 {l : Launch} {X : Nat → aw_Kt} {d : Nat} {Q : Option Value → aw_H → Prop} : aw_Sn l m_X4_says none X d 0 0 Q 57 (k_X4_says_57 l X d Q) := by
  unfold k_X4_says_57
  exact s_iconst dX4_says_57 (by decide) t_X4_says_58
def k_X4_says_40 (l : Launch) (X : Nat → aw_Kt) (d : Nat) (Q : Option Value → aw_H → Prop) : aw_Kt := o_al 0 (o_il 1 (o_il 2 (o_cv l d m_X4_saysOf 4 2 (o_is 3 (o_al 0 (o_il 3 (o_if (fun x => 0 ≤ x) (k_X4_says_57 l X d Q) (o_il 3 (o_ng (k_X4_says_58 l X d Q))))))))))
theorem t_X4_says_40 {l : Launch} {X : Nat → aw_Kt} {d : Nat} {Q : Option Value → aw_H → Prop} : aw_Sn l m_X4_says none X d 0 0 Q 40 (k_X4_says_40 l X d Q) := by
  unfold k_X4_says_40
  exact s_aload_n dX4_says_40 rfl (s_iload_n dX4_says_41 rfl (s_iload_n dX4_says_42 rfl (s_cv dX4_says_43 rfl (by decide) w_116 wi_X4_saysOf ws_X4_saysOf w_96 wc_X4_saysOf wd_X4_saysOf (s_istore_n dX4_says_46 rfl (by decide) (s_aload_n dX4_says_47 rfl (s_iload_n dX4_says_48 rfl (s_if_ge dX4_says_49 (by decide) t_X4_says_57 (s_iload_n dX4_says_52 rfl (s_ineg dX4_says_53 (s_goto dX4_says_54 (by decide) t_X4_says_58))))))))))
def k_X4_says_28 (l : Launch) (X : Nat → aw_Kt) (d : Nat) (Q : Option Value → aw_H → Prop) : aw_Kt := o_pi 4 0 (o_al 0 (o_gf 4 0 (o_if (fun x => x ≤ 0) (k_X4_says_40 l X d Q) (o_ic 0 (o_ri Q)))))
theorem t_X4_says_28 {l : Launch} {X : Nat → aw_Kt} {d : Nat} {Q : Option Value → aw_H → Prop} : aw_Sn l m_X4_says none X d 0 0 Q 28 (k_X4_says_28 l X d Q) := by
  unfold k_X4_says_28
  exact s_puti dX4_says_28 rfl u_X4 tyX4_ok nmX4 (by decide) rfl (by decide +kernel) w_94 (s_aload_n dX4_says_31 rfl (s_getf dX4_says_32 rfl u_X4 (by decide) w_94 (s_if_le dX4_says_35 (by decide) t_X4_says_40 (s_iconst dX4_says_38 (by decide) (s_iret dX4_says_39 rfl)))))
def k_X4_says_27 (l : Launch) (X : Nat → aw_Kt) (d : Nat) (Q : Option Value → aw_H → Prop) : aw_Kt := o_ic 1 (k_X4_says_28 l X d Q)
theorem t_X4_says_27 {l : Launch} {X : Nat → aw_Kt} {d : Nat} {Q : Option Value → aw_H → Prop} : aw_Sn l m_X4_says none X d 0 0 Q 27 (k_X4_says_27 l X d Q) := by
  unfold k_X4_says_27
  exact s_iconst dX4_says_27 (by decide) t_X4_says_28
def k_X4_says_0 (l : Launch) (X : Nat → aw_Kt) (d : Nat) (Q : Option Value → aw_H → Prop) : aw_Kt := o_al 0 (o_il 1 (o_ic 0 (o_al 0 (o_gf 4 9 (o_ic 1 (o_ib (fun x y => x - y) (o_cs l d m_X4_in 3 (o_if (fun x => x = 0) (k_X4_says_27 l X d Q) (o_al 0 (o_il 2 (o_cv l d m_X4_isRow 4 1 (o_if (fun x => x = 0) (k_X4_says_27 l X d Q) (o_ic 0 (k_X4_says_28 l X d Q))))))))))))))
theorem t_X4_says_0 {l : Launch} {X : Nat → aw_Kt} {d : Nat} {Q : Option Value → aw_H → Prop} : aw_Sn l m_X4_says none X d 0 0 Q 0 (k_X4_says_0 l X d Q) := by
  unfold k_X4_says_0
  exact s_aload_n dX4_says_0 rfl (s_iload_n dX4_says_1 rfl (s_iconst dX4_says_2 (by decide) (s_aload_n dX4_says_3 rfl (s_getf dX4_says_4 rfl u_X4 (by decide) w_110 (s_iconst dX4_says_7 (by decide) (s_isub dX4_says_8 (s_cs dX4_says_9 (by decide) w_97 wt_X4_in w_96 wc_X4_in wd_X4_in (s_if_eq dX4_says_12 (by decide) t_X4_says_27 (s_aload_n dX4_says_15 rfl (s_iload_n dX4_says_16 rfl (s_cv dX4_says_17 rfl (by decide) w_101 wi_X4_isRow ws_X4_isRow w_96 wc_X4_isRow wd_X4_isRow (s_if_eq dX4_says_20 (by decide) t_X4_says_27 (s_iconst dX4_says_23 (by decide) (s_goto dX4_says_24 (by decide) t_X4_says_28))))))))))))))
/-! X4_abstains -/
def k_X4_abstains_52 (l : Launch) (X : Nat → aw_Kt) (d : Nat) (Q : Option Value → aw_H → Prop) : aw_Kt := o_il 2 (o_ri Q)
theorem t_X4_abstains_52 {l : Launch} {X : Nat → aw_Kt} {d : Nat} {Q : Option Value → aw_H → Prop} : aw_Sn l m_X4_abstains none X d 0 0 Q 52 (k_X4_abstains_52 l X d Q) := by
  unfold k_X4_abstains_52
  exact s_iload_n dX4_abstains_52 rfl (s_iret dX4_abstains_53 rfl)
def k_X4_abstains_44 (l : Launch) (X : Nat → aw_Kt) (d : Nat) (Q : Option Value → aw_H → Prop) : aw_Kt := o_ib (fun x y => x + y) (o_is 2 (o_ii 3 1 (SW l m_X4_abstains none X d 0 0 Q 21)))
theorem t_X4_abstains_44 {l : Launch} {X : Nat → aw_Kt} {d : Nat} {Q : Option Value → aw_H → Prop} : aw_Sn l m_X4_abstains none X d 0 0 Q 44 (k_X4_abstains_44 l X d Q) := by
  unfold k_X4_abstains_44
  exact s_iadd dX4_abstains_44 (s_istore_n dX4_abstains_45 rfl (by decide) (s_iinc dX4_abstains_46 (by decide) (by decide) (s_goto dX4_abstains_49 (by decide) s_stop)))
def k_X4_abstains_43 (l : Launch) (X : Nat → aw_Kt) (d : Nat) (Q : Option Value → aw_H → Prop) : aw_Kt := o_ic 0 (k_X4_abstains_44 l X d Q)
theorem t_X4_abstains_43 {l : Launch} {X : Nat → aw_Kt} {d : Nat} {Q : Option Value → aw_H → Prop} : aw_Sn l m_X4_abstains none X d 0 0 Q 43 (k_X4_abstains_43 l X d Q) := by
  unfold k_X4_abstains_43
  exact s_iconst dX4_abstains_43 (by decide) t_X4_abstains_44
def k_X4_abstains_21 (l : Launch) (X : Nat → aw_Kt) (d : Nat) (Q : Option Value → aw_H → Prop) : aw_Kt := o_il 3 (o_al 0 (o_gf 4 1 (o_i3 (fun x y => y ≤ x) (k_X4_abstains_52 l X d Q) (o_il 2 (o_al 0 (o_il 1 (o_il 3 (o_cv l d m_X4_saysOf 4 2 (o_if (fun x => 0 ≤ x) (k_X4_abstains_43 l X d Q) (o_ic 1 (k_X4_abstains_44 l X d Q)))))))))))
theorem t_X4_abstains_21 {l : Launch} {X : Nat → aw_Kt} {d : Nat} {Q : Option Value → aw_H → Prop} : aw_Sn l m_X4_abstains none X d 0 0 Q 21 (k_X4_abstains_21 l X d Q) := by
  unfold k_X4_abstains_21
  exact s_iload_n dX4_abstains_21 rfl (s_aload_n dX4_abstains_22 rfl (s_getf dX4_abstains_23 rfl u_X4 (by decide) w_95 (s_icmp_ge dX4_abstains_26 (by decide) t_X4_abstains_52 (s_iload_n dX4_abstains_29 rfl (s_aload_n dX4_abstains_30 rfl (s_iload_n dX4_abstains_31 rfl (s_iload_n dX4_abstains_32 rfl (s_cv dX4_abstains_33 rfl (by decide) w_116 wi_X4_saysOf ws_X4_saysOf w_96 wc_X4_saysOf wd_X4_saysOf (s_if_ge dX4_abstains_36 (by decide) t_X4_abstains_43 (s_iconst dX4_abstains_39 (by decide) (s_goto dX4_abstains_40 (by decide) t_X4_abstains_44)))))))))))
def k_X4_abstains_17 (l : Launch) (X : Nat → aw_Kt) (d : Nat) (Q : Option Value → aw_H → Prop) : aw_Kt := o_ic 0 (o_is 2 (o_ic 0 (o_is 3 (SW l m_X4_abstains none X d 0 0 Q 21))))
theorem t_X4_abstains_17 {l : Launch} {X : Nat → aw_Kt} {d : Nat} {Q : Option Value → aw_H → Prop} : aw_Sn l m_X4_abstains none X d 0 0 Q 17 (k_X4_abstains_17 l X d Q) := by
  unfold k_X4_abstains_17
  exact s_iconst dX4_abstains_17 (by decide) (s_istore_n dX4_abstains_18 rfl (by decide) (s_iconst dX4_abstains_19 (by decide) (s_istore_n dX4_abstains_20 rfl (by decide) s_stop)))
def k_X4_abstains_0 (l : Launch) (X : Nat → aw_Kt) (d : Nat) (Q : Option Value → aw_H → Prop) : aw_Kt := o_il 1 (o_ic 0 (o_al 0 (o_gf 4 9 (o_ic 1 (o_ib (fun x y => x - y) (o_cs l d m_X4_in 3 (o_if (fun x => x = 0) (o_ic (-101) (o_ri Q)) (k_X4_abstains_17 l X d Q))))))))
theorem t_X4_abstains_0 {l : Launch} {X : Nat → aw_Kt} {d : Nat} {Q : Option Value → aw_H → Prop} : aw_Sn l m_X4_abstains none X d 0 0 Q 0 (k_X4_abstains_0 l X d Q) := by
  unfold k_X4_abstains_0
  exact s_iload_n dX4_abstains_0 rfl (s_iconst dX4_abstains_1 (by decide) (s_aload_n dX4_abstains_2 rfl (s_getf dX4_abstains_3 rfl u_X4 (by decide) w_110 (s_iconst dX4_abstains_6 (by decide) (s_isub dX4_abstains_7 (s_cs dX4_abstains_8 (by decide) w_97 wt_X4_in w_96 wc_X4_in wd_X4_in (s_if_ne dX4_abstains_11 (by decide) (s_bipush dX4_abstains_14 (by decide) (s_iret dX4_abstains_16 rfl)) t_X4_abstains_17)))))))
/-! X4_votesOf -/
def k_X4_votesOf_106 (l : Launch) (X : Nat → aw_Kt) (d : Nat) (Q : Option Value → aw_H → Prop) : aw_Kt := o_il 3 (o_ri Q)
theorem t_X4_votesOf_106 {l : Launch} {X : Nat → aw_Kt} {d : Nat} {Q : Option Value → aw_H → Prop} : aw_Sn l m_X4_votesOf none X d 0 0 Q 106 (k_X4_votesOf_106 l X d Q) := by
  unfold k_X4_votesOf_106
  exact s_iload_n dX4_votesOf_106 rfl (s_iret dX4_votesOf_107 rfl)
def k_X4_votesOf_98 (l : Launch) (X : Nat → aw_Kt) (d : Nat) (Q : Option Value → aw_H → Prop) : aw_Kt := o_ib (fun x y => x + y) (o_is 3 (o_ii 4 1 (SW l m_X4_votesOf none X d 0 0 Q 62)))
theorem t_X4_votesOf_98 {l : Launch} {X : Nat → aw_Kt} {d : Nat} {Q : Option Value → aw_H → Prop} : aw_Sn l m_X4_votesOf none X d 0 0 Q 98 (k_X4_votesOf_98 l X d Q) := by
  unfold k_X4_votesOf_98
  exact s_iadd dX4_votesOf_98 (s_istore_n dX4_votesOf_99 rfl (by decide) (s_iinc dX4_votesOf_100 (by decide) (by decide) (s_goto dX4_votesOf_103 (by decide) s_stop)))
def k_X4_votesOf_97 (l : Launch) (X : Nat → aw_Kt) (d : Nat) (Q : Option Value → aw_H → Prop) : aw_Kt := o_ic 0 (k_X4_votesOf_98 l X d Q)
theorem t_X4_votesOf_97 {l : Launch} {X : Nat → aw_Kt} {d : Nat} {Q : Option Value → aw_H → Prop} : aw_Sn l m_X4_votesOf none X d 0 0 Q 97 (k_X4_votesOf_97 l X d Q) := by
  unfold k_X4_votesOf_97
  exact s_iconst dX4_votesOf_97 (by decide) t_X4_votesOf_98
def k_X4_votesOf_62 (l : Launch) (X : Nat → aw_Kt) (d : Nat) (Q : Option Value → aw_H → Prop) : aw_Kt := o_il 4 (o_al 0 (o_gf 4 9 (o_i3 (fun x y => y ≤ x) (k_X4_votesOf_106 l X d Q) (o_il 3 (o_al 0 (o_gf 4 14 (o_il 4 (o_ia 1 (o_if (fun x => x = 0) (k_X4_votesOf_97 l X d Q) (o_al 0 (o_il 4 (o_il 1 (o_cv l d m_X4_saysOf 4 2 (o_il 2 (o_i3 (fun x y => x = y) (o_ic 1 (k_X4_votesOf_98 l X d Q)) (k_X4_votesOf_97 l X d Q))))))))))))))))
theorem t_X4_votesOf_62 {l : Launch} {X : Nat → aw_Kt} {d : Nat} {Q : Option Value → aw_H → Prop} : aw_Sn l m_X4_votesOf none X d 0 0 Q 62 (k_X4_votesOf_62 l X d Q) := by
  unfold k_X4_votesOf_62
  exact s_iload dX4_votesOf_62 (s_aload_n dX4_votesOf_64 rfl (s_getf dX4_votesOf_65 rfl u_X4 (by decide) w_110 (s_icmp_ge dX4_votesOf_68 (by decide) t_X4_votesOf_106 (s_iload_n dX4_votesOf_71 rfl (s_aload_n dX4_votesOf_72 rfl (s_getf dX4_votesOf_73 rfl u_X4 (by decide) w_114 (s_iload dX4_votesOf_76 (s_baload dX4_votesOf_78 (s_if_eq dX4_votesOf_79 (by decide) t_X4_votesOf_97 (s_aload_n dX4_votesOf_82 rfl (s_iload dX4_votesOf_83 (s_iload_n dX4_votesOf_85 rfl (s_cv dX4_votesOf_86 rfl (by decide) w_116 wi_X4_saysOf ws_X4_saysOf w_96 wc_X4_saysOf wd_X4_saysOf (s_iload_n dX4_votesOf_89 rfl (s_icmp_ne dX4_votesOf_90 (by decide) (s_iconst dX4_votesOf_93 (by decide) (s_goto dX4_votesOf_94 (by decide) t_X4_votesOf_98)) t_X4_votesOf_97)))))))))))))))
def k_X4_votesOf_59 (l : Launch) (X : Nat → aw_Kt) (d : Nat) (Q : Option Value → aw_H → Prop) : aw_Kt := o_ic 0 (o_is 4 (SW l m_X4_votesOf none X d 0 0 Q 62))
theorem t_X4_votesOf_59 {l : Launch} {X : Nat → aw_Kt} {d : Nat} {Q : Option Value → aw_H → Prop} : aw_Sn l m_X4_votesOf none X d 0 0 Q 59 (k_X4_votesOf_59 l X d Q) := by
  unfold k_X4_votesOf_59
  exact s_iconst dX4_votesOf_59 (by decide) (s_istore dX4_votesOf_60 (by decide) s_stop)
def k_X4_votesOf_51 (l : Launch) (X : Nat → aw_Kt) (d : Nat) (Q : Option Value → aw_H → Prop) : aw_Kt := o_ib (fun x y => x + y) (o_is 3 (o_ii 4 1 (SW l m_X4_votesOf none X d 0 0 Q 5)))
theorem t_X4_votesOf_51 {l : Launch} {X : Nat → aw_Kt} {d : Nat} {Q : Option Value → aw_H → Prop} : aw_Sn l m_X4_votesOf none X d 0 0 Q 51 (k_X4_votesOf_51 l X d Q) := by
  unfold k_X4_votesOf_51
  exact s_iadd dX4_votesOf_51 (s_istore_n dX4_votesOf_52 rfl (by decide) (s_iinc dX4_votesOf_53 (by decide) (by decide) (s_goto dX4_votesOf_56 (by decide) s_stop)))
def k_X4_votesOf_50 (l : Launch) (X : Nat → aw_Kt) (d : Nat) (Q : Option Value → aw_H → Prop) : aw_Kt := o_ic 0 (k_X4_votesOf_51 l X d Q)
theorem t_X4_votesOf_50 {l : Launch} {X : Nat → aw_Kt} {d : Nat} {Q : Option Value → aw_H → Prop} : aw_Sn l m_X4_votesOf none X d 0 0 Q 50 (k_X4_votesOf_50 l X d Q) := by
  unfold k_X4_votesOf_50
  exact s_iconst dX4_votesOf_50 (by decide) t_X4_votesOf_51
def k_X4_votesOf_5 (l : Launch) (X : Nat → aw_Kt) (d : Nat) (Q : Option Value → aw_H → Prop) : aw_Kt := o_il 4 (o_ic 8 (o_i3 (fun x y => y ≤ x) (k_X4_votesOf_59 l X d Q) (o_il 3 (o_al 0 (o_gf 4 3 (o_ic 8 (o_il 1 (o_ib (fun x y => x * y) (o_il 4 (o_ib (fun x y => x + y) (o_ia 0 (o_il 2 (o_ic 1 (o_ib (fun x y => x + y) (o_i3 (fun x y => x = y) (o_al 0 (o_il 4 (o_cv l d m_X4_isBarred 4 1 (o_if (fun x => x = 0) (o_al 0 (o_gf 4 7 (o_il 4 (o_ia 0 (k_X4_votesOf_51 l X d Q))))) (k_X4_votesOf_50 l X d Q))))) (k_X4_votesOf_50 l X d Q))))))))))))))))
theorem t_X4_votesOf_5 {l : Launch} {X : Nat → aw_Kt} {d : Nat} {Q : Option Value → aw_H → Prop} : aw_Sn l m_X4_votesOf none X d 0 0 Q 5 (k_X4_votesOf_5 l X d Q) := by
  unfold k_X4_votesOf_5
  exact s_iload dX4_votesOf_5 (s_bipush dX4_votesOf_7 (by decide) (s_icmp_ge dX4_votesOf_9 (by decide) t_X4_votesOf_59 (s_iload_n dX4_votesOf_12 rfl (s_aload_n dX4_votesOf_13 rfl (s_getf dX4_votesOf_14 rfl u_X4 (by decide) w_100 (s_bipush dX4_votesOf_17 (by decide) (s_iload_n dX4_votesOf_19 rfl (s_imul dX4_votesOf_20 (s_iload dX4_votesOf_21 (s_iadd dX4_votesOf_23 (s_iaload dX4_votesOf_24 (s_iload_n dX4_votesOf_25 rfl (s_iconst dX4_votesOf_26 (by decide) (s_iadd dX4_votesOf_27 (s_icmp_ne dX4_votesOf_28 (by decide) (s_aload_n dX4_votesOf_31 rfl (s_iload dX4_votesOf_32 (s_cv dX4_votesOf_34 rfl (by decide) w_107 wi_X4_isBarred ws_X4_isBarred w_96 wc_X4_isBarred wd_X4_isBarred (s_if_ne dX4_votesOf_37 (by decide) (s_aload_n dX4_votesOf_40 rfl (s_getf dX4_votesOf_41 rfl u_X4 (by decide) w_108 (s_iload dX4_votesOf_44 (s_iaload dX4_votesOf_46 (s_goto dX4_votesOf_47 (by decide) t_X4_votesOf_51))))) t_X4_votesOf_50)))) t_X4_votesOf_50)))))))))))))))
def k_X4_votesOf_0 (l : Launch) (X : Nat → aw_Kt) (d : Nat) (Q : Option Value → aw_H → Prop) : aw_Kt := o_ic 0 (o_is 3 (o_ic 0 (o_is 4 (SW l m_X4_votesOf none X d 0 0 Q 5))))
theorem t_X4_votesOf_0 {l : Launch} {X : Nat → aw_Kt} {d : Nat} {Q : Option Value → aw_H → Prop} : aw_Sn l m_X4_votesOf none X d 0 0 Q 0 (k_X4_votesOf_0 l X d Q) := by
  unfold k_X4_votesOf_0
  exact s_iconst dX4_votesOf_0 (by decide) (s_istore_n dX4_votesOf_1 rfl (by decide) (s_iconst dX4_votesOf_2 (by decide) (s_istore dX4_votesOf_3 (by decide) s_stop)))
/-! X4_votes -/
def k_X4_votes_33 (l : Launch) (X : Nat → aw_Kt) (d : Nat) (Q : Option Value → aw_H → Prop) : aw_Kt := o_ri Q
theorem t_X4_votes_33 {l : Launch} {X : Nat → aw_Kt} {d : Nat} {Q : Option Value → aw_H → Prop} : aw_Sn l m_X4_votes none X d 0 0 Q 33 (k_X4_votes_33 l X d Q) := by
  unfold k_X4_votes_33
  exact s_iret dX4_votes_33 rfl
def k_X4_votes_31 (l : Launch) (X : Nat → aw_Kt) (d : Nat) (Q : Option Value → aw_H → Prop) : aw_Kt := o_ic (-102) (k_X4_votes_33 l X d Q)
theorem t_X4_votes_31 {l : Launch} {X : Nat → aw_Kt} {d : Nat} {Q : Option Value → aw_H → Prop} : aw_Sn l m_X4_votes none X d 0 0 Q 31 (k_X4_votes_31 l X d Q) := by
  unfold k_X4_votes_31
  exact s_bipush dX4_votes_31 (by decide) t_X4_votes_33
def k_X4_votes_13 (l : Launch) (X : Nat → aw_Kt) (d : Nat) (Q : Option Value → aw_H → Prop) : aw_Kt := o_il 2 (o_ic 0 (o_ic 4 (o_cs l d m_X4_in 3 (o_if (fun x => x = 0) (k_X4_votes_31 l X d Q) (o_al 0 (o_il 1 (o_il 2 (o_cv l d m_X4_votesOf 4 2 (k_X4_votes_33 l X d Q)))))))))
theorem t_X4_votes_13 {l : Launch} {X : Nat → aw_Kt} {d : Nat} {Q : Option Value → aw_H → Prop} : aw_Sn l m_X4_votes none X d 0 0 Q 13 (k_X4_votes_13 l X d Q) := by
  unfold k_X4_votes_13
  exact s_iload_n dX4_votes_13 rfl (s_iconst dX4_votes_14 (by decide) (s_iconst dX4_votes_15 (by decide) (s_cs dX4_votes_16 (by decide) w_97 wt_X4_in w_96 wc_X4_in wd_X4_in (s_if_eq dX4_votes_19 (by decide) t_X4_votes_31 (s_aload_n dX4_votes_22 rfl (s_iload_n dX4_votes_23 rfl (s_iload_n dX4_votes_24 rfl (s_cv dX4_votes_25 rfl (by decide) w_117 wi_X4_votesOf ws_X4_votesOf w_96 wc_X4_votesOf wd_X4_votesOf (s_goto dX4_votes_28 (by decide) t_X4_votes_33)))))))))
def k_X4_votes_0 (l : Launch) (X : Nat → aw_Kt) (d : Nat) (Q : Option Value → aw_H → Prop) : aw_Kt := o_al 0 (o_il 1 (o_cv l d m_X4_isRow 4 1 (o_if (fun x => x = 0) (o_ic (-101) (k_X4_votes_33 l X d Q)) (k_X4_votes_13 l X d Q))))
theorem t_X4_votes_0 {l : Launch} {X : Nat → aw_Kt} {d : Nat} {Q : Option Value → aw_H → Prop} : aw_Sn l m_X4_votes none X d 0 0 Q 0 (k_X4_votes_0 l X d Q) := by
  unfold k_X4_votes_0
  exact s_aload_n dX4_votes_0 rfl (s_iload_n dX4_votes_1 rfl (s_cv dX4_votes_2 rfl (by decide) w_101 wi_X4_isRow ws_X4_isRow w_96 wc_X4_isRow wd_X4_isRow (s_if_ne dX4_votes_5 (by decide) (s_bipush dX4_votes_8 (by decide) (s_goto dX4_votes_10 (by decide) t_X4_votes_33)) t_X4_votes_13)))
/-! X4_weigh -/
def k_X4_weigh_77 (l : Launch) (X : Nat → aw_Kt) (d : Nat) (Q : Option Value → aw_H → Prop) : aw_Kt := o_rv Q
theorem t_X4_weigh_77 {l : Launch} {X : Nat → aw_Kt} {d : Nat} {Q : Option Value → aw_H → Prop} : aw_Sn l m_X4_weigh none X d 0 0 Q 77 (k_X4_weigh_77 l X d Q) := by
  unfold k_X4_weigh_77
  exact s_vret dX4_weigh_77 rfl
def k_X4_weigh_71 (l : Launch) (X : Nat → aw_Kt) (d : Nat) (Q : Option Value → aw_H → Prop) : aw_Kt := o_ii 2 1 (SW l m_X4_weigh none X d 0 0 Q 17)
theorem t_X4_weigh_71 {l : Launch} {X : Nat → aw_Kt} {d : Nat} {Q : Option Value → aw_H → Prop} : aw_Sn l m_X4_weigh none X d 0 0 Q 71 (k_X4_weigh_71 l X d Q) := by
  unfold k_X4_weigh_71
  exact s_iinc dX4_weigh_71 (by decide) (by decide) (s_goto dX4_weigh_74 (by decide) s_stop)
def k_X4_weigh_58 (l : Launch) (X : Nat → aw_Kt) (d : Nat) (Q : Option Value → aw_H → Prop) : aw_Kt := o_il 3 (o_al 0 (o_gf 4 17 (o_i3 (fun x y => x ≤ y) (k_X4_weigh_71 l X d Q) (o_al 0 (o_il 3 (o_pi 4 17 (k_X4_weigh_71 l X d Q)))))))
theorem t_X4_weigh_58 {l : Launch} {X : Nat → aw_Kt} {d : Nat} {Q : Option Value → aw_H → Prop} : aw_Sn l m_X4_weigh none X d 0 0 Q 58 (k_X4_weigh_58 l X d Q) := by
  unfold k_X4_weigh_58
  exact s_iload_n dX4_weigh_58 rfl (s_aload_n dX4_weigh_59 rfl (s_getf dX4_weigh_60 rfl u_X4 (by decide) w_118 (s_icmp_le dX4_weigh_63 (by decide) t_X4_weigh_71 (s_aload_n dX4_weigh_66 rfl (s_iload_n dX4_weigh_67 rfl (s_puti dX4_weigh_68 rfl u_X4 tyX4_ok nmX4 (by decide) rfl (by decide +kernel) w_118 t_X4_weigh_71))))))
def k_X4_weigh_17 (l : Launch) (X : Nat → aw_Kt) (d : Nat) (Q : Option Value → aw_H → Prop) : aw_Kt := o_il 2 (o_ic 5 (o_i3 (fun x y => y ≤ x) (k_X4_weigh_77 l X d Q) (o_al 0 (o_il 1 (o_il 2 (o_cv l d m_X4_votesOf 4 2 (o_is 3 (o_il 3 (o_al 0 (o_gf 4 16 (o_i3 (fun x y => x ≤ y) (k_X4_weigh_58 l X d Q) (o_al 0 (o_al 0 (o_gf 4 16 (o_pi 4 17 (o_al 0 (o_il 3 (o_pi 4 16 (o_al 0 (o_il 2 (o_pi 4 18 (k_X4_weigh_71 l X d Q))))))))))))))))))))))
theorem t_X4_weigh_17 {l : Launch} {X : Nat → aw_Kt} {d : Nat} {Q : Option Value → aw_H → Prop} : aw_Sn l m_X4_weigh none X d 0 0 Q 17 (k_X4_weigh_17 l X d Q) := by
  unfold k_X4_weigh_17
  exact s_iload_n dX4_weigh_17 rfl (s_iconst dX4_weigh_18 (by decide) (s_icmp_ge dX4_weigh_19 (by decide) t_X4_weigh_77 (s_aload_n dX4_weigh_22 rfl (s_iload_n dX4_weigh_23 rfl (s_iload_n dX4_weigh_24 rfl (s_cv dX4_weigh_25 rfl (by decide) w_117 wi_X4_votesOf ws_X4_votesOf w_96 wc_X4_votesOf wd_X4_votesOf (s_istore_n dX4_weigh_28 rfl (by decide) (s_iload_n dX4_weigh_29 rfl (s_aload_n dX4_weigh_30 rfl (s_getf dX4_weigh_31 rfl u_X4 (by decide) w_119 (s_icmp_le dX4_weigh_34 (by decide) t_X4_weigh_58 (s_aload_n dX4_weigh_37 rfl (s_aload_n dX4_weigh_38 rfl (s_getf dX4_weigh_39 rfl u_X4 (by decide) w_119 (s_puti dX4_weigh_42 rfl u_X4 tyX4_ok nmX4 (by decide) rfl (by decide +kernel) w_118 (s_aload_n dX4_weigh_45 rfl (s_iload_n dX4_weigh_46 rfl (s_puti dX4_weigh_47 rfl u_X4 tyX4_ok nmX4 (by decide) rfl (by decide +kernel) w_119 (s_aload_n dX4_weigh_50 rfl (s_iload_n dX4_weigh_51 rfl (s_puti dX4_weigh_52 rfl u_X4 tyX4_ok nmX4 (by decide) rfl (by decide +kernel) w_120 (s_goto dX4_weigh_55 (by decide) t_X4_weigh_71))))))))))))))))))))))
def k_X4_weigh_0 (l : Launch) (X : Nat → aw_Kt) (d : Nat) (Q : Option Value → aw_H → Prop) : aw_Kt := o_al 0 (o_ic (-1) (o_pi 4 16 (o_al 0 (o_ic (-1) (o_pi 4 17 (o_al 0 (o_ic (-1) (o_pi 4 18 (o_ic 0 (o_is 2 (SW l m_X4_weigh none X d 0 0 Q 17)))))))))))
theorem t_X4_weigh_0 {l : Launch} {X : Nat → aw_Kt} {d : Nat} {Q : Option Value → aw_H → Prop} : aw_Sn l m_X4_weigh none X d 0 0 Q 0 (k_X4_weigh_0 l X d Q) := by
  unfold k_X4_weigh_0
  exact s_aload_n dX4_weigh_0 rfl (s_iconst dX4_weigh_1 (by decide) (s_puti dX4_weigh_2 rfl u_X4 tyX4_ok nmX4 (by decide) rfl (by decide +kernel) w_119 (s_aload_n dX4_weigh_5 rfl (s_iconst dX4_weigh_6 (by decide) (s_puti dX4_weigh_7 rfl u_X4 tyX4_ok nmX4 (by decide) rfl (by decide +kernel) w_118 (s_aload_n dX4_weigh_10 rfl (s_iconst dX4_weigh_11 (by decide) (s_puti dX4_weigh_12 rfl u_X4 tyX4_ok nmX4 (by decide) rfl (by decide +kernel) w_120 (s_iconst dX4_weigh_15 (by decide) (s_istore_n dX4_weigh_16 rfl (by decide) s_stop))))))))))
/-! X4_decidedOf -/
def k_X4_decidedOf_104 (l : Launch) (X : Nat → aw_Kt) (d : Nat) (Q : Option Value → aw_H → Prop) : aw_Kt := o_ic (-1) (o_ri Q)
theorem t_X4_decidedOf_104 {l : Launch} {X : Nat → aw_Kt} {d : Nat} {Q : Option Value → aw_H → Prop} : aw_Sn l m_X4_decidedOf none X d 0 0 Q 104 (k_X4_decidedOf_104 l X d Q) := by
  unfold k_X4_decidedOf_104
  exact s_iconst dX4_decidedOf_104 (by decide) (s_iret dX4_decidedOf_105 rfl)
def k_X4_decidedOf_98 (l : Launch) (X : Nat → aw_Kt) (d : Nat) (Q : Option Value → aw_H → Prop) : aw_Kt := o_ii 2 1 (SW l m_X4_decidedOf none X d 0 0 Q 47)
theorem t_X4_decidedOf_98 {l : Launch} {X : Nat → aw_Kt} {d : Nat} {Q : Option Value → aw_H → Prop} : aw_Sn l m_X4_decidedOf none X d 0 0 Q 98 (k_X4_decidedOf_98 l X d Q) := by
  unfold k_X4_decidedOf_98
  exact s_iinc dX4_decidedOf_98 (by decide) (by decide) (s_goto dX4_decidedOf_101 (by decide) s_stop)
def k_X4_decidedOf_47 (l : Launch) (X : Nat → aw_Kt) (d : Nat) (Q : Option Value → aw_H → Prop) : aw_Kt := o_il 2 (o_ic 8 (o_i3 (fun x y => y ≤ x) (k_X4_decidedOf_104 l X d Q) (o_al 0 (o_gf 4 6 (o_il 2 (o_ia 1 (o_if (fun x => x = 0) (k_X4_decidedOf_98 l X d Q) (o_al 0 (o_il 2 (o_cv l d m_X4_isBarred 4 1 (o_if (fun x => x = 0) (o_al 0 (o_gf 4 3 (o_ic 8 (o_il 1 (o_ib (fun x y => x * y) (o_il 2 (o_ib (fun x y => x + y) (o_ia 0 (o_if (fun x => x ≤ 0) (k_X4_decidedOf_98 l X d Q) (o_al 0 (o_gf 4 3 (o_ic 8 (o_il 1 (o_ib (fun x y => x * y) (o_il 2 (o_ib (fun x y => x + y) (o_ia 0 (o_ic 1 (o_ib (fun x y => x - y) (o_ri Q)))))))))))))))))))) (k_X4_decidedOf_98 l X d Q))))))))))))
theorem t_X4_decidedOf_47 {l : Launch} {X : Nat → aw_Kt} {d : Nat} {Q : Option Value → aw_H → Prop} : aw_Sn l m_X4_decidedOf none X d 0 0 Q 47 (k_X4_decidedOf_47 l X d Q) := by
  unfold k_X4_decidedOf_47
  exact s_iload_n dX4_decidedOf_47 rfl (s_bipush dX4_decidedOf_48 (by decide) (s_icmp_ge dX4_decidedOf_50 (by decide) t_X4_decidedOf_104 (s_aload_n dX4_decidedOf_53 rfl (s_getf dX4_decidedOf_54 rfl u_X4 (by decide) w_104 (s_iload_n dX4_decidedOf_57 rfl (s_baload dX4_decidedOf_58 (s_if_eq dX4_decidedOf_59 (by decide) t_X4_decidedOf_98 (s_aload_n dX4_decidedOf_62 rfl (s_iload_n dX4_decidedOf_63 rfl (s_cv dX4_decidedOf_64 rfl (by decide) w_107 wi_X4_isBarred ws_X4_isBarred w_96 wc_X4_isBarred wd_X4_isBarred (s_if_ne dX4_decidedOf_67 (by decide) (s_aload_n dX4_decidedOf_70 rfl (s_getf dX4_decidedOf_71 rfl u_X4 (by decide) w_100 (s_bipush dX4_decidedOf_74 (by decide) (s_iload_n dX4_decidedOf_76 rfl (s_imul dX4_decidedOf_77 (s_iload_n dX4_decidedOf_78 rfl (s_iadd dX4_decidedOf_79 (s_iaload dX4_decidedOf_80 (s_if_le dX4_decidedOf_81 (by decide) t_X4_decidedOf_98 (s_aload_n dX4_decidedOf_84 rfl (s_getf dX4_decidedOf_85 rfl u_X4 (by decide) w_100 (s_bipush dX4_decidedOf_88 (by decide) (s_iload_n dX4_decidedOf_90 rfl (s_imul dX4_decidedOf_91 (s_iload_n dX4_decidedOf_92 rfl (s_iadd dX4_decidedOf_93 (s_iaload dX4_decidedOf_94 (s_iconst dX4_decidedOf_95 (by decide) (s_isub dX4_decidedOf_96 (s_iret dX4_decidedOf_97 rfl)))))))))))))))))))) t_X4_decidedOf_98)))))))))))
def k_X4_decidedOf_45 (l : Launch) (X : Nat → aw_Kt) (d : Nat) (Q : Option Value → aw_H → Prop) : aw_Kt := o_ic 0 (o_is 2 (SW l m_X4_decidedOf none X d 0 0 Q 47))
theorem t_X4_decidedOf_45 {l : Launch} {X : Nat → aw_Kt} {d : Nat} {Q : Option Value → aw_H → Prop} : aw_Sn l m_X4_decidedOf none X d 0 0 Q 45 (k_X4_decidedOf_45 l X d Q) := by
  unfold k_X4_decidedOf_45
  exact s_iconst dX4_decidedOf_45 (by decide) (s_istore_n dX4_decidedOf_46 rfl (by decide) s_stop)
def k_X4_decidedOf_17 (l : Launch) (X : Nat → aw_Kt) (d : Nat) (Q : Option Value → aw_H → Prop) : aw_Kt := o_al 0 (o_il 1 (o_cv l d m_X4_weigh 4 1 (o_al 0 (o_gf 4 16 (o_if (fun x => x ≤ 0) (k_X4_decidedOf_45 l X d Q) (o_al 0 (o_gf 4 16 (o_al 0 (o_gf 4 17 (o_i3 (fun x y => x ≤ y) (k_X4_decidedOf_45 l X d Q) (o_al 0 (o_gf 4 18 (o_ri Q)))))))))))))
theorem t_X4_decidedOf_17 {l : Launch} {X : Nat → aw_Kt} {d : Nat} {Q : Option Value → aw_H → Prop} : aw_Sn l m_X4_decidedOf none X d 0 0 Q 17 (k_X4_decidedOf_17 l X d Q) := by
  unfold k_X4_decidedOf_17
  exact s_aload_n dX4_decidedOf_17 rfl (s_iload_n dX4_decidedOf_18 rfl (s_cv dX4_decidedOf_19 rfl (by decide) w_121 wi_X4_weigh ws_X4_weigh w_96 wc_X4_weigh wd_X4_weigh (s_aload_n dX4_decidedOf_22 rfl (s_getf dX4_decidedOf_23 rfl u_X4 (by decide) w_119 (s_if_le dX4_decidedOf_26 (by decide) t_X4_decidedOf_45 (s_aload_n dX4_decidedOf_29 rfl (s_getf dX4_decidedOf_30 rfl u_X4 (by decide) w_119 (s_aload_n dX4_decidedOf_33 rfl (s_getf dX4_decidedOf_34 rfl u_X4 (by decide) w_118 (s_icmp_le dX4_decidedOf_37 (by decide) t_X4_decidedOf_45 (s_aload_n dX4_decidedOf_40 rfl (s_getf dX4_decidedOf_41 rfl u_X4 (by decide) w_120 (s_iret dX4_decidedOf_44 rfl)))))))))))))
def k_X4_decidedOf_0 (l : Launch) (X : Nat → aw_Kt) (d : Nat) (Q : Option Value → aw_H → Prop) : aw_Kt := o_al 0 (o_gf 4 4 (o_il 1 (o_ia 0 (o_ic (-1) (o_i3 (fun x y => x = y) (k_X4_decidedOf_17 l X d Q) (o_al 0 (o_gf 4 4 (o_il 1 (o_ia 0 (o_ri Q))))))))))
theorem t_X4_decidedOf_0 {l : Launch} {X : Nat → aw_Kt} {d : Nat} {Q : Option Value → aw_H → Prop} : aw_Sn l m_X4_decidedOf none X d 0 0 Q 0 (k_X4_decidedOf_0 l X d Q) := by
  unfold k_X4_decidedOf_0
  exact s_aload_n dX4_decidedOf_0 rfl (s_getf dX4_decidedOf_1 rfl u_X4 (by decide) w_99 (s_iload_n dX4_decidedOf_4 rfl (s_iaload dX4_decidedOf_5 (s_iconst dX4_decidedOf_6 (by decide) (s_icmp_eq dX4_decidedOf_7 (by decide) t_X4_decidedOf_17 (s_aload_n dX4_decidedOf_10 rfl (s_getf dX4_decidedOf_11 rfl u_X4 (by decide) w_99 (s_iload_n dX4_decidedOf_14 rfl (s_iaload dX4_decidedOf_15 (s_iret dX4_decidedOf_16 rfl))))))))))
/-! X4_decided -/
def k_X4_decided_18 (l : Launch) (X : Nat → aw_Kt) (d : Nat) (Q : Option Value → aw_H → Prop) : aw_Kt := o_ri Q
theorem t_X4_decided_18 {l : Launch} {X : Nat → aw_Kt} {d : Nat} {Q : Option Value → aw_H → Prop} : aw_Sn l m_X4_decided none X d 0 0 Q 18 (k_X4_decided_18 l X d Q) := by
  unfold k_X4_decided_18
  exact s_iret dX4_decided_18 rfl
def k_X4_decided_16 (l : Launch) (X : Nat → aw_Kt) (d : Nat) (Q : Option Value → aw_H → Prop) : aw_Kt := o_ic (-101) (k_X4_decided_18 l X d Q)
theorem t_X4_decided_16 {l : Launch} {X : Nat → aw_Kt} {d : Nat} {Q : Option Value → aw_H → Prop} : aw_Sn l m_X4_decided none X d 0 0 Q 16 (k_X4_decided_16 l X d Q) := by
  unfold k_X4_decided_16
  exact s_bipush dX4_decided_16 (by decide) t_X4_decided_18
def k_X4_decided_0 (l : Launch) (X : Nat → aw_Kt) (d : Nat) (Q : Option Value → aw_H → Prop) : aw_Kt := o_al 0 (o_il 1 (o_cv l d m_X4_isRow 4 1 (o_if (fun x => x = 0) (k_X4_decided_16 l X d Q) (o_al 0 (o_il 1 (o_cv l d m_X4_decidedOf 4 1 (k_X4_decided_18 l X d Q)))))))
theorem t_X4_decided_0 {l : Launch} {X : Nat → aw_Kt} {d : Nat} {Q : Option Value → aw_H → Prop} : aw_Sn l m_X4_decided none X d 0 0 Q 0 (k_X4_decided_0 l X d Q) := by
  unfold k_X4_decided_0
  exact s_aload_n dX4_decided_0 rfl (s_iload_n dX4_decided_1 rfl (s_cv dX4_decided_2 rfl (by decide) w_101 wi_X4_isRow ws_X4_isRow w_96 wc_X4_isRow wd_X4_isRow (s_if_eq dX4_decided_5 (by decide) t_X4_decided_16 (s_aload_n dX4_decided_8 rfl (s_iload_n dX4_decided_9 rfl (s_cv dX4_decided_10 rfl (by decide) w_122 wi_X4_decidedOf ws_X4_decidedOf w_96 wc_X4_decidedOf wd_X4_decidedOf (s_goto dX4_decided_13 (by decide) t_X4_decided_18)))))))
/-! X4_learn -/
def k_X4_learn_275 (l : Launch) (X : Nat → aw_Kt) (d : Nat) (Q : Option Value → aw_H → Prop) : aw_Kt := o_il 2 (o_ri Q)
theorem t_X4_learn_275 {l : Launch} {X : Nat → aw_Kt} {d : Nat} {Q : Option Value → aw_H → Prop} : aw_Sn l m_X4_learn none X d 0 0 Q 275 (k_X4_learn_275 l X d Q) := by
  unfold k_X4_learn_275
  exact s_iload_n dX4_learn_275 rfl (s_iret dX4_learn_276 rfl)
def k_X4_learn_272 (l : Launch) (X : Nat → aw_Kt) (d : Nat) (Q : Option Value → aw_H → Prop) : aw_Kt := (SW l m_X4_learn none X d 0 0 Q 39)
theorem t_X4_learn_272 {l : Launch} {X : Nat → aw_Kt} {d : Nat} {Q : Option Value → aw_H → Prop} : aw_Sn l m_X4_learn none X d 0 0 Q 272 (k_X4_learn_272 l X d Q) := by
  unfold k_X4_learn_272
  exact s_goto dX4_learn_272 (by decide) s_stop
def k_X4_learn_245 (l : Launch) (X : Nat → aw_Kt) (d : Nat) (Q : Option Value → aw_H → Prop) : aw_Kt := o_il 4 (o_ic 8 (o_i3 (fun x y => y ≤ x) (k_X4_learn_272 l X d Q) (o_al 0 (o_gf 4 7 (o_il 4 (o_al 0 (o_gf 4 8 (o_il 4 (o_ia 0 (o_xa (o_ii 4 1 (SW l m_X4_learn none X d 0 0 Q 245))))))))))))
theorem t_X4_learn_245 {l : Launch} {X : Nat → aw_Kt} {d : Nat} {Q : Option Value → aw_H → Prop} : aw_Sn l m_X4_learn none X d 0 0 Q 245 (k_X4_learn_245 l X d Q) := by
  unfold k_X4_learn_245
  exact s_iload dX4_learn_245 (s_bipush dX4_learn_247 (by decide) (s_icmp_ge dX4_learn_249 (by decide) t_X4_learn_272 (s_aload_n dX4_learn_252 rfl (s_getf dX4_learn_253 rfl u_X4 (by decide) w_108 (s_iload dX4_learn_256 (s_aload_n dX4_learn_258 rfl (s_getf dX4_learn_259 rfl u_X4 (by decide) w_123 (s_iload dX4_learn_262 (s_iaload dX4_learn_264 (s_iastore dX4_learn_265 (s_iinc dX4_learn_266 (by decide) (by decide) (s_goto dX4_learn_269 (by decide) s_stop))))))))))))
def k_X4_learn_242 (l : Launch) (X : Nat → aw_Kt) (d : Nat) (Q : Option Value → aw_H → Prop) : aw_Kt := o_ic 0 (o_is 4 (SW l m_X4_learn none X d 0 0 Q 245))
theorem t_X4_learn_242 {l : Launch} {X : Nat → aw_Kt} {d : Nat} {Q : Option Value → aw_H → Prop} : aw_Sn l m_X4_learn none X d 0 0 Q 242 (k_X4_learn_242 l X d Q) := by
  unfold k_X4_learn_242
  exact s_iconst dX4_learn_242 (by decide) (s_istore dX4_learn_243 (by decide) s_stop)
def k_X4_learn_235 (l : Launch) (X : Nat → aw_Kt) (d : Nat) (Q : Option Value → aw_H → Prop) : aw_Kt := o_is 3 (o_ii 4 1 (SW l m_X4_learn none X d 0 0 Q 87))
theorem t_X4_learn_235 {l : Launch} {X : Nat → aw_Kt} {d : Nat} {Q : Option Value → aw_H → Prop} : aw_Sn l m_X4_learn none X d 0 0 Q 235 (k_X4_learn_235 l X d Q) := by
  unfold k_X4_learn_235
  exact s_istore_n dX4_learn_235 rfl (by decide) (s_iinc dX4_learn_236 (by decide) (by decide) (s_goto dX4_learn_239 (by decide) s_stop))
def k_X4_learn_234 (l : Launch) (X : Nat → aw_Kt) (d : Nat) (Q : Option Value → aw_H → Prop) : aw_Kt := o_ic 0 (k_X4_learn_235 l X d Q)
theorem t_X4_learn_234 {l : Launch} {X : Nat → aw_Kt} {d : Nat} {Q : Option Value → aw_H → Prop} : aw_Sn l m_X4_learn none X d 0 0 Q 234 (k_X4_learn_234 l X d Q) := by
  unfold k_X4_learn_234
  exact s_iconst dX4_learn_234 (by decide) t_X4_learn_235
def k_X4_learn_230 (l : Launch) (X : Nat → aw_Kt) (d : Nat) (Q : Option Value → aw_H → Prop) : aw_Kt := o_ic 1 (k_X4_learn_235 l X d Q)
theorem t_X4_learn_230 {l : Launch} {X : Nat → aw_Kt} {d : Nat} {Q : Option Value → aw_H → Prop} : aw_Sn l m_X4_learn none X d 0 0 Q 230 (k_X4_learn_230 l X d Q) := by
  unfold k_X4_learn_230
  exact s_iconst dX4_learn_230 (by decide) (s_goto dX4_learn_231 (by decide) t_X4_learn_235)
def k_X4_learn_208 (l : Launch) (X : Nat → aw_Kt) (d : Nat) (Q : Option Value → aw_H → Prop) : aw_Kt := o_xa (o_il 3 (o_if (fun x => x = 0) (o_al 0 (o_gf 4 8 (o_il 4 (o_ia 0 (o_al 0 (o_gf 4 7 (o_il 4 (o_ia 0 (o_i3 (fun x y => x = y) (k_X4_learn_234 l X d Q) (k_X4_learn_230 l X d Q)))))))))) (k_X4_learn_230 l X d Q)))
theorem t_X4_learn_208 {l : Launch} {X : Nat → aw_Kt} {d : Nat} {Q : Option Value → aw_H → Prop} : aw_Sn l m_X4_learn none X d 0 0 Q 208 (k_X4_learn_208 l X d Q) := by
  unfold k_X4_learn_208
  exact s_iastore dX4_learn_208 (s_iload_n dX4_learn_209 rfl (s_if_ne dX4_learn_210 (by decide) (s_aload_n dX4_learn_213 rfl (s_getf dX4_learn_214 rfl u_X4 (by decide) w_123 (s_iload dX4_learn_217 (s_iaload dX4_learn_219 (s_aload_n dX4_learn_220 rfl (s_getf dX4_learn_221 rfl u_X4 (by decide) w_108 (s_iload dX4_learn_224 (s_iaload dX4_learn_226 (s_icmp_eq dX4_learn_227 (by decide) t_X4_learn_234 t_X4_learn_230))))))))) t_X4_learn_230))
def k_X4_learn_198 (l : Launch) (X : Nat → aw_Kt) (d : Nat) (Q : Option Value → aw_H → Prop) : aw_Kt := o_ic 1 (o_ic 9 (o_il 6 (o_ib (fun x y => x * y) (o_il 5 (o_dv (o_ib (fun x y => x + y) (k_X4_learn_208 l X d Q)))))))
theorem t_X4_learn_198 {l : Launch} {X : Nat → aw_Kt} {d : Nat} {Q : Option Value → aw_H → Prop} : aw_Sn l m_X4_learn none X d 0 0 Q 198 (k_X4_learn_198 l X d Q) := by
  unfold k_X4_learn_198
  exact s_iconst dX4_learn_198 (by decide) (s_bipush dX4_learn_199 (by decide) (s_iload dX4_learn_201 (s_imul dX4_learn_203 (s_iload dX4_learn_204 (s_idiv dX4_learn_206 (s_iadd dX4_learn_207 t_X4_learn_208))))))
def k_X4_learn_183 (l : Launch) (X : Nat → aw_Kt) (d : Nat) (Q : Option Value → aw_H → Prop) : aw_Kt := o_al 0 (o_gf 4 8 (o_il 4 (o_il 5 (o_if (fun x => x = 0) (o_ic 1 (k_X4_learn_208 l X d Q)) (k_X4_learn_198 l X d Q)))))
theorem t_X4_learn_183 {l : Launch} {X : Nat → aw_Kt} {d : Nat} {Q : Option Value → aw_H → Prop} : aw_Sn l m_X4_learn none X d 0 0 Q 183 (k_X4_learn_183 l X d Q) := by
  unfold k_X4_learn_183
  exact s_aload_n dX4_learn_183 rfl (s_getf dX4_learn_184 rfl u_X4 (by decide) w_123 (s_iload dX4_learn_187 (s_iload dX4_learn_189 (s_if_ne dX4_learn_191 (by decide) (s_iconst dX4_learn_194 (by decide) (s_goto dX4_learn_195 (by decide) t_X4_learn_208)) t_X4_learn_198))))
def k_X4_learn_177 (l : Launch) (X : Nat → aw_Kt) (d : Nat) (Q : Option Value → aw_H → Prop) : aw_Kt := o_ii 7 1 (SW l m_X4_learn none X d 0 0 Q 103)
theorem t_X4_learn_177 {l : Launch} {X : Nat → aw_Kt} {d : Nat} {Q : Option Value → aw_H → Prop} : aw_Sn l m_X4_learn none X d 0 0 Q 177 (k_X4_learn_177 l X d Q) := by
  unfold k_X4_learn_177
  exact s_iinc dX4_learn_177 (by decide) (by decide) (s_goto dX4_learn_180 (by decide) s_stop)
def k_X4_learn_174 (l : Launch) (X : Nat → aw_Kt) (d : Nat) (Q : Option Value → aw_H → Prop) : aw_Kt := o_ib (fun x y => x + y) (o_is 6 (k_X4_learn_177 l X d Q))
theorem t_X4_learn_174 {l : Launch} {X : Nat → aw_Kt} {d : Nat} {Q : Option Value → aw_H → Prop} : aw_Sn l m_X4_learn none X d 0 0 Q 174 (k_X4_learn_174 l X d Q) := by
  unfold k_X4_learn_174
  exact s_iadd dX4_learn_174 (s_istore dX4_learn_175 (by decide) t_X4_learn_177)
def k_X4_learn_173 (l : Launch) (X : Nat → aw_Kt) (d : Nat) (Q : Option Value → aw_H → Prop) : aw_Kt := o_ic 0 (k_X4_learn_174 l X d Q)
theorem t_X4_learn_173 {l : Launch} {X : Nat → aw_Kt} {d : Nat} {Q : Option Value → aw_H → Prop} : aw_Sn l m_X4_learn none X d 0 0 Q 173 (k_X4_learn_173 l X d Q) := by
  unfold k_X4_learn_173
  exact s_iconst dX4_learn_173 (by decide) t_X4_learn_174
def k_X4_learn_103 (l : Launch) (X : Nat → aw_Kt) (d : Nat) (Q : Option Value → aw_H → Prop) : aw_Kt := o_il 7 (o_al 0 (o_gf 4 1 (o_i3 (fun x y => y ≤ x) (k_X4_learn_183 l X d Q) (o_al 0 (o_gf 4 19 (o_il 7 (o_ia 0 (o_ic (-1) (o_i3 (fun x y => x = y) (k_X4_learn_177 l X d Q) (o_al 0 (o_gf 4 3 (o_ic 8 (o_il 7 (o_ib (fun x y => x * y) (o_il 4 (o_ib (fun x y => x + y) (o_ia 0 (o_if (fun x => x ≤ 0) (k_X4_learn_177 l X d Q) (o_ii 5 1 (o_il 6 (o_al 0 (o_gf 4 3 (o_ic 8 (o_il 7 (o_ib (fun x y => x * y) (o_il 4 (o_ib (fun x y => x + y) (o_ia 0 (o_ic 1 (o_ib (fun x y => x - y) (o_al 0 (o_gf 4 19 (o_il 7 (o_ia 0 (o_i3 (fun x y => x = y) (o_ic 1 (k_X4_learn_174 l X d Q)) (k_X4_learn_173 l X d Q))))))))))))))))))))))))))))))))))))
theorem t_X4_learn_103 {l : Launch} {X : Nat → aw_Kt} {d : Nat} {Q : Option Value → aw_H → Prop} : aw_Sn l m_X4_learn none X d 0 0 Q 103 (k_X4_learn_103 l X d Q) := by
  unfold k_X4_learn_103
  exact s_iload dX4_learn_103 (s_aload_n dX4_learn_105 rfl (s_getf dX4_learn_106 rfl u_X4 (by decide) w_95 (s_icmp_ge dX4_learn_109 (by decide) t_X4_learn_183 (s_aload_n dX4_learn_112 rfl (s_getf dX4_learn_113 rfl u_X4 (by decide) w_124 (s_iload dX4_learn_116 (s_iaload dX4_learn_118 (s_iconst dX4_learn_119 (by decide) (s_icmp_eq dX4_learn_120 (by decide) t_X4_learn_177 (s_aload_n dX4_learn_123 rfl (s_getf dX4_learn_124 rfl u_X4 (by decide) w_100 (s_bipush dX4_learn_127 (by decide) (s_iload dX4_learn_129 (s_imul dX4_learn_131 (s_iload dX4_learn_132 (s_iadd dX4_learn_134 (s_iaload dX4_learn_135 (s_if_le dX4_learn_136 (by decide) t_X4_learn_177 (s_iinc dX4_learn_139 (by decide) (by decide) (s_iload dX4_learn_142 (s_aload_n dX4_learn_144 rfl (s_getf dX4_learn_145 rfl u_X4 (by decide) w_100 (s_bipush dX4_learn_148 (by decide) (s_iload dX4_learn_150 (s_imul dX4_learn_152 (s_iload dX4_learn_153 (s_iadd dX4_learn_155 (s_iaload dX4_learn_156 (s_iconst dX4_learn_157 (by decide) (s_isub dX4_learn_158 (s_aload_n dX4_learn_159 rfl (s_getf dX4_learn_160 rfl u_X4 (by decide) w_124 (s_iload dX4_learn_163 (s_iaload dX4_learn_165 (s_icmp_ne dX4_learn_166 (by decide) (s_iconst dX4_learn_169 (by decide) (s_goto dX4_learn_170 (by decide) t_X4_learn_174)) t_X4_learn_173)))))))))))))))))))))))))))))))))))
def k_X4_learn_87 (l : Launch) (X : Nat → aw_Kt) (d : Nat) (Q : Option Value → aw_H → Prop) : aw_Kt := o_il 4 (o_ic 8 (o_i3 (fun x y => y ≤ x) (k_X4_learn_242 l X d Q) (o_ic 0 (o_is 5 (o_ic 0 (o_is 6 (o_ic 0 (o_is 7 (SW l m_X4_learn none X d 0 0 Q 103)))))))))
theorem t_X4_learn_87 {l : Launch} {X : Nat → aw_Kt} {d : Nat} {Q : Option Value → aw_H → Prop} : aw_Sn l m_X4_learn none X d 0 0 Q 87 (k_X4_learn_87 l X d Q) := by
  unfold k_X4_learn_87
  exact s_iload dX4_learn_87 (s_bipush dX4_learn_89 (by decide) (s_icmp_ge dX4_learn_91 (by decide) t_X4_learn_242 (s_iconst dX4_learn_94 (by decide) (s_istore dX4_learn_95 (by decide) (s_iconst dX4_learn_97 (by decide) (s_istore dX4_learn_98 (by decide) (s_iconst dX4_learn_100 (by decide) (s_istore dX4_learn_101 (by decide) s_stop))))))))
def k_X4_learn_82 (l : Launch) (X : Nat → aw_Kt) (d : Nat) (Q : Option Value → aw_H → Prop) : aw_Kt := o_ic 0 (o_is 3 (o_ic 0 (o_is 4 (SW l m_X4_learn none X d 0 0 Q 87))))
theorem t_X4_learn_82 {l : Launch} {X : Nat → aw_Kt} {d : Nat} {Q : Option Value → aw_H → Prop} : aw_Sn l m_X4_learn none X d 0 0 Q 82 (k_X4_learn_82 l X d Q) := by
  unfold k_X4_learn_82
  exact s_iconst dX4_learn_82 (by decide) (s_istore_n dX4_learn_83 rfl (by decide) (s_iconst dX4_learn_84 (by decide) (s_istore dX4_learn_85 (by decide) s_stop)))
def k_X4_learn_54 (l : Launch) (X : Nat → aw_Kt) (d : Nat) (Q : Option Value → aw_H → Prop) : aw_Kt := o_il 4 (o_al 0 (o_gf 4 1 (o_i3 (fun x y => y ≤ x) (k_X4_learn_82 l X d Q) (o_al 0 (o_gf 4 19 (o_il 4 (o_al 0 (o_il 4 (o_cv l d m_X4_decidedOf 4 1 (o_xa (o_ii 4 1 (SW l m_X4_learn none X d 0 0 Q 54))))))))))))
theorem t_X4_learn_54 {l : Launch} {X : Nat → aw_Kt} {d : Nat} {Q : Option Value → aw_H → Prop} : aw_Sn l m_X4_learn none X d 0 0 Q 54 (k_X4_learn_54 l X d Q) := by
  unfold k_X4_learn_54
  exact s_iload dX4_learn_54 (s_aload_n dX4_learn_56 rfl (s_getf dX4_learn_57 rfl u_X4 (by decide) w_95 (s_icmp_ge dX4_learn_60 (by decide) t_X4_learn_82 (s_aload_n dX4_learn_63 rfl (s_getf dX4_learn_64 rfl u_X4 (by decide) w_124 (s_iload dX4_learn_67 (s_aload_n dX4_learn_69 rfl (s_iload dX4_learn_70 (s_cv dX4_learn_72 rfl (by decide) w_122 wi_X4_decidedOf ws_X4_decidedOf w_96 wc_X4_decidedOf wd_X4_decidedOf (s_iastore dX4_learn_75 (s_iinc dX4_learn_76 (by decide) (by decide) (s_goto dX4_learn_79 (by decide) s_stop))))))))))))
def k_X4_learn_39 (l : Launch) (X : Nat → aw_Kt) (d : Nat) (Q : Option Value → aw_H → Prop) : aw_Kt := o_il 2 (o_il 1 (o_i3 (fun x y => y ≤ x) (k_X4_learn_275 l X d Q) (o_il 3 (o_if (fun x => x = 0) (k_X4_learn_275 l X d Q) (o_ii 2 1 (o_ic 0 (o_is 4 (SW l m_X4_learn none X d 0 0 Q 54))))))))
theorem t_X4_learn_39 {l : Launch} {X : Nat → aw_Kt} {d : Nat} {Q : Option Value → aw_H → Prop} : aw_Sn l m_X4_learn none X d 0 0 Q 39 (k_X4_learn_39 l X d Q) := by
  unfold k_X4_learn_39
  exact s_iload_n dX4_learn_39 rfl (s_iload_n dX4_learn_40 rfl (s_icmp_ge dX4_learn_41 (by decide) t_X4_learn_275 (s_iload_n dX4_learn_44 rfl (s_if_eq dX4_learn_45 (by decide) t_X4_learn_275 (s_iinc dX4_learn_48 (by decide) (by decide) (s_iconst dX4_learn_51 (by decide) (s_istore dX4_learn_52 (by decide) s_stop)))))))
def k_X4_learn_35 (l : Launch) (X : Nat → aw_Kt) (d : Nat) (Q : Option Value → aw_H → Prop) : aw_Kt := o_ic 0 (o_is 2 (o_ic 1 (o_is 3 (SW l m_X4_learn none X d 0 0 Q 39))))
theorem t_X4_learn_35 {l : Launch} {X : Nat → aw_Kt} {d : Nat} {Q : Option Value → aw_H → Prop} : aw_Sn l m_X4_learn none X d 0 0 Q 35 (k_X4_learn_35 l X d Q) := by
  unfold k_X4_learn_35
  exact s_iconst dX4_learn_35 (by decide) (s_istore_n dX4_learn_36 rfl (by decide) (s_iconst dX4_learn_37 (by decide) (s_istore_n dX4_learn_38 rfl (by decide) s_stop)))
def k_X4_learn_15 (l : Launch) (X : Nat → aw_Kt) (d : Nat) (Q : Option Value → aw_H → Prop) : aw_Kt := o_il 2 (o_ic 8 (o_i3 (fun x y => y ≤ x) (k_X4_learn_35 l X d Q) (o_al 0 (o_gf 4 7 (o_il 2 (o_ic 10 (o_xa (o_ii 2 1 (SW l m_X4_learn none X d 0 0 Q 15)))))))))
theorem t_X4_learn_15 {l : Launch} {X : Nat → aw_Kt} {d : Nat} {Q : Option Value → aw_H → Prop} : aw_Sn l m_X4_learn none X d 0 0 Q 15 (k_X4_learn_15 l X d Q) := by
  unfold k_X4_learn_15
  exact s_iload_n dX4_learn_15 rfl (s_bipush dX4_learn_16 (by decide) (s_icmp_ge dX4_learn_18 (by decide) t_X4_learn_35 (s_aload_n dX4_learn_21 rfl (s_getf dX4_learn_22 rfl u_X4 (by decide) w_108 (s_iload_n dX4_learn_25 rfl (s_bipush dX4_learn_26 (by decide) (s_iastore dX4_learn_28 (s_iinc dX4_learn_29 (by decide) (by decide) (s_goto dX4_learn_32 (by decide) s_stop)))))))))
def k_X4_learn_13 (l : Launch) (X : Nat → aw_Kt) (d : Nat) (Q : Option Value → aw_H → Prop) : aw_Kt := o_ic 0 (o_is 2 (SW l m_X4_learn none X d 0 0 Q 15))
theorem t_X4_learn_13 {l : Launch} {X : Nat → aw_Kt} {d : Nat} {Q : Option Value → aw_H → Prop} : aw_Sn l m_X4_learn none X d 0 0 Q 13 (k_X4_learn_13 l X d Q) := by
  unfold k_X4_learn_13
  exact s_iconst dX4_learn_13 (by decide) (s_istore_n dX4_learn_14 rfl (by decide) s_stop)
def k_X4_learn_0 (l : Launch) (X : Nat → aw_Kt) (d : Nat) (Q : Option Value → aw_H → Prop) : aw_Kt := o_il 1 (o_ic 1 (o_ic 20 (o_cs l d m_X4_in 3 (o_if (fun x => x = 0) (o_ic (-102) (o_ri Q)) (k_X4_learn_13 l X d Q)))))
theorem t_X4_learn_0 {l : Launch} {X : Nat → aw_Kt} {d : Nat} {Q : Option Value → aw_H → Prop} : aw_Sn l m_X4_learn none X d 0 0 Q 0 (k_X4_learn_0 l X d Q) := by
  unfold k_X4_learn_0
  exact s_iload_n dX4_learn_0 rfl (s_iconst dX4_learn_1 (by decide) (s_bipush dX4_learn_2 (by decide) (s_cs dX4_learn_4 (by decide) w_97 wt_X4_in w_96 wc_X4_in wd_X4_in (s_if_ne dX4_learn_7 (by decide) (s_bipush dX4_learn_10 (by decide) (s_iret dX4_learn_12 rfl)) t_X4_learn_13))))
/-! X4_cut -/
def k_X4_cut_98 (l : Launch) (X : Nat → aw_Kt) (d : Nat) (Q : Option Value → aw_H → Prop) : aw_Kt := o_rl Q
theorem t_X4_cut_98 {l : Launch} {X : Nat → aw_Kt} {d : Nat} {Q : Option Value → aw_H → Prop} : aw_Sn l m_X4_cut none X d 0 0 Q 98 (k_X4_cut_98 l X d Q) := by
  unfold k_X4_cut_98
  exact s_lret dX4_cut_98 rfl
def k_X4_cut_94 (l : Launch) (X : Nat → aw_Kt) (d : Nat) (Q : Option Value → aw_H → Prop) : aw_Kt := o_ll 3 (o_ll 10 (o_ld (k_X4_cut_98 l X d Q)))
theorem t_X4_cut_94 {l : Launch} {X : Nat → aw_Kt} {d : Nat} {Q : Option Value → aw_H → Prop} : aw_Sn l m_X4_cut none X d 0 0 Q 94 (k_X4_cut_94 l X d Q) := by
  unfold k_X4_cut_94
  exact s_lload_n dX4_cut_94 rfl (s_lload dX4_cut_95 (s_ldiv dX4_cut_97 t_X4_cut_98))
def k_X4_cut_80 (l : Launch) (X : Nat → aw_Kt) (d : Nat) (Q : Option Value → aw_H → Prop) : aw_Kt := o_ls 10 (o_il 5 (o_if (fun x => x = 0) (o_ll 1 (o_ll 10 (o_ld (k_X4_cut_98 l X d Q)))) (k_X4_cut_94 l X d Q)))
theorem t_X4_cut_80 {l : Launch} {X : Nat → aw_Kt} {d : Nat} {Q : Option Value → aw_H → Prop} : aw_Sn l m_X4_cut none X d 0 0 Q 80 (k_X4_cut_80 l X d Q) := by
  unfold k_X4_cut_80
  exact s_lstore dX4_cut_80 (by decide) (s_iload dX4_cut_82 (s_if_ne dX4_cut_84 (by decide) (s_lload_n dX4_cut_87 rfl (s_lload dX4_cut_88 (s_ldiv dX4_cut_90 (s_goto dX4_cut_91 (by decide) t_X4_cut_98)))) t_X4_cut_94))
def k_X4_cut_78 (l : Launch) (X : Nat → aw_Kt) (d : Nat) (Q : Option Value → aw_H → Prop) : aw_Kt := o_ll 6 (k_X4_cut_80 l X d Q)
theorem t_X4_cut_78 {l : Launch} {X : Nat → aw_Kt} {d : Nat} {Q : Option Value → aw_H → Prop} : aw_Sn l m_X4_cut none X d 0 0 Q 78 (k_X4_cut_78 l X d Q) := by
  unfold k_X4_cut_78
  exact s_lload dX4_cut_78 t_X4_cut_80
def k_X4_cut_66 (l : Launch) (X : Nat → aw_Kt) (d : Nat) (Q : Option Value → aw_H → Prop) : aw_Kt := o_ll 3 (o_lc 0 (o_cm (o_if (fun x => 0 ≤ x) (k_X4_cut_78 l X d Q) (o_ll 6 (o_ln (k_X4_cut_80 l X d Q))))))
theorem t_X4_cut_66 {l : Launch} {X : Nat → aw_Kt} {d : Nat} {Q : Option Value → aw_H → Prop} : aw_Sn l m_X4_cut none X d 0 0 Q 66 (k_X4_cut_66 l X d Q) := by
  unfold k_X4_cut_66
  exact s_lload_n dX4_cut_66 rfl (s_lconst dX4_cut_67 (by decide) (s_lcmp dX4_cut_68 (s_if_ge dX4_cut_69 (by decide) t_X4_cut_78 (s_lload dX4_cut_72 (s_lneg dX4_cut_74 (s_goto dX4_cut_75 (by decide) t_X4_cut_80))))))
def k_X4_cut_41 (l : Launch) (X : Nat → aw_Kt) (d : Nat) (Q : Option Value → aw_H → Prop) : aw_Kt := o_ll 8 (o_lc 0 (o_cm (o_if (fun x => x = 0) (k_X4_cut_66 l X d Q) (o_ll 6 (o_ll 8 (o_lr (o_ls 10 (o_ll 8 (o_ls 6 (o_ll 10 (o_ls 8 (SW l m_X4_cut none X d 0 0 Q 41))))))))))))
theorem t_X4_cut_41 {l : Launch} {X : Nat → aw_Kt} {d : Nat} {Q : Option Value → aw_H → Prop} : aw_Sn l m_X4_cut none X d 0 0 Q 41 (k_X4_cut_41 l X d Q) := by
  unfold k_X4_cut_41
  exact s_lload dX4_cut_41 (s_lconst dX4_cut_43 (by decide) (s_lcmp dX4_cut_44 (s_if_eq dX4_cut_45 (by decide) t_X4_cut_66 (s_lload dX4_cut_48 (s_lload dX4_cut_50 (s_lrem dX4_cut_52 (s_lstore dX4_cut_53 (by decide) (s_lload dX4_cut_55 (s_lstore dX4_cut_57 (by decide) (s_lload dX4_cut_59 (s_lstore dX4_cut_61 (by decide) (s_goto dX4_cut_63 (by decide) s_stop))))))))))))
def k_X4_cut_39 (l : Launch) (X : Nat → aw_Kt) (d : Nat) (Q : Option Value → aw_H → Prop) : aw_Kt := o_ls 8 (SW l m_X4_cut none X d 0 0 Q 41)
theorem t_X4_cut_39 {l : Launch} {X : Nat → aw_Kt} {d : Nat} {Q : Option Value → aw_H → Prop} : aw_Sn l m_X4_cut none X d 0 0 Q 39 (k_X4_cut_39 l X d Q) := by
  unfold k_X4_cut_39
  exact s_lstore dX4_cut_39 (by decide) s_stop
def k_X4_cut_38 (l : Launch) (X : Nat → aw_Kt) (d : Nat) (Q : Option Value → aw_H → Prop) : aw_Kt := o_ll 3 (k_X4_cut_39 l X d Q)
theorem t_X4_cut_38 {l : Launch} {X : Nat → aw_Kt} {d : Nat} {Q : Option Value → aw_H → Prop} : aw_Sn l m_X4_cut none X d 0 0 Q 38 (k_X4_cut_38 l X d Q) := by
  unfold k_X4_cut_38
  exact s_lload_n dX4_cut_38 rfl t_X4_cut_39
def k_X4_cut_25 (l : Launch) (X : Nat → aw_Kt) (d : Nat) (Q : Option Value → aw_H → Prop) : aw_Kt := o_ls 6 (o_ll 3 (o_lc 0 (o_cm (o_if (fun x => 0 ≤ x) (k_X4_cut_38 l X d Q) (o_ll 3 (o_ln (k_X4_cut_39 l X d Q)))))))
theorem t_X4_cut_25 {l : Launch} {X : Nat → aw_Kt} {d : Nat} {Q : Option Value → aw_H → Prop} : aw_Sn l m_X4_cut none X d 0 0 Q 25 (k_X4_cut_25 l X d Q) := by
  unfold k_X4_cut_25
  exact s_lstore dX4_cut_25 (by decide) (s_lload_n dX4_cut_27 rfl (s_lconst dX4_cut_28 (by decide) (s_lcmp dX4_cut_29 (s_if_ge dX4_cut_30 (by decide) t_X4_cut_38 (s_lload_n dX4_cut_33 rfl (s_lneg dX4_cut_34 (s_goto dX4_cut_35 (by decide) t_X4_cut_39)))))))
def k_X4_cut_24 (l : Launch) (X : Nat → aw_Kt) (d : Nat) (Q : Option Value → aw_H → Prop) : aw_Kt := o_ll 1 (k_X4_cut_25 l X d Q)
theorem t_X4_cut_24 {l : Launch} {X : Nat → aw_Kt} {d : Nat} {Q : Option Value → aw_H → Prop} : aw_Sn l m_X4_cut none X d 0 0 Q 24 (k_X4_cut_24 l X d Q) := by
  unfold k_X4_cut_24
  exact s_lload_n dX4_cut_24 rfl t_X4_cut_25
def k_X4_cut_13 (l : Launch) (X : Nat → aw_Kt) (d : Nat) (Q : Option Value → aw_H → Prop) : aw_Kt := o_ll 1 (o_lc 0 (o_cm (o_if (fun x => 0 ≤ x) (k_X4_cut_24 l X d Q) (o_ll 1 (o_ln (k_X4_cut_25 l X d Q))))))
theorem t_X4_cut_13 {l : Launch} {X : Nat → aw_Kt} {d : Nat} {Q : Option Value → aw_H → Prop} : aw_Sn l m_X4_cut none X d 0 0 Q 13 (k_X4_cut_13 l X d Q) := by
  unfold k_X4_cut_13
  exact s_lload_n dX4_cut_13 rfl (s_lconst dX4_cut_14 (by decide) (s_lcmp dX4_cut_15 (s_if_ge dX4_cut_16 (by decide) t_X4_cut_24 (s_lload_n dX4_cut_19 rfl (s_lneg dX4_cut_20 (s_goto dX4_cut_21 (by decide) t_X4_cut_25))))))
def k_X4_cut_0 (l : Launch) (X : Nat → aw_Kt) (d : Nat) (Q : Option Value → aw_H → Prop) : aw_Kt := o_ll 3 (o_lc 0 (o_cm (o_if (fun x => x = 0) (o_al 0 (o_ic 2 (o_pi 4 0 (o_lc 0 (o_rl Q))))) (k_X4_cut_13 l X d Q))))
theorem t_X4_cut_0 {l : Launch} {X : Nat → aw_Kt} {d : Nat} {Q : Option Value → aw_H → Prop} : aw_Sn l m_X4_cut none X d 0 0 Q 0 (k_X4_cut_0 l X d Q) := by
  unfold k_X4_cut_0
  exact s_lload_n dX4_cut_0 rfl (s_lconst dX4_cut_1 (by decide) (s_lcmp dX4_cut_2 (s_if_ne dX4_cut_3 (by decide) (s_aload_n dX4_cut_6 rfl (s_iconst dX4_cut_7 (by decide) (s_puti dX4_cut_8 rfl u_X4 tyX4_ok nmX4 (by decide) rfl (by decide +kernel) w_94 (s_lconst dX4_cut_11 (by decide) (s_lret dX4_cut_12 rfl))))) t_X4_cut_13)))
/-! X4_agree -/
def k_X4_agree_252 (l : Launch) (X : Nat → aw_Kt) (d : Nat) (Q : Option Value → aw_H → Prop) : aw_Kt := o_rl Q
theorem t_X4_agree_252 {l : Launch} {X : Nat → aw_Kt} {d : Nat} {Q : Option Value → aw_H → Prop} : aw_Sn l m_X4_agree none X d 0 0 Q 252 (k_X4_agree_252 l X d Q) := by
  unfold k_X4_agree_252
  exact s_lret dX4_agree_252 rfl
def k_X4_agree_231 (l : Launch) (X : Nat → aw_Kt) (d : Nat) (Q : Option Value → aw_H → Prop) : aw_Kt := o_al 0 (o_ll 4 (o_ll 6 (o_lb (fun x y => x * y) (o_ll 8 (o_lb (fun x y => x - y) (o_ll 4 (o_ll 4 (o_lb (fun x y => x * y) (o_ll 8 (o_lb (fun x y => x - y) (o_il 3 (o_cv l d m_X4_cut 4 3 (k_X4_agree_252 l X d Q)))))))))))))
theorem t_X4_agree_231 {l : Launch} {X : Nat → aw_Kt} {d : Nat} {Q : Option Value → aw_H → Prop} : aw_Sn l m_X4_agree none X d 0 0 Q 231 (k_X4_agree_231 l X d Q) := by
  unfold k_X4_agree_231
  exact s_aload_n dX4_agree_231 rfl (s_lload dX4_agree_232 (s_lload dX4_agree_234 (s_lmul dX4_agree_236 (s_lload dX4_agree_237 (s_lsub dX4_agree_239 (s_lload dX4_agree_240 (s_lload dX4_agree_242 (s_lmul dX4_agree_244 (s_lload dX4_agree_245 (s_lsub dX4_agree_247 (s_iload_n dX4_agree_248 rfl (s_cv dX4_agree_249 rfl (by decide) w_125 wi_X4_cut ws_X4_cut w_96 wc_X4_cut wd_X4_cut t_X4_agree_252))))))))))))
def k_X4_agree_221 (l : Launch) (X : Nat → aw_Kt) (d : Nat) (Q : Option Value → aw_H → Prop) : aw_Kt := o_il 3 (o_ic 3 (o_i3 (fun x y => x = y) (o_ll 6 (k_X4_agree_252 l X d Q)) (k_X4_agree_231 l X d Q)))
theorem t_X4_agree_221 {l : Launch} {X : Nat → aw_Kt} {d : Nat} {Q : Option Value → aw_H → Prop} : aw_Sn l m_X4_agree none X d 0 0 Q 221 (k_X4_agree_221 l X d Q) := by
  unfold k_X4_agree_221
  exact s_iload_n dX4_agree_221 rfl (s_iconst dX4_agree_222 (by decide) (s_icmp_ne dX4_agree_223 (by decide) (s_lload dX4_agree_226 (s_goto dX4_agree_228 (by decide) t_X4_agree_252)) t_X4_agree_231))
def k_X4_agree_211 (l : Launch) (X : Nat → aw_Kt) (d : Nat) (Q : Option Value → aw_H → Prop) : aw_Kt := o_il 3 (o_ic 2 (o_i3 (fun x y => x = y) (o_ll 4 (k_X4_agree_252 l X d Q)) (k_X4_agree_221 l X d Q)))
theorem t_X4_agree_211 {l : Launch} {X : Nat → aw_Kt} {d : Nat} {Q : Option Value → aw_H → Prop} : aw_Sn l m_X4_agree none X d 0 0 Q 211 (k_X4_agree_211 l X d Q) := by
  unfold k_X4_agree_211
  exact s_iload_n dX4_agree_211 rfl (s_iconst dX4_agree_212 (by decide) (s_icmp_ne dX4_agree_213 (by decide) (s_lload dX4_agree_216 (s_goto dX4_agree_218 (by decide) t_X4_agree_252)) t_X4_agree_221))
def k_X4_agree_188 (l : Launch) (X : Nat → aw_Kt) (d : Nat) (Q : Option Value → aw_H → Prop) : aw_Kt := o_ll 4 (o_ll 11 (o_lb (fun x y => x + y) (o_ls 4 (o_ll 8 (o_ll 11 (o_ll 13 (o_lb (fun x y => x * y) (o_lb (fun x y => x + y) (o_ls 8 (o_ii 10 1 (SW l m_X4_agree none X d 0 0 Q 58)))))))))))
theorem t_X4_agree_188 {l : Launch} {X : Nat → aw_Kt} {d : Nat} {Q : Option Value → aw_H → Prop} : aw_Sn l m_X4_agree none X d 0 0 Q 188 (k_X4_agree_188 l X d Q) := by
  unfold k_X4_agree_188
  exact s_lload dX4_agree_188 (s_lload dX4_agree_190 (s_ladd dX4_agree_192 (s_lstore dX4_agree_193 (by decide) (s_lload dX4_agree_195 (s_lload dX4_agree_197 (s_lload dX4_agree_199 (s_lmul dX4_agree_201 (s_ladd dX4_agree_202 (s_lstore dX4_agree_203 (by decide) (s_iinc dX4_agree_205 (by decide) (by decide) (s_goto dX4_agree_208 (by decide) s_stop)))))))))))
def k_X4_agree_182 (l : Launch) (X : Nat → aw_Kt) (d : Nat) (Q : Option Value → aw_H → Prop) : aw_Kt := o_ii 15 1 (SW l m_X4_agree none X d 0 0 Q 73)
theorem t_X4_agree_182 {l : Launch} {X : Nat → aw_Kt} {d : Nat} {Q : Option Value → aw_H → Prop} : aw_Sn l m_X4_agree none X d 0 0 Q 182 (k_X4_agree_182 l X d Q) := by
  unfold k_X4_agree_182
  exact s_iinc dX4_agree_182 (by decide) (by decide) (s_goto dX4_agree_185 (by decide) s_stop)
def k_X4_agree_179 (l : Launch) (X : Nat → aw_Kt) (d : Nat) (Q : Option Value → aw_H → Prop) : aw_Kt := o_lb (fun x y => x + y) (o_ls 6 (k_X4_agree_182 l X d Q))
theorem t_X4_agree_179 {l : Launch} {X : Nat → aw_Kt} {d : Nat} {Q : Option Value → aw_H → Prop} : aw_Sn l m_X4_agree none X d 0 0 Q 179 (k_X4_agree_179 l X d Q) := by
  unfold k_X4_agree_179
  exact s_ladd dX4_agree_179 (s_lstore dX4_agree_180 (by decide) t_X4_agree_182)
def k_X4_agree_178 (l : Launch) (X : Nat → aw_Kt) (d : Nat) (Q : Option Value → aw_H → Prop) : aw_Kt := o_lc 0 (k_X4_agree_179 l X d Q)
theorem t_X4_agree_178 {l : Launch} {X : Nat → aw_Kt} {d : Nat} {Q : Option Value → aw_H → Prop} : aw_Sn l m_X4_agree none X d 0 0 Q 178 (k_X4_agree_178 l X d Q) := by
  unfold k_X4_agree_178
  exact s_lconst dX4_agree_178 (by decide) t_X4_agree_179
def k_X4_agree_155 (l : Launch) (X : Nat → aw_Kt) (d : Nat) (Q : Option Value → aw_H → Prop) : aw_Kt := o_lb (fun x y => x + y) (o_ls 13 (o_ll 6 (o_il 16 (o_il 10 (o_i3 (fun x y => x = y) (o_il 17 (o_il 10 (o_i3 (fun x y => x = y) (o_lc 1 (k_X4_agree_179 l X d Q)) (k_X4_agree_178 l X d Q)))) (k_X4_agree_178 l X d Q))))))
theorem t_X4_agree_155 {l : Launch} {X : Nat → aw_Kt} {d : Nat} {Q : Option Value → aw_H → Prop} : aw_Sn l m_X4_agree none X d 0 0 Q 155 (k_X4_agree_155 l X d Q) := by
  unfold k_X4_agree_155
  exact s_ladd dX4_agree_155 (s_lstore dX4_agree_156 (by decide) (s_lload dX4_agree_158 (s_iload dX4_agree_160 (s_iload dX4_agree_162 (s_icmp_ne dX4_agree_164 (by decide) (s_iload dX4_agree_167 (s_iload dX4_agree_169 (s_icmp_ne dX4_agree_171 (by decide) (s_lconst dX4_agree_174 (by decide) (s_goto dX4_agree_175 (by decide) t_X4_agree_179)) t_X4_agree_178))) t_X4_agree_178)))))
def k_X4_agree_154 (l : Launch) (X : Nat → aw_Kt) (d : Nat) (Q : Option Value → aw_H → Prop) : aw_Kt := o_lc 0 (k_X4_agree_155 l X d Q)
theorem t_X4_agree_154 {l : Launch} {X : Nat → aw_Kt} {d : Nat} {Q : Option Value → aw_H → Prop} : aw_Sn l m_X4_agree none X d 0 0 Q 154 (k_X4_agree_154 l X d Q) := by
  unfold k_X4_agree_154
  exact s_lconst dX4_agree_154 (by decide) t_X4_agree_155
def k_X4_agree_138 (l : Launch) (X : Nat → aw_Kt) (d : Nat) (Q : Option Value → aw_H → Prop) : aw_Kt := o_lb (fun x y => x + y) (o_ls 11 (o_ll 13 (o_il 17 (o_il 10 (o_i3 (fun x y => x = y) (o_lc 1 (k_X4_agree_155 l X d Q)) (k_X4_agree_154 l X d Q))))))
theorem t_X4_agree_138 {l : Launch} {X : Nat → aw_Kt} {d : Nat} {Q : Option Value → aw_H → Prop} : aw_Sn l m_X4_agree none X d 0 0 Q 138 (k_X4_agree_138 l X d Q) := by
  unfold k_X4_agree_138
  exact s_ladd dX4_agree_138 (s_lstore dX4_agree_139 (by decide) (s_lload dX4_agree_141 (s_iload dX4_agree_143 (s_iload dX4_agree_145 (s_icmp_ne dX4_agree_147 (by decide) (s_lconst dX4_agree_150 (by decide) (s_goto dX4_agree_151 (by decide) t_X4_agree_155)) t_X4_agree_154)))))
def k_X4_agree_137 (l : Launch) (X : Nat → aw_Kt) (d : Nat) (Q : Option Value → aw_H → Prop) : aw_Kt := o_lc 0 (k_X4_agree_138 l X d Q)
theorem t_X4_agree_137 {l : Launch} {X : Nat → aw_Kt} {d : Nat} {Q : Option Value → aw_H → Prop} : aw_Sn l m_X4_agree none X d 0 0 Q 137 (k_X4_agree_137 l X d Q) := by
  unfold k_X4_agree_137
  exact s_lconst dX4_agree_137 (by decide) t_X4_agree_138
def k_X4_agree_73 (l : Launch) (X : Nat → aw_Kt) (d : Nat) (Q : Option Value → aw_H → Prop) : aw_Kt := o_il 15 (o_al 0 (o_gf 4 1 (o_i3 (fun x y => y ≤ x) (k_X4_agree_188 l X d Q) (o_al 0 (o_gf 4 3 (o_ic 8 (o_il 15 (o_ib (fun x y => x * y) (o_il 1 (o_ib (fun x y => x + y) (o_ia 0 (o_ic 1 (o_ib (fun x y => x - y) (o_is 16 (o_al 0 (o_gf 4 3 (o_ic 8 (o_il 15 (o_ib (fun x y => x * y) (o_il 2 (o_ib (fun x y => x + y) (o_ia 0 (o_ic 1 (o_ib (fun x y => x - y) (o_is 17 (o_il 16 (o_if (fun x => x < 0) (k_X4_agree_182 l X d Q) (o_il 17 (o_if (fun x => x < 0) (k_X4_agree_182 l X d Q) (o_ll 11 (o_il 16 (o_il 10 (o_i3 (fun x y => x = y) (o_lc 1 (k_X4_agree_138 l X d Q)) (k_X4_agree_137 l X d Q))))))))))))))))))))))))))))))))))
theorem t_X4_agree_73 {l : Launch} {X : Nat → aw_Kt} {d : Nat} {Q : Option Value → aw_H → Prop} : aw_Sn l m_X4_agree none X d 0 0 Q 73 (k_X4_agree_73 l X d Q) := by
  unfold k_X4_agree_73
  exact s_iload dX4_agree_73 (s_aload_n dX4_agree_75 rfl (s_getf dX4_agree_76 rfl u_X4 (by decide) w_95 (s_icmp_ge dX4_agree_79 (by decide) t_X4_agree_188 (s_aload_n dX4_agree_82 rfl (s_getf dX4_agree_83 rfl u_X4 (by decide) w_100 (s_bipush dX4_agree_86 (by decide) (s_iload dX4_agree_88 (s_imul dX4_agree_90 (s_iload_n dX4_agree_91 rfl (s_iadd dX4_agree_92 (s_iaload dX4_agree_93 (s_iconst dX4_agree_94 (by decide) (s_isub dX4_agree_95 (s_istore dX4_agree_96 (by decide) (s_aload_n dX4_agree_98 rfl (s_getf dX4_agree_99 rfl u_X4 (by decide) w_100 (s_bipush dX4_agree_102 (by decide) (s_iload dX4_agree_104 (s_imul dX4_agree_106 (s_iload_n dX4_agree_107 rfl (s_iadd dX4_agree_108 (s_iaload dX4_agree_109 (s_iconst dX4_agree_110 (by decide) (s_isub dX4_agree_111 (s_istore dX4_agree_112 (by decide) (s_iload dX4_agree_114 (s_if_lt dX4_agree_116 (by decide) t_X4_agree_182 (s_iload dX4_agree_119 (s_if_lt dX4_agree_121 (by decide) t_X4_agree_182 (s_lload dX4_agree_124 (s_iload dX4_agree_126 (s_iload dX4_agree_128 (s_icmp_ne dX4_agree_130 (by decide) (s_lconst dX4_agree_133 (by decide) (s_goto dX4_agree_134 (by decide) t_X4_agree_138)) t_X4_agree_137)))))))))))))))))))))))))))))))))
def k_X4_agree_58 (l : Launch) (X : Nat → aw_Kt) (d : Nat) (Q : Option Value → aw_H → Prop) : aw_Kt := o_il 10 (o_ic 5 (o_i3 (fun x y => y ≤ x) (k_X4_agree_211 l X d Q) (o_lc 0 (o_ls 11 (o_lc 0 (o_ls 13 (o_ic 0 (o_is 15 (SW l m_X4_agree none X d 0 0 Q 73)))))))))
theorem t_X4_agree_58 {l : Launch} {X : Nat → aw_Kt} {d : Nat} {Q : Option Value → aw_H → Prop} : aw_Sn l m_X4_agree none X d 0 0 Q 58 (k_X4_agree_58 l X d Q) := by
  unfold k_X4_agree_58
  exact s_iload dX4_agree_58 (s_iconst dX4_agree_60 (by decide) (s_icmp_ge dX4_agree_61 (by decide) t_X4_agree_211 (s_lconst dX4_agree_64 (by decide) (s_lstore dX4_agree_65 (by decide) (s_lconst dX4_agree_67 (by decide) (s_lstore dX4_agree_68 (by decide) (s_iconst dX4_agree_70 (by decide) (s_istore dX4_agree_71 (by decide) s_stop))))))))
def k_X4_agree_46 (l : Launch) (X : Nat → aw_Kt) (d : Nat) (Q : Option Value → aw_H → Prop) : aw_Kt := o_lc 0 (o_ls 4 (o_lc 0 (o_ls 6 (o_lc 0 (o_ls 8 (o_ic 0 (o_is 10 (SW l m_X4_agree none X d 0 0 Q 58))))))))
theorem t_X4_agree_46 {l : Launch} {X : Nat → aw_Kt} {d : Nat} {Q : Option Value → aw_H → Prop} : aw_Sn l m_X4_agree none X d 0 0 Q 46 (k_X4_agree_46 l X d Q) := by
  unfold k_X4_agree_46
  exact s_lconst dX4_agree_46 (by decide) (s_lstore dX4_agree_47 (by decide) (s_lconst dX4_agree_49 (by decide) (s_lstore dX4_agree_50 (by decide) (s_lconst dX4_agree_52 (by decide) (s_lstore dX4_agree_53 (by decide) (s_iconst dX4_agree_55 (by decide) (s_istore dX4_agree_56 (by decide) s_stop)))))))
def k_X4_agree_34 (l : Launch) (X : Nat → aw_Kt) (d : Nat) (Q : Option Value → aw_H → Prop) : aw_Kt := o_pi 4 0 (o_al 0 (o_gf 4 0 (o_if (fun x => x ≤ 0) (k_X4_agree_46 l X d Q) (o_lc 0 (o_rl Q)))))
theorem t_X4_agree_34 {l : Launch} {X : Nat → aw_Kt} {d : Nat} {Q : Option Value → aw_H → Prop} : aw_Sn l m_X4_agree none X d 0 0 Q 34 (k_X4_agree_34 l X d Q) := by
  unfold k_X4_agree_34
  exact s_puti dX4_agree_34 rfl u_X4 tyX4_ok nmX4 (by decide) rfl (by decide +kernel) w_94 (s_aload_n dX4_agree_37 rfl (s_getf dX4_agree_38 rfl u_X4 (by decide) w_94 (s_if_le dX4_agree_41 (by decide) t_X4_agree_46 (s_lconst dX4_agree_44 (by decide) (s_lret dX4_agree_45 rfl)))))
def k_X4_agree_33 (l : Launch) (X : Nat → aw_Kt) (d : Nat) (Q : Option Value → aw_H → Prop) : aw_Kt := o_ic 1 (k_X4_agree_34 l X d Q)
theorem t_X4_agree_33 {l : Launch} {X : Nat → aw_Kt} {d : Nat} {Q : Option Value → aw_H → Prop} : aw_Sn l m_X4_agree none X d 0 0 Q 33 (k_X4_agree_33 l X d Q) := by
  unfold k_X4_agree_33
  exact s_iconst dX4_agree_33 (by decide) t_X4_agree_34
def k_X4_agree_0 (l : Launch) (X : Nat → aw_Kt) (d : Nat) (Q : Option Value → aw_H → Prop) : aw_Kt := o_al 0 (o_il 1 (o_cs l d m_X4_isPerson 1 (o_if (fun x => x = 0) (k_X4_agree_33 l X d Q) (o_il 2 (o_cs l d m_X4_isPerson 1 (o_if (fun x => x = 0) (k_X4_agree_33 l X d Q) (o_il 1 (o_il 2 (o_i3 (fun x y => x = y) (k_X4_agree_33 l X d Q) (o_il 3 (o_ic 0 (o_ic 3 (o_cs l d m_X4_in 3 (o_if (fun x => x = 0) (k_X4_agree_33 l X d Q) (o_ic 0 (k_X4_agree_34 l X d Q))))))))))))))))
theorem t_X4_agree_0 {l : Launch} {X : Nat → aw_Kt} {d : Nat} {Q : Option Value → aw_H → Prop} : aw_Sn l m_X4_agree none X d 0 0 Q 0 (k_X4_agree_0 l X d Q) := by
  unfold k_X4_agree_0
  exact s_aload_n dX4_agree_0 rfl (s_iload_n dX4_agree_1 rfl (s_cs dX4_agree_2 (by decide) w_102 wt_X4_isPerson w_96 wc_X4_isPerson wd_X4_isPerson (s_if_eq dX4_agree_5 (by decide) t_X4_agree_33 (s_iload_n dX4_agree_8 rfl (s_cs dX4_agree_9 (by decide) w_102 wt_X4_isPerson w_96 wc_X4_isPerson wd_X4_isPerson (s_if_eq dX4_agree_12 (by decide) t_X4_agree_33 (s_iload_n dX4_agree_15 rfl (s_iload_n dX4_agree_16 rfl (s_icmp_eq dX4_agree_17 (by decide) t_X4_agree_33 (s_iload_n dX4_agree_20 rfl (s_iconst dX4_agree_21 (by decide) (s_iconst dX4_agree_22 (by decide) (s_cs dX4_agree_23 (by decide) w_97 wt_X4_in w_96 wc_X4_in wd_X4_in (s_if_eq dX4_agree_26 (by decide) t_X4_agree_33 (s_iconst dX4_agree_29 (by decide) (s_goto dX4_agree_30 (by decide) t_X4_agree_34))))))))))))))))
/-! X4_labellings -/
def k_X4_labellings_38 (l : Launch) (X : Nat → aw_Kt) (d : Nat) (Q : Option Value → aw_H → Prop) : aw_Kt := o_il 2 (o_ri Q)
theorem t_X4_labellings_38 {l : Launch} {X : Nat → aw_Kt} {d : Nat} {Q : Option Value → aw_H → Prop} : aw_Sn l m_X4_labellings none X d 0 0 Q 38 (k_X4_labellings_38 l X d Q) := by
  unfold k_X4_labellings_38
  exact s_iload_n dX4_labellings_38 rfl (s_iret dX4_labellings_39 rfl)
def k_X4_labellings_30 (l : Launch) (X : Nat → aw_Kt) (d : Nat) (Q : Option Value → aw_H → Prop) : aw_Kt := o_ib (fun x y => x + y) (o_is 2 (o_ii 3 1 (SW l m_X4_labellings none X d 0 0 Q 4)))
theorem t_X4_labellings_30 {l : Launch} {X : Nat → aw_Kt} {d : Nat} {Q : Option Value → aw_H → Prop} : aw_Sn l m_X4_labellings none X d 0 0 Q 30 (k_X4_labellings_30 l X d Q) := by
  unfold k_X4_labellings_30
  exact s_iadd dX4_labellings_30 (s_istore_n dX4_labellings_31 rfl (by decide) (s_iinc dX4_labellings_32 (by decide) (by decide) (s_goto dX4_labellings_35 (by decide) s_stop)))
def k_X4_labellings_29 (l : Launch) (X : Nat → aw_Kt) (d : Nat) (Q : Option Value → aw_H → Prop) : aw_Kt := o_ic 0 (k_X4_labellings_30 l X d Q)
theorem t_X4_labellings_29 {l : Launch} {X : Nat → aw_Kt} {d : Nat} {Q : Option Value → aw_H → Prop} : aw_Sn l m_X4_labellings none X d 0 0 Q 29 (k_X4_labellings_29 l X d Q) := by
  unfold k_X4_labellings_29
  exact s_iconst dX4_labellings_29 (by decide) t_X4_labellings_30
def k_X4_labellings_4 (l : Launch) (X : Nat → aw_Kt) (d : Nat) (Q : Option Value → aw_H → Prop) : aw_Kt := o_il 3 (o_ic 8 (o_i3 (fun x y => y ≤ x) (k_X4_labellings_38 l X d Q) (o_il 2 (o_al 0 (o_gf 4 3 (o_ic 8 (o_il 1 (o_ib (fun x y => x * y) (o_il 3 (o_ib (fun x y => x + y) (o_ia 0 (o_if (fun x => x ≤ 0) (k_X4_labellings_29 l X d Q) (o_ic 1 (k_X4_labellings_30 l X d Q))))))))))))))
theorem t_X4_labellings_4 {l : Launch} {X : Nat → aw_Kt} {d : Nat} {Q : Option Value → aw_H → Prop} : aw_Sn l m_X4_labellings none X d 0 0 Q 4 (k_X4_labellings_4 l X d Q) := by
  unfold k_X4_labellings_4
  exact s_iload_n dX4_labellings_4 rfl (s_bipush dX4_labellings_5 (by decide) (s_icmp_ge dX4_labellings_7 (by decide) t_X4_labellings_38 (s_iload_n dX4_labellings_10 rfl (s_aload_n dX4_labellings_11 rfl (s_getf dX4_labellings_12 rfl u_X4 (by decide) w_100 (s_bipush dX4_labellings_15 (by decide) (s_iload_n dX4_labellings_17 rfl (s_imul dX4_labellings_18 (s_iload_n dX4_labellings_19 rfl (s_iadd dX4_labellings_20 (s_iaload dX4_labellings_21 (s_if_le dX4_labellings_22 (by decide) t_X4_labellings_29 (s_iconst dX4_labellings_25 (by decide) (s_goto dX4_labellings_26 (by decide) t_X4_labellings_30))))))))))))))
def k_X4_labellings_0 (l : Launch) (X : Nat → aw_Kt) (d : Nat) (Q : Option Value → aw_H → Prop) : aw_Kt := o_ic 0 (o_is 2 (o_ic 0 (o_is 3 (SW l m_X4_labellings none X d 0 0 Q 4))))
theorem t_X4_labellings_0 {l : Launch} {X : Nat → aw_Kt} {d : Nat} {Q : Option Value → aw_H → Prop} : aw_Sn l m_X4_labellings none X d 0 0 Q 0 (k_X4_labellings_0 l X d Q) := by
  unfold k_X4_labellings_0
  exact s_iconst dX4_labellings_0 (by decide) (s_istore_n dX4_labellings_1 rfl (by decide) (s_iconst dX4_labellings_2 (by decide) (s_istore_n dX4_labellings_3 rfl (by decide) s_stop)))
/-! X4_countOf -/
def k_X4_countOf_44 (l : Launch) (X : Nat → aw_Kt) (d : Nat) (Q : Option Value → aw_H → Prop) : aw_Kt := o_il 3 (o_ri Q)
theorem t_X4_countOf_44 {l : Launch} {X : Nat → aw_Kt} {d : Nat} {Q : Option Value → aw_H → Prop} : aw_Sn l m_X4_countOf none X d 0 0 Q 44 (k_X4_countOf_44 l X d Q) := by
  unfold k_X4_countOf_44
  exact s_iload_n dX4_countOf_44 rfl (s_iret dX4_countOf_45 rfl)
def k_X4_countOf_36 (l : Launch) (X : Nat → aw_Kt) (d : Nat) (Q : Option Value → aw_H → Prop) : aw_Kt := o_ib (fun x y => x + y) (o_is 3 (o_ii 4 1 (SW l m_X4_countOf none X d 0 0 Q 5)))
theorem t_X4_countOf_36 {l : Launch} {X : Nat → aw_Kt} {d : Nat} {Q : Option Value → aw_H → Prop} : aw_Sn l m_X4_countOf none X d 0 0 Q 36 (k_X4_countOf_36 l X d Q) := by
  unfold k_X4_countOf_36
  exact s_iadd dX4_countOf_36 (s_istore_n dX4_countOf_37 rfl (by decide) (s_iinc dX4_countOf_38 (by decide) (by decide) (s_goto dX4_countOf_41 (by decide) s_stop)))
def k_X4_countOf_35 (l : Launch) (X : Nat → aw_Kt) (d : Nat) (Q : Option Value → aw_H → Prop) : aw_Kt := o_ic 0 (k_X4_countOf_36 l X d Q)
theorem t_X4_countOf_35 {l : Launch} {X : Nat → aw_Kt} {d : Nat} {Q : Option Value → aw_H → Prop} : aw_Sn l m_X4_countOf none X d 0 0 Q 35 (k_X4_countOf_35 l X d Q) := by
  unfold k_X4_countOf_35
  exact s_iconst dX4_countOf_35 (by decide) t_X4_countOf_36
def k_X4_countOf_5 (l : Launch) (X : Nat → aw_Kt) (d : Nat) (Q : Option Value → aw_H → Prop) : aw_Kt := o_il 4 (o_ic 8 (o_i3 (fun x y => y ≤ x) (k_X4_countOf_44 l X d Q) (o_il 3 (o_al 0 (o_gf 4 3 (o_ic 8 (o_il 1 (o_ib (fun x y => x * y) (o_il 4 (o_ib (fun x y => x + y) (o_ia 0 (o_il 2 (o_ic 1 (o_ib (fun x y => x + y) (o_i3 (fun x y => x = y) (o_ic 1 (k_X4_countOf_36 l X d Q)) (k_X4_countOf_35 l X d Q))))))))))))))))
theorem t_X4_countOf_5 {l : Launch} {X : Nat → aw_Kt} {d : Nat} {Q : Option Value → aw_H → Prop} : aw_Sn l m_X4_countOf none X d 0 0 Q 5 (k_X4_countOf_5 l X d Q) := by
  unfold k_X4_countOf_5
  exact s_iload dX4_countOf_5 (s_bipush dX4_countOf_7 (by decide) (s_icmp_ge dX4_countOf_9 (by decide) t_X4_countOf_44 (s_iload_n dX4_countOf_12 rfl (s_aload_n dX4_countOf_13 rfl (s_getf dX4_countOf_14 rfl u_X4 (by decide) w_100 (s_bipush dX4_countOf_17 (by decide) (s_iload_n dX4_countOf_19 rfl (s_imul dX4_countOf_20 (s_iload dX4_countOf_21 (s_iadd dX4_countOf_23 (s_iaload dX4_countOf_24 (s_iload_n dX4_countOf_25 rfl (s_iconst dX4_countOf_26 (by decide) (s_iadd dX4_countOf_27 (s_icmp_ne dX4_countOf_28 (by decide) (s_iconst dX4_countOf_31 (by decide) (s_goto dX4_countOf_32 (by decide) t_X4_countOf_36)) t_X4_countOf_35)))))))))))))))
def k_X4_countOf_0 (l : Launch) (X : Nat → aw_Kt) (d : Nat) (Q : Option Value → aw_H → Prop) : aw_Kt := o_ic 0 (o_is 3 (o_ic 0 (o_is 4 (SW l m_X4_countOf none X d 0 0 Q 5))))
theorem t_X4_countOf_0 {l : Launch} {X : Nat → aw_Kt} {d : Nat} {Q : Option Value → aw_H → Prop} : aw_Sn l m_X4_countOf none X d 0 0 Q 0 (k_X4_countOf_0 l X d Q) := by
  unfold k_X4_countOf_0
  exact s_iconst dX4_countOf_0 (by decide) (s_istore_n dX4_countOf_1 rfl (by decide) (s_iconst dX4_countOf_2 (by decide) (s_istore dX4_countOf_3 (by decide) s_stop)))
/-! X4_all -/
def k_X4_all_275 (l : Launch) (X : Nat → aw_Kt) (d : Nat) (Q : Option Value → aw_H → Prop) : aw_Kt := o_rl Q
theorem t_X4_all_275 {l : Launch} {X : Nat → aw_Kt} {d : Nat} {Q : Option Value → aw_H → Prop} : aw_Sn l m_X4_all none X d 0 0 Q 275 (k_X4_all_275 l X d Q) := by
  unfold k_X4_all_275
  exact s_lret dX4_all_275 rfl
def k_X4_all_239 (l : Launch) (X : Nat → aw_Kt) (d : Nat) (Q : Option Value → aw_H → Prop) : aw_Kt := o_al 0 (o_ll 4 (o_ll 6 (o_lb (fun x y => x * y) (o_ll 6 (o_lb (fun x y => x * y) (o_ll 8 (o_lc 840 (o_lb (fun x y => x * y) (o_ll 2 (o_lb (fun x y => x * y) (o_lb (fun x y => x - y) (o_lc 840 (o_ll 2 (o_lb (fun x y => x * y) (o_ll 6 (o_ll 6 (o_lb (fun x y => x * y) (o_ll 8 (o_lb (fun x y => x - y) (o_lb (fun x y => x * y) (o_il 1 (o_cv l d m_X4_cut 4 3 (k_X4_all_275 l X d Q)))))))))))))))))))))))
theorem t_X4_all_239 {l : Launch} {X : Nat → aw_Kt} {d : Nat} {Q : Option Value → aw_H → Prop} : aw_Sn l m_X4_all none X d 0 0 Q 239 (k_X4_all_239 l X d Q) := by
  unfold k_X4_all_239
  exact s_aload_n dX4_all_239 rfl (s_lload dX4_all_240 (s_lload dX4_all_242 (s_lmul dX4_all_244 (s_lload dX4_all_245 (s_lmul dX4_all_247 (s_lload dX4_all_248 (s_ldc2 dX4_all_250 w_126 (s_lmul dX4_all_253 (s_lload_n dX4_all_254 rfl (s_lmul dX4_all_255 (s_lsub dX4_all_256 (s_ldc2 dX4_all_257 w_126 (s_lload_n dX4_all_260 rfl (s_lmul dX4_all_261 (s_lload dX4_all_262 (s_lload dX4_all_264 (s_lmul dX4_all_266 (s_lload dX4_all_267 (s_lsub dX4_all_269 (s_lmul dX4_all_270 (s_iload_n dX4_all_271 rfl (s_cv dX4_all_272 rfl (by decide) w_125 wi_X4_cut ws_X4_cut w_96 wc_X4_cut wd_X4_cut t_X4_all_275))))))))))))))))))))))
def k_X4_all_229 (l : Launch) (X : Nat → aw_Kt) (d : Nat) (Q : Option Value → aw_H → Prop) : aw_Kt := o_il 1 (o_ic 3 (o_i3 (fun x y => x = y) (o_ll 6 (k_X4_all_275 l X d Q)) (k_X4_all_239 l X d Q)))
theorem t_X4_all_229 {l : Launch} {X : Nat → aw_Kt} {d : Nat} {Q : Option Value → aw_H → Prop} : aw_Sn l m_X4_all none X d 0 0 Q 229 (k_X4_all_229 l X d Q) := by
  unfold k_X4_all_229
  exact s_iload_n dX4_all_229 rfl (s_iconst dX4_all_230 (by decide) (s_icmp_ne dX4_all_231 (by decide) (s_lload dX4_all_234 (s_goto dX4_all_236 (by decide) t_X4_all_275)) t_X4_all_239))
def k_X4_all_220 (l : Launch) (X : Nat → aw_Kt) (d : Nat) (Q : Option Value → aw_H → Prop) : aw_Kt := o_il 1 (o_ic 2 (o_i3 (fun x y => x = y) (o_ll 2 (k_X4_all_275 l X d Q)) (k_X4_all_229 l X d Q)))
theorem t_X4_all_220 {l : Launch} {X : Nat → aw_Kt} {d : Nat} {Q : Option Value → aw_H → Prop} : aw_Sn l m_X4_all none X d 0 0 Q 220 (k_X4_all_220 l X d Q) := by
  unfold k_X4_all_220
  exact s_iload_n dX4_all_220 rfl (s_iconst dX4_all_221 (by decide) (s_icmp_ne dX4_all_222 (by decide) (s_lload_n dX4_all_225 rfl (s_goto dX4_all_226 (by decide) t_X4_all_275)) t_X4_all_229))
def k_X4_all_204 (l : Launch) (X : Nat → aw_Kt) (d : Nat) (Q : Option Value → aw_H → Prop) : aw_Kt := o_ll 8 (o_ll 11 (o_ll 11 (o_lb (fun x y => x * y) (o_lb (fun x y => x + y) (o_ls 8 (o_ii 10 1 (SW l m_X4_all none X d 0 0 Q 149)))))))
theorem t_X4_all_204 {l : Launch} {X : Nat → aw_Kt} {d : Nat} {Q : Option Value → aw_H → Prop} : aw_Sn l m_X4_all none X d 0 0 Q 204 (k_X4_all_204 l X d Q) := by
  unfold k_X4_all_204
  exact s_lload dX4_all_204 (s_lload dX4_all_206 (s_lload dX4_all_208 (s_lmul dX4_all_210 (s_ladd dX4_all_211 (s_lstore dX4_all_212 (by decide) (s_iinc dX4_all_214 (by decide) (by decide) (s_goto dX4_all_217 (by decide) s_stop)))))))
def k_X4_all_195 (l : Launch) (X : Nat → aw_Kt) (d : Nat) (Q : Option Value → aw_H → Prop) : aw_Kt := o_lb (fun x y => x + y) (o_ls 11 (o_ii 13 1 (SW l m_X4_all none X d 0 0 Q 161)))
theorem t_X4_all_195 {l : Launch} {X : Nat → aw_Kt} {d : Nat} {Q : Option Value → aw_H → Prop} : aw_Sn l m_X4_all none X d 0 0 Q 195 (k_X4_all_195 l X d Q) := by
  unfold k_X4_all_195
  exact s_ladd dX4_all_195 (s_lstore dX4_all_196 (by decide) (s_iinc dX4_all_198 (by decide) (by decide) (s_goto dX4_all_201 (by decide) s_stop)))
def k_X4_all_194 (l : Launch) (X : Nat → aw_Kt) (d : Nat) (Q : Option Value → aw_H → Prop) : aw_Kt := o_lc 0 (k_X4_all_195 l X d Q)
theorem t_X4_all_194 {l : Launch} {X : Nat → aw_Kt} {d : Nat} {Q : Option Value → aw_H → Prop} : aw_Sn l m_X4_all none X d 0 0 Q 194 (k_X4_all_194 l X d Q) := by
  unfold k_X4_all_194
  exact s_lconst dX4_all_194 (by decide) t_X4_all_195
def k_X4_all_161 (l : Launch) (X : Nat → aw_Kt) (d : Nat) (Q : Option Value → aw_H → Prop) : aw_Kt := o_il 13 (o_al 0 (o_gf 4 1 (o_i3 (fun x y => y ≤ x) (k_X4_all_204 l X d Q) (o_ll 11 (o_al 0 (o_il 13 (o_cv l d m_X4_labellings 4 1 (o_ic 1 (o_i3 (fun x y => x ≤ y) (k_X4_all_194 l X d Q) (o_al 0 (o_il 13 (o_il 10 (o_cv l d m_X4_countOf 4 2 (o_i2 (k_X4_all_195 l X d Q)))))))))))))))
theorem t_X4_all_161 {l : Launch} {X : Nat → aw_Kt} {d : Nat} {Q : Option Value → aw_H → Prop} : aw_Sn l m_X4_all none X d 0 0 Q 161 (k_X4_all_161 l X d Q) := by
  unfold k_X4_all_161
  exact s_iload dX4_all_161 (s_aload_n dX4_all_163 rfl (s_getf dX4_all_164 rfl u_X4 (by decide) w_95 (s_icmp_ge dX4_all_167 (by decide) t_X4_all_204 (s_lload dX4_all_170 (s_aload_n dX4_all_172 rfl (s_iload dX4_all_173 (s_cv dX4_all_175 rfl (by decide) w_128 wi_X4_labellings ws_X4_labellings w_96 wc_X4_labellings wd_X4_labellings (s_iconst dX4_all_178 (by decide) (s_icmp_le dX4_all_179 (by decide) t_X4_all_194 (s_aload_n dX4_all_182 rfl (s_iload dX4_all_183 (s_iload dX4_all_185 (s_cv dX4_all_187 rfl (by decide) w_127 wi_X4_countOf ws_X4_countOf w_96 wc_X4_countOf wd_X4_countOf (s_i2l dX4_all_190 (s_goto dX4_all_191 (by decide) t_X4_all_195)))))))))))))))
def k_X4_all_149 (l : Launch) (X : Nat → aw_Kt) (d : Nat) (Q : Option Value → aw_H → Prop) : aw_Kt := o_il 10 (o_ic 5 (o_i3 (fun x y => y ≤ x) (k_X4_all_220 l X d Q) (o_lc 0 (o_ls 11 (o_ic 0 (o_is 13 (SW l m_X4_all none X d 0 0 Q 161)))))))
theorem t_X4_all_149 {l : Launch} {X : Nat → aw_Kt} {d : Nat} {Q : Option Value → aw_H → Prop} : aw_Sn l m_X4_all none X d 0 0 Q 149 (k_X4_all_149 l X d Q) := by
  unfold k_X4_all_149
  exact s_iload dX4_all_149 (s_iconst dX4_all_151 (by decide) (s_icmp_ge dX4_all_152 (by decide) t_X4_all_220 (s_lconst dX4_all_155 (by decide) (s_lstore dX4_all_156 (by decide) (s_iconst dX4_all_158 (by decide) (s_istore dX4_all_159 (by decide) s_stop))))))
def k_X4_all_143 (l : Launch) (X : Nat → aw_Kt) (d : Nat) (Q : Option Value → aw_H → Prop) : aw_Kt := o_lc 0 (o_ls 8 (o_ic 0 (o_is 10 (SW l m_X4_all none X d 0 0 Q 149))))
theorem t_X4_all_143 {l : Launch} {X : Nat → aw_Kt} {d : Nat} {Q : Option Value → aw_H → Prop} : aw_Sn l m_X4_all none X d 0 0 Q 143 (k_X4_all_143 l X d Q) := by
  unfold k_X4_all_143
  exact s_lconst dX4_all_143 (by decide) (s_lstore dX4_all_144 (by decide) (s_iconst dX4_all_146 (by decide) (s_istore dX4_all_147 (by decide) s_stop)))
def k_X4_all_137 (l : Launch) (X : Nat → aw_Kt) (d : Nat) (Q : Option Value → aw_H → Prop) : aw_Kt := o_ii 8 1 (SW l m_X4_all none X d 0 0 Q 38)
theorem t_X4_all_137 {l : Launch} {X : Nat → aw_Kt} {d : Nat} {Q : Option Value → aw_H → Prop} : aw_Sn l m_X4_all none X d 0 0 Q 137 (k_X4_all_137 l X d Q) := by
  unfold k_X4_all_137
  exact s_iinc dX4_all_137 (by decide) (by decide) (s_goto dX4_all_140 (by decide) s_stop)
def k_X4_all_115 (l : Launch) (X : Nat → aw_Kt) (d : Nat) (Q : Option Value → aw_H → Prop) : aw_Kt := o_ll 4 (o_ic 840 (o_il 10 (o_ib (fun x y => x * y) (o_il 9 (o_il 9 (o_ic 1 (o_ib (fun x y => x - y) (o_ib (fun x y => x * y) (o_ic 2 (o_dv (o_dv (o_i2 (o_lb (fun x y => x + y) (o_ls 4 (k_X4_all_137 l X d Q)))))))))))))))
theorem t_X4_all_115 {l : Launch} {X : Nat → aw_Kt} {d : Nat} {Q : Option Value → aw_H → Prop} : aw_Sn l m_X4_all none X d 0 0 Q 115 (k_X4_all_115 l X d Q) := by
  unfold k_X4_all_115
  exact s_lload dX4_all_115 (s_sipush dX4_all_117 (by decide) (s_iload dX4_all_120 (s_imul dX4_all_122 (s_iload dX4_all_123 (s_iload dX4_all_125 (s_iconst dX4_all_127 (by decide) (s_isub dX4_all_128 (s_imul dX4_all_129 (s_iconst dX4_all_130 (by decide) (s_idiv dX4_all_131 (s_idiv dX4_all_132 (s_i2l dX4_all_133 (s_ladd dX4_all_134 (s_lstore dX4_all_135 (by decide) t_X4_all_137))))))))))))))
def k_X4_all_79 (l : Launch) (X : Nat → aw_Kt) (d : Nat) (Q : Option Value → aw_H → Prop) : aw_Kt := o_il 11 (o_ic 5 (o_i3 (fun x y => y ≤ x) (k_X4_all_115 l X d Q) (o_al 0 (o_il 8 (o_il 11 (o_cv l d m_X4_countOf 4 2 (o_is 12 (o_il 10 (o_il 12 (o_il 12 (o_ic 1 (o_ib (fun x y => x - y) (o_ib (fun x y => x * y) (o_ic 2 (o_dv (o_ib (fun x y => x + y) (o_is 10 (o_ii 11 1 (SW l m_X4_all none X d 0 0 Q 79)))))))))))))))))))
theorem t_X4_all_79 {l : Launch} {X : Nat → aw_Kt} {d : Nat} {Q : Option Value → aw_H → Prop} : aw_Sn l m_X4_all none X d 0 0 Q 79 (k_X4_all_79 l X d Q) := by
  unfold k_X4_all_79
  exact s_iload dX4_all_79 (s_iconst dX4_all_81 (by decide) (s_icmp_ge dX4_all_82 (by decide) t_X4_all_115 (s_aload_n dX4_all_85 rfl (s_iload dX4_all_86 (s_iload dX4_all_88 (s_cv dX4_all_90 rfl (by decide) w_127 wi_X4_countOf ws_X4_countOf w_96 wc_X4_countOf wd_X4_countOf (s_istore dX4_all_93 (by decide) (s_iload dX4_all_95 (s_iload dX4_all_97 (s_iload dX4_all_99 (s_iconst dX4_all_101 (by decide) (s_isub dX4_all_102 (s_imul dX4_all_103 (s_iconst dX4_all_104 (by decide) (s_idiv dX4_all_105 (s_iadd dX4_all_106 (s_istore dX4_all_107 (by decide) (s_iinc dX4_all_109 (by decide) (by decide) (s_goto dX4_all_112 (by decide) s_stop)))))))))))))))))))
def k_X4_all_38 (l : Launch) (X : Nat → aw_Kt) (d : Nat) (Q : Option Value → aw_H → Prop) : aw_Kt := o_il 8 (o_al 0 (o_gf 4 1 (o_i3 (fun x y => y ≤ x) (k_X4_all_143 l X d Q) (o_al 0 (o_il 8 (o_cv l d m_X4_labellings 4 1 (o_is 9 (o_il 9 (o_ic 1 (o_i3 (fun x y => x ≤ y) (k_X4_all_137 l X d Q) (o_ll 2 (o_lc 1 (o_lb (fun x y => x + y) (o_ls 2 (o_ll 6 (o_il 9 (o_i2 (o_lb (fun x y => x + y) (o_ls 6 (o_ic 0 (o_is 10 (o_ic 0 (o_is 11 (SW l m_X4_all none X d 0 0 Q 79))))))))))))))))))))))))
theorem t_X4_all_38 {l : Launch} {X : Nat → aw_Kt} {d : Nat} {Q : Option Value → aw_H → Prop} : aw_Sn l m_X4_all none X d 0 0 Q 38 (k_X4_all_38 l X d Q) := by
  unfold k_X4_all_38
  exact s_iload dX4_all_38 (s_aload_n dX4_all_40 rfl (s_getf dX4_all_41 rfl u_X4 (by decide) w_95 (s_icmp_ge dX4_all_44 (by decide) t_X4_all_143 (s_aload_n dX4_all_47 rfl (s_iload dX4_all_48 (s_cv dX4_all_50 rfl (by decide) w_128 wi_X4_labellings ws_X4_labellings w_96 wc_X4_labellings wd_X4_labellings (s_istore dX4_all_53 (by decide) (s_iload dX4_all_55 (s_iconst dX4_all_57 (by decide) (s_icmp_le dX4_all_58 (by decide) t_X4_all_137 (s_lload_n dX4_all_61 rfl (s_lconst dX4_all_62 (by decide) (s_ladd dX4_all_63 (s_lstore_n dX4_all_64 rfl (by decide) (s_lload dX4_all_65 (s_iload dX4_all_67 (s_i2l dX4_all_69 (s_ladd dX4_all_70 (s_lstore dX4_all_71 (by decide) (s_iconst dX4_all_73 (by decide) (s_istore dX4_all_74 (by decide) (s_iconst dX4_all_76 (by decide) (s_istore dX4_all_77 (by decide) s_stop)))))))))))))))))))))))
def k_X4_all_27 (l : Launch) (X : Nat → aw_Kt) (d : Nat) (Q : Option Value → aw_H → Prop) : aw_Kt := o_lc 0 (o_ls 2 (o_lc 0 (o_ls 4 (o_lc 0 (o_ls 6 (o_ic 0 (o_is 8 (SW l m_X4_all none X d 0 0 Q 38))))))))
theorem t_X4_all_27 {l : Launch} {X : Nat → aw_Kt} {d : Nat} {Q : Option Value → aw_H → Prop} : aw_Sn l m_X4_all none X d 0 0 Q 27 (k_X4_all_27 l X d Q) := by
  unfold k_X4_all_27
  exact s_lconst dX4_all_27 (by decide) (s_lstore_n dX4_all_28 rfl (by decide) (s_lconst dX4_all_29 (by decide) (s_lstore dX4_all_30 (by decide) (s_lconst dX4_all_32 (by decide) (s_lstore dX4_all_33 (by decide) (s_iconst dX4_all_35 (by decide) (s_istore dX4_all_36 (by decide) s_stop)))))))
def k_X4_all_15 (l : Launch) (X : Nat → aw_Kt) (d : Nat) (Q : Option Value → aw_H → Prop) : aw_Kt := o_pi 4 0 (o_al 0 (o_gf 4 0 (o_if (fun x => x ≤ 0) (k_X4_all_27 l X d Q) (o_lc 0 (o_rl Q)))))
theorem t_X4_all_15 {l : Launch} {X : Nat → aw_Kt} {d : Nat} {Q : Option Value → aw_H → Prop} : aw_Sn l m_X4_all none X d 0 0 Q 15 (k_X4_all_15 l X d Q) := by
  unfold k_X4_all_15
  exact s_puti dX4_all_15 rfl u_X4 tyX4_ok nmX4 (by decide) rfl (by decide +kernel) w_94 (s_aload_n dX4_all_18 rfl (s_getf dX4_all_19 rfl u_X4 (by decide) w_94 (s_if_le dX4_all_22 (by decide) t_X4_all_27 (s_lconst dX4_all_25 (by decide) (s_lret dX4_all_26 rfl)))))
def k_X4_all_14 (l : Launch) (X : Nat → aw_Kt) (d : Nat) (Q : Option Value → aw_H → Prop) : aw_Kt := o_ic 1 (k_X4_all_15 l X d Q)
theorem t_X4_all_14 {l : Launch} {X : Nat → aw_Kt} {d : Nat} {Q : Option Value → aw_H → Prop} : aw_Sn l m_X4_all none X d 0 0 Q 14 (k_X4_all_14 l X d Q) := by
  unfold k_X4_all_14
  exact s_iconst dX4_all_14 (by decide) t_X4_all_15
def k_X4_all_0 (l : Launch) (X : Nat → aw_Kt) (d : Nat) (Q : Option Value → aw_H → Prop) : aw_Kt := o_al 0 (o_il 1 (o_ic 0 (o_ic 3 (o_cs l d m_X4_in 3 (o_if (fun x => x = 0) (k_X4_all_14 l X d Q) (o_ic 0 (k_X4_all_15 l X d Q)))))))
theorem t_X4_all_0 {l : Launch} {X : Nat → aw_Kt} {d : Nat} {Q : Option Value → aw_H → Prop} : aw_Sn l m_X4_all none X d 0 0 Q 0 (k_X4_all_0 l X d Q) := by
  unfold k_X4_all_0
  exact s_aload_n dX4_all_0 rfl (s_iload_n dX4_all_1 rfl (s_iconst dX4_all_2 (by decide) (s_iconst dX4_all_3 (by decide) (s_cs dX4_all_4 (by decide) w_97 wt_X4_in w_96 wc_X4_in wd_X4_in (s_if_eq dX4_all_7 (by decide) t_X4_all_14 (s_iconst dX4_all_10 (by decide) (s_goto dX4_all_11 (by decide) t_X4_all_15)))))))
/-! X4_next -/
def k_X4_next_128 (l : Launch) (X : Nat → aw_Kt) (d : Nat) (Q : Option Value → aw_H → Prop) : aw_Kt := o_il 2 (o_ri Q)
theorem t_X4_next_128 {l : Launch} {X : Nat → aw_Kt} {d : Nat} {Q : Option Value → aw_H → Prop} : aw_Sn l m_X4_next none X d 0 0 Q 128 (k_X4_next_128 l X d Q) := by
  unfold k_X4_next_128
  exact s_iload_n dX4_next_128 rfl (s_iret dX4_next_129 rfl)
def k_X4_next_122 (l : Launch) (X : Nat → aw_Kt) (d : Nat) (Q : Option Value → aw_H → Prop) : aw_Kt := o_ii 5 1 (SW l m_X4_next none X d 0 0 Q 20)
theorem t_X4_next_122 {l : Launch} {X : Nat → aw_Kt} {d : Nat} {Q : Option Value → aw_H → Prop} : aw_Sn l m_X4_next none X d 0 0 Q 122 (k_X4_next_122 l X d Q) := by
  unfold k_X4_next_122
  exact s_iinc dX4_next_122 (by decide) (by decide) (s_goto dX4_next_125 (by decide) s_stop)
def k_X4_next_112 (l : Launch) (X : Nat → aw_Kt) (d : Nat) (Q : Option Value → aw_H → Prop) : aw_Kt := o_il 5 (o_is 2 (o_il 6 (o_is 3 (o_il 7 (o_is 4 (k_X4_next_122 l X d Q))))))
theorem t_X4_next_112 {l : Launch} {X : Nat → aw_Kt} {d : Nat} {Q : Option Value → aw_H → Prop} : aw_Sn l m_X4_next none X d 0 0 Q 112 (k_X4_next_112 l X d Q) := by
  unfold k_X4_next_112
  exact s_iload dX4_next_112 (s_istore_n dX4_next_114 rfl (by decide) (s_iload dX4_next_115 (s_istore_n dX4_next_117 rfl (by decide) (s_iload dX4_next_118 (s_istore dX4_next_120 (by decide) t_X4_next_122)))))
def k_X4_next_20 (l : Launch) (X : Nat → aw_Kt) (d : Nat) (Q : Option Value → aw_H → Prop) : aw_Kt := o_il 5 (o_al 0 (o_gf 4 1 (o_i3 (fun x y => y ≤ x) (k_X4_next_128 l X d Q) (o_al 0 (o_il 1 (o_cv l d m_X4_isBarred 4 1 (o_if (fun x => x = 0) (o_al 0 (o_gf 4 3 (o_ic 8 (o_il 5 (o_ib (fun x y => x * y) (o_il 1 (o_ib (fun x y => x + y) (o_ia 0 (o_if (fun x => x = 0) (o_al 0 (o_gf 4 4 (o_il 5 (o_ia 0 (o_ic (-1) (o_i3 (fun x y => x = y) (o_al 0 (o_il 5 (o_cv l d m_X4_weigh 4 1 (o_al 0 (o_gf 4 16 (o_al 0 (o_gf 4 17 (o_ib (fun x y => x - y) (o_is 6 (o_al 0 (o_il 5 (o_cv l d m_X4_labellings 4 1 (o_is 7 (o_il 2 (o_ic (-1) (o_i3 (fun x y => x = y) (k_X4_next_112 l X d Q) (o_il 6 (o_il 3 (o_i3 (fun x y => x < y) (k_X4_next_112 l X d Q) (o_il 6 (o_il 3 (o_i3 (fun x y => x = y) (o_il 7 (o_il 4 (o_i3 (fun x y => y ≤ x) (k_X4_next_122 l X d Q) (k_X4_next_112 l X d Q)))) (k_X4_next_122 l X d Q))))))))))))))))))))))) (k_X4_next_122 l X d Q))))))) (k_X4_next_122 l X d Q)))))))))) (k_X4_next_128 l X d Q))))))))
theorem t_X4_next_20 {l : Launch} {X : Nat → aw_Kt} {d : Nat} {Q : Option Value → aw_H → Prop} : aw_Sn l m_X4_next none X d 0 0 Q 20 (k_X4_next_20 l X d Q) := by
  unfold k_X4_next_20
  exact s_iload dX4_next_20 (s_aload_n dX4_next_22 rfl (s_getf dX4_next_23 rfl u_X4 (by decide) w_95 (s_icmp_ge dX4_next_26 (by decide) t_X4_next_128 (s_aload_n dX4_next_29 rfl (s_iload_n dX4_next_30 rfl (s_cv dX4_next_31 rfl (by decide) w_107 wi_X4_isBarred ws_X4_isBarred w_96 wc_X4_isBarred wd_X4_isBarred (s_if_ne dX4_next_34 (by decide) (s_aload_n dX4_next_37 rfl (s_getf dX4_next_38 rfl u_X4 (by decide) w_100 (s_bipush dX4_next_41 (by decide) (s_iload dX4_next_43 (s_imul dX4_next_45 (s_iload_n dX4_next_46 rfl (s_iadd dX4_next_47 (s_iaload dX4_next_48 (s_if_ne dX4_next_49 (by decide) (s_aload_n dX4_next_52 rfl (s_getf dX4_next_53 rfl u_X4 (by decide) w_99 (s_iload dX4_next_56 (s_iaload dX4_next_58 (s_iconst dX4_next_59 (by decide) (s_icmp_ne dX4_next_60 (by decide) (s_aload_n dX4_next_63 rfl (s_iload dX4_next_64 (s_cv dX4_next_66 rfl (by decide) w_121 wi_X4_weigh ws_X4_weigh w_96 wc_X4_weigh wd_X4_weigh (s_aload_n dX4_next_69 rfl (s_getf dX4_next_70 rfl u_X4 (by decide) w_119 (s_aload_n dX4_next_73 rfl (s_getf dX4_next_74 rfl u_X4 (by decide) w_118 (s_isub dX4_next_77 (s_istore dX4_next_78 (by decide) (s_aload_n dX4_next_80 rfl (s_iload dX4_next_81 (s_cv dX4_next_83 rfl (by decide) w_128 wi_X4_labellings ws_X4_labellings w_96 wc_X4_labellings wd_X4_labellings (s_istore dX4_next_86 (by decide) (s_iload_n dX4_next_88 rfl (s_iconst dX4_next_89 (by decide) (s_icmp_eq dX4_next_90 (by decide) t_X4_next_112 (s_iload dX4_next_93 (s_iload_n dX4_next_95 rfl (s_icmp_lt dX4_next_96 (by decide) t_X4_next_112 (s_iload dX4_next_99 (s_iload_n dX4_next_101 rfl (s_icmp_ne dX4_next_102 (by decide) (s_iload dX4_next_105 (s_iload dX4_next_107 (s_icmp_ge dX4_next_109 (by decide) t_X4_next_122 t_X4_next_112))) t_X4_next_122)))))))))))))))))))))) t_X4_next_122)))))) t_X4_next_122))))))))) t_X4_next_128)))))))
def k_X4_next_10 (l : Launch) (X : Nat → aw_Kt) (d : Nat) (Q : Option Value → aw_H → Prop) : aw_Kt := o_ic (-1) (o_is 2 (o_ic 0 (o_is 3 (o_ic 0 (o_is 4 (o_ic 0 (o_is 5 (SW l m_X4_next none X d 0 0 Q 20))))))))
theorem t_X4_next_10 {l : Launch} {X : Nat → aw_Kt} {d : Nat} {Q : Option Value → aw_H → Prop} : aw_Sn l m_X4_next none X d 0 0 Q 10 (k_X4_next_10 l X d Q) := by
  unfold k_X4_next_10
  exact s_iconst dX4_next_10 (by decide) (s_istore_n dX4_next_11 rfl (by decide) (s_iconst dX4_next_12 (by decide) (s_istore_n dX4_next_13 rfl (by decide) (s_iconst dX4_next_14 (by decide) (s_istore dX4_next_15 (by decide) (s_iconst dX4_next_17 (by decide) (s_istore dX4_next_18 (by decide) s_stop)))))))
def k_X4_next_0 (l : Launch) (X : Nat → aw_Kt) (d : Nat) (Q : Option Value → aw_H → Prop) : aw_Kt := o_il 1 (o_cs l d m_X4_isPerson 1 (o_if (fun x => x = 0) (o_ic (-101) (o_ri Q)) (k_X4_next_10 l X d Q)))
theorem t_X4_next_0 {l : Launch} {X : Nat → aw_Kt} {d : Nat} {Q : Option Value → aw_H → Prop} : aw_Sn l m_X4_next none X d 0 0 Q 0 (k_X4_next_0 l X d Q) := by
  unfold k_X4_next_0
  exact s_iload_n dX4_next_0 rfl (s_cs dX4_next_1 (by decide) w_102 wt_X4_isPerson w_96 wc_X4_isPerson wd_X4_isPerson (s_if_ne dX4_next_4 (by decide) (s_bipush dX4_next_7 (by decide) (s_iret dX4_next_9 rfl)) t_X4_next_10))
/-! X4_isUnlike -/
def k_X4_isUnlike_96 (l : Launch) (X : Nat → aw_Kt) (d : Nat) (Q : Option Value → aw_H → Prop) : aw_Kt := o_il 2 (o_rz Q)
theorem t_X4_isUnlike_96 {l : Launch} {X : Nat → aw_Kt} {d : Nat} {Q : Option Value → aw_H → Prop} : aw_Sn l m_X4_isUnlike none X d 0 0 Q 96 (k_X4_isUnlike_96 l X d Q) := by
  unfold k_X4_isUnlike_96
  exact s_iload_n dX4_isUnlike_96 rfl (s_zret dX4_isUnlike_97 rfl)
def k_X4_isUnlike_90 (l : Launch) (X : Nat → aw_Kt) (d : Nat) (Q : Option Value → aw_H → Prop) : aw_Kt := o_ii 3 1 (SW l m_X4_isUnlike none X d 0 0 Q 4)
theorem t_X4_isUnlike_90 {l : Launch} {X : Nat → aw_Kt} {d : Nat} {Q : Option Value → aw_H → Prop} : aw_Sn l m_X4_isUnlike none X d 0 0 Q 90 (k_X4_isUnlike_90 l X d Q) := by
  unfold k_X4_isUnlike_90
  exact s_iinc dX4_isUnlike_90 (by decide) (by decide) (s_goto dX4_isUnlike_93 (by decide) s_stop)
def k_X4_isUnlike_83 (l : Launch) (X : Nat → aw_Kt) (d : Nat) (Q : Option Value → aw_H → Prop) : aw_Kt := o_is 2 (o_ii 4 1 (SW l m_X4_isUnlike none X d 0 0 Q 15))
theorem t_X4_isUnlike_83 {l : Launch} {X : Nat → aw_Kt} {d : Nat} {Q : Option Value → aw_H → Prop} : aw_Sn l m_X4_isUnlike none X d 0 0 Q 83 (k_X4_isUnlike_83 l X d Q) := by
  unfold k_X4_isUnlike_83
  exact s_istore_n dX4_isUnlike_83 rfl (by decide) (s_iinc dX4_isUnlike_84 (by decide) (by decide) (s_goto dX4_isUnlike_87 (by decide) s_stop))
def k_X4_isUnlike_82 (l : Launch) (X : Nat → aw_Kt) (d : Nat) (Q : Option Value → aw_H → Prop) : aw_Kt := o_ic 0 (k_X4_isUnlike_83 l X d Q)
theorem t_X4_isUnlike_82 {l : Launch} {X : Nat → aw_Kt} {d : Nat} {Q : Option Value → aw_H → Prop} : aw_Sn l m_X4_isUnlike none X d 0 0 Q 82 (k_X4_isUnlike_82 l X d Q) := by
  unfold k_X4_isUnlike_82
  exact s_iconst dX4_isUnlike_82 (by decide) t_X4_isUnlike_83
def k_X4_isUnlike_78 (l : Launch) (X : Nat → aw_Kt) (d : Nat) (Q : Option Value → aw_H → Prop) : aw_Kt := o_ic 1 (k_X4_isUnlike_83 l X d Q)
theorem t_X4_isUnlike_78 {l : Launch} {X : Nat → aw_Kt} {d : Nat} {Q : Option Value → aw_H → Prop} : aw_Sn l m_X4_isUnlike none X d 0 0 Q 78 (k_X4_isUnlike_78 l X d Q) := by
  unfold k_X4_isUnlike_78
  exact s_iconst dX4_isUnlike_78 (by decide) (s_goto dX4_isUnlike_79 (by decide) t_X4_isUnlike_83)
def k_X4_isUnlike_15 (l : Launch) (X : Nat → aw_Kt) (d : Nat) (Q : Option Value → aw_H → Prop) : aw_Kt := o_il 4 (o_il 3 (o_i3 (fun x y => y ≤ x) (k_X4_isUnlike_90 l X d Q) (o_al 0 (o_il 3 (o_il 1 (o_cv l d m_X4_saysOf 4 2 (o_is 5 (o_al 0 (o_il 4 (o_il 1 (o_cv l d m_X4_saysOf 4 2 (o_is 6 (o_il 2 (o_if (fun x => x = 0) (o_al 0 (o_gf 4 14 (o_il 3 (o_ia 1 (o_if (fun x => x = 0) (k_X4_isUnlike_82 l X d Q) (o_al 0 (o_gf 4 14 (o_il 4 (o_ia 1 (o_if (fun x => x = 0) (k_X4_isUnlike_82 l X d Q) (o_il 5 (o_if (fun x => x < 0) (k_X4_isUnlike_82 l X d Q) (o_il 6 (o_if (fun x => x < 0) (k_X4_isUnlike_82 l X d Q) (o_il 5 (o_il 6 (o_i3 (fun x y => x = y) (k_X4_isUnlike_82 l X d Q) (k_X4_isUnlike_78 l X d Q)))))))))))))))))) (k_X4_isUnlike_78 l X d Q)))))))))))))))
theorem t_X4_isUnlike_15 {l : Launch} {X : Nat → aw_Kt} {d : Nat} {Q : Option Value → aw_H → Prop} : aw_Sn l m_X4_isUnlike none X d 0 0 Q 15 (k_X4_isUnlike_15 l X d Q) := by
  unfold k_X4_isUnlike_15
  exact s_iload dX4_isUnlike_15 (s_iload_n dX4_isUnlike_17 rfl (s_icmp_ge dX4_isUnlike_18 (by decide) t_X4_isUnlike_90 (s_aload_n dX4_isUnlike_21 rfl (s_iload_n dX4_isUnlike_22 rfl (s_iload_n dX4_isUnlike_23 rfl (s_cv dX4_isUnlike_24 rfl (by decide) w_116 wi_X4_saysOf ws_X4_saysOf w_96 wc_X4_saysOf wd_X4_saysOf (s_istore dX4_isUnlike_27 (by decide) (s_aload_n dX4_isUnlike_29 rfl (s_iload dX4_isUnlike_30 (s_iload_n dX4_isUnlike_32 rfl (s_cv dX4_isUnlike_33 rfl (by decide) w_116 wi_X4_saysOf ws_X4_saysOf w_96 wc_X4_saysOf wd_X4_saysOf (s_istore dX4_isUnlike_36 (by decide) (s_iload_n dX4_isUnlike_38 rfl (s_if_ne dX4_isUnlike_39 (by decide) (s_aload_n dX4_isUnlike_42 rfl (s_getf dX4_isUnlike_43 rfl u_X4 (by decide) w_114 (s_iload_n dX4_isUnlike_46 rfl (s_baload dX4_isUnlike_47 (s_if_eq dX4_isUnlike_48 (by decide) t_X4_isUnlike_82 (s_aload_n dX4_isUnlike_51 rfl (s_getf dX4_isUnlike_52 rfl u_X4 (by decide) w_114 (s_iload dX4_isUnlike_55 (s_baload dX4_isUnlike_57 (s_if_eq dX4_isUnlike_58 (by decide) t_X4_isUnlike_82 (s_iload dX4_isUnlike_61 (s_if_lt dX4_isUnlike_63 (by decide) t_X4_isUnlike_82 (s_iload dX4_isUnlike_66 (s_if_lt dX4_isUnlike_68 (by decide) t_X4_isUnlike_82 (s_iload dX4_isUnlike_71 (s_iload dX4_isUnlike_73 (s_icmp_eq dX4_isUnlike_75 (by decide) t_X4_isUnlike_82 t_X4_isUnlike_78))))))))))))))))) t_X4_isUnlike_78))))))))))))))
def k_X4_isUnlike_4 (l : Launch) (X : Nat → aw_Kt) (d : Nat) (Q : Option Value → aw_H → Prop) : aw_Kt := o_il 3 (o_al 0 (o_gf 4 9 (o_i3 (fun x y => y ≤ x) (k_X4_isUnlike_96 l X d Q) (o_ic 0 (o_is 4 (SW l m_X4_isUnlike none X d 0 0 Q 15))))))
theorem t_X4_isUnlike_4 {l : Launch} {X : Nat → aw_Kt} {d : Nat} {Q : Option Value → aw_H → Prop} : aw_Sn l m_X4_isUnlike none X d 0 0 Q 4 (k_X4_isUnlike_4 l X d Q) := by
  unfold k_X4_isUnlike_4
  exact s_iload_n dX4_isUnlike_4 rfl (s_aload_n dX4_isUnlike_5 rfl (s_getf dX4_isUnlike_6 rfl u_X4 (by decide) w_110 (s_icmp_ge dX4_isUnlike_9 (by decide) t_X4_isUnlike_96 (s_iconst dX4_isUnlike_12 (by decide) (s_istore dX4_isUnlike_13 (by decide) s_stop)))))
def k_X4_isUnlike_0 (l : Launch) (X : Nat → aw_Kt) (d : Nat) (Q : Option Value → aw_H → Prop) : aw_Kt := o_ic 0 (o_is 2 (o_ic 0 (o_is 3 (SW l m_X4_isUnlike none X d 0 0 Q 4))))
theorem t_X4_isUnlike_0 {l : Launch} {X : Nat → aw_Kt} {d : Nat} {Q : Option Value → aw_H → Prop} : aw_Sn l m_X4_isUnlike none X d 0 0 Q 0 (k_X4_isUnlike_0 l X d Q) := by
  unfold k_X4_isUnlike_0
  exact s_iconst dX4_isUnlike_0 (by decide) (s_istore_n dX4_isUnlike_1 rfl (by decide) (s_iconst dX4_isUnlike_2 (by decide) (s_istore_n dX4_isUnlike_3 rfl (by decide) s_stop)))
/-! X4_about -/
def k_X4_about_170 (l : Launch) (X : Nat → aw_Kt) (d : Nat) (Q : Option Value → aw_H → Prop) : aw_Kt := o_il 2 (o_ri Q)
theorem t_X4_about_170 {l : Launch} {X : Nat → aw_Kt} {d : Nat} {Q : Option Value → aw_H → Prop} : aw_Sn l m_X4_about none X d 0 0 Q 170 (k_X4_about_170 l X d Q) := by
  unfold k_X4_about_170
  exact s_iload_n dX4_about_170 rfl (s_iret dX4_about_171 rfl)
def k_X4_about_162 (l : Launch) (X : Nat → aw_Kt) (d : Nat) (Q : Option Value → aw_H → Prop) : aw_Kt := o_ib (fun x y => x + y) (o_is 2 (o_ii 3 1 (SW l m_X4_about none X d 0 0 Q 136)))
theorem t_X4_about_162 {l : Launch} {X : Nat → aw_Kt} {d : Nat} {Q : Option Value → aw_H → Prop} : aw_Sn l m_X4_about none X d 0 0 Q 162 (k_X4_about_162 l X d Q) := by
  unfold k_X4_about_162
  exact s_iadd dX4_about_162 (s_istore_n dX4_about_163 rfl (by decide) (s_iinc dX4_about_164 (by decide) (by decide) (s_goto dX4_about_167 (by decide) s_stop)))
def k_X4_about_161 (l : Launch) (X : Nat → aw_Kt) (d : Nat) (Q : Option Value → aw_H → Prop) : aw_Kt := o_ic 0 (k_X4_about_162 l X d Q)
theorem t_X4_about_161 {l : Launch} {X : Nat → aw_Kt} {d : Nat} {Q : Option Value → aw_H → Prop} : aw_Sn l m_X4_about none X d 0 0 Q 161 (k_X4_about_161 l X d Q) := by
  unfold k_X4_about_161
  exact s_iconst dX4_about_161 (by decide) t_X4_about_162
def k_X4_about_136 (l : Launch) (X : Nat → aw_Kt) (d : Nat) (Q : Option Value → aw_H → Prop) : aw_Kt := o_il 3 (o_ic 8 (o_i3 (fun x y => y ≤ x) (k_X4_about_170 l X d Q) (o_il 2 (o_il 1 (o_ic 6 (o_i3 (fun x y => x = y) (o_al 0 (o_il 3 (o_cv l d m_X4_isBarred 4 1 (o_if (fun x => x = 0) (k_X4_about_161 l X d Q) (o_ic 1 (k_X4_about_162 l X d Q)))))) (k_X4_about_161 l X d Q)))))))
theorem t_X4_about_136 {l : Launch} {X : Nat → aw_Kt} {d : Nat} {Q : Option Value → aw_H → Prop} : aw_Sn l m_X4_about none X d 0 0 Q 136 (k_X4_about_136 l X d Q) := by
  unfold k_X4_about_136
  exact s_iload_n dX4_about_136 rfl (s_bipush dX4_about_137 (by decide) (s_icmp_ge dX4_about_139 (by decide) t_X4_about_170 (s_iload_n dX4_about_142 rfl (s_iload_n dX4_about_143 rfl (s_bipush dX4_about_144 (by decide) (s_icmp_ne dX4_about_146 (by decide) (s_aload_n dX4_about_149 rfl (s_iload_n dX4_about_150 rfl (s_cv dX4_about_151 rfl (by decide) w_107 wi_X4_isBarred ws_X4_isBarred w_96 wc_X4_isBarred wd_X4_isBarred (s_if_eq dX4_about_154 (by decide) t_X4_about_161 (s_iconst dX4_about_157 (by decide) (s_goto dX4_about_158 (by decide) t_X4_about_162)))))) t_X4_about_161))))))
def k_X4_about_134 (l : Launch) (X : Nat → aw_Kt) (d : Nat) (Q : Option Value → aw_H → Prop) : aw_Kt := o_ic 0 (o_is 3 (SW l m_X4_about none X d 0 0 Q 136))
theorem t_X4_about_134 {l : Launch} {X : Nat → aw_Kt} {d : Nat} {Q : Option Value → aw_H → Prop} : aw_Sn l m_X4_about none X d 0 0 Q 134 (k_X4_about_134 l X d Q) := by
  unfold k_X4_about_134
  exact s_iconst dX4_about_134 (by decide) (s_istore_n dX4_about_135 rfl (by decide) s_stop)
def k_X4_about_126 (l : Launch) (X : Nat → aw_Kt) (d : Nat) (Q : Option Value → aw_H → Prop) : aw_Kt := o_ib (fun x y => x + y) (o_is 2 (o_ii 3 1 (SW l m_X4_about none X d 0 0 Q 52)))
theorem t_X4_about_126 {l : Launch} {X : Nat → aw_Kt} {d : Nat} {Q : Option Value → aw_H → Prop} : aw_Sn l m_X4_about none X d 0 0 Q 126 (k_X4_about_126 l X d Q) := by
  unfold k_X4_about_126
  exact s_iadd dX4_about_126 (s_istore_n dX4_about_127 rfl (by decide) (s_iinc dX4_about_128 (by decide) (by decide) (s_goto dX4_about_131 (by decide) s_stop)))
def k_X4_about_125 (l : Launch) (X : Nat → aw_Kt) (d : Nat) (Q : Option Value → aw_H → Prop) : aw_Kt := o_ic 0 (k_X4_about_126 l X d Q)
theorem t_X4_about_125 {l : Launch} {X : Nat → aw_Kt} {d : Nat} {Q : Option Value → aw_H → Prop} : aw_Sn l m_X4_about none X d 0 0 Q 125 (k_X4_about_125 l X d Q) := by
  unfold k_X4_about_125
  exact s_iconst dX4_about_125 (by decide) t_X4_about_126
def k_X4_about_121 (l : Launch) (X : Nat → aw_Kt) (d : Nat) (Q : Option Value → aw_H → Prop) : aw_Kt := o_ic 1 (k_X4_about_126 l X d Q)
theorem t_X4_about_121 {l : Launch} {X : Nat → aw_Kt} {d : Nat} {Q : Option Value → aw_H → Prop} : aw_Sn l m_X4_about none X d 0 0 Q 121 (k_X4_about_121 l X d Q) := by
  unfold k_X4_about_121
  exact s_iconst dX4_about_121 (by decide) (s_goto dX4_about_122 (by decide) t_X4_about_126)
def k_X4_about_107 (l : Launch) (X : Nat → aw_Kt) (d : Nat) (Q : Option Value → aw_H → Prop) : aw_Kt := o_il 1 (o_ic 7 (o_i3 (fun x y => x = y) (o_al 0 (o_il 3 (o_cv l d m_X4_isUnlike 4 1 (o_if (fun x => x = 0) (k_X4_about_125 l X d Q) (k_X4_about_121 l X d Q))))) (k_X4_about_125 l X d Q)))
theorem t_X4_about_107 {l : Launch} {X : Nat → aw_Kt} {d : Nat} {Q : Option Value → aw_H → Prop} : aw_Sn l m_X4_about none X d 0 0 Q 107 (k_X4_about_107 l X d Q) := by
  unfold k_X4_about_107
  exact s_iload_n dX4_about_107 rfl (s_bipush dX4_about_108 (by decide) (s_icmp_ne dX4_about_110 (by decide) (s_aload_n dX4_about_113 rfl (s_iload_n dX4_about_114 rfl (s_cv dX4_about_115 rfl (by decide) w_129 wi_X4_isUnlike ws_X4_isUnlike w_96 wc_X4_isUnlike wd_X4_isUnlike (s_if_eq dX4_about_118 (by decide) t_X4_about_125 t_X4_about_121)))) t_X4_about_125))
def k_X4_about_92 (l : Launch) (X : Nat → aw_Kt) (d : Nat) (Q : Option Value → aw_H → Prop) : aw_Kt := o_il 1 (o_ic 4 (o_i3 (fun x y => x = y) (o_al 0 (o_gf 4 4 (o_il 3 (o_ia 0 (o_ic (-1) (o_i3 (fun x y => x = y) (k_X4_about_107 l X d Q) (k_X4_about_121 l X d Q))))))) (k_X4_about_107 l X d Q)))
theorem t_X4_about_92 {l : Launch} {X : Nat → aw_Kt} {d : Nat} {Q : Option Value → aw_H → Prop} : aw_Sn l m_X4_about none X d 0 0 Q 92 (k_X4_about_92 l X d Q) := by
  unfold k_X4_about_92
  exact s_iload_n dX4_about_92 rfl (s_iconst dX4_about_93 (by decide) (s_icmp_ne dX4_about_94 (by decide) (s_aload_n dX4_about_97 rfl (s_getf dX4_about_98 rfl u_X4 (by decide) w_99 (s_iload_n dX4_about_101 rfl (s_iaload dX4_about_102 (s_iconst dX4_about_103 (by decide) (s_icmp_ne dX4_about_104 (by decide) t_X4_about_107 t_X4_about_121)))))) t_X4_about_107))
def k_X4_about_75 (l : Launch) (X : Nat → aw_Kt) (d : Nat) (Q : Option Value → aw_H → Prop) : aw_Kt := o_ib (fun x y => x + y) (o_is 2 (o_il 2 (o_il 1 (o_ic 3 (o_i3 (fun x y => x = y) (o_al 0 (o_il 3 (o_cv l d m_X4_decidedOf 4 1 (o_ic (-1) (o_i3 (fun x y => x = y) (k_X4_about_92 l X d Q) (k_X4_about_121 l X d Q)))))) (k_X4_about_92 l X d Q))))))
theorem t_X4_about_75 {l : Launch} {X : Nat → aw_Kt} {d : Nat} {Q : Option Value → aw_H → Prop} : aw_Sn l m_X4_about none X d 0 0 Q 75 (k_X4_about_75 l X d Q) := by
  unfold k_X4_about_75
  exact s_iadd dX4_about_75 (s_istore_n dX4_about_76 rfl (by decide) (s_iload_n dX4_about_77 rfl (s_iload_n dX4_about_78 rfl (s_iconst dX4_about_79 (by decide) (s_icmp_ne dX4_about_80 (by decide) (s_aload_n dX4_about_83 rfl (s_iload_n dX4_about_84 rfl (s_cv dX4_about_85 rfl (by decide) w_122 wi_X4_decidedOf ws_X4_decidedOf w_96 wc_X4_decidedOf wd_X4_decidedOf (s_iconst dX4_about_88 (by decide) (s_icmp_ne dX4_about_89 (by decide) t_X4_about_92 t_X4_about_121))))) t_X4_about_92)))))
def k_X4_about_74 (l : Launch) (X : Nat → aw_Kt) (d : Nat) (Q : Option Value → aw_H → Prop) : aw_Kt := o_ic 0 (k_X4_about_75 l X d Q)
theorem t_X4_about_74 {l : Launch} {X : Nat → aw_Kt} {d : Nat} {Q : Option Value → aw_H → Prop} : aw_Sn l m_X4_about none X d 0 0 Q 74 (k_X4_about_74 l X d Q) := by
  unfold k_X4_about_74
  exact s_iconst dX4_about_74 (by decide) t_X4_about_75
def k_X4_about_52 (l : Launch) (X : Nat → aw_Kt) (d : Nat) (Q : Option Value → aw_H → Prop) : aw_Kt := o_il 3 (o_al 0 (o_gf 4 1 (o_i3 (fun x y => y ≤ x) (k_X4_about_134 l X d Q) (o_il 2 (o_il 1 (o_ic 1 (o_i3 (fun x y => x = y) (o_al 0 (o_il 3 (o_cv l d m_X4_labellings 4 1 (k_X4_about_75 l X d Q)))) (k_X4_about_74 l X d Q))))))))
theorem t_X4_about_52 {l : Launch} {X : Nat → aw_Kt} {d : Nat} {Q : Option Value → aw_H → Prop} : aw_Sn l m_X4_about none X d 0 0 Q 52 (k_X4_about_52 l X d Q) := by
  unfold k_X4_about_52
  exact s_iload_n dX4_about_52 rfl (s_aload_n dX4_about_53 rfl (s_getf dX4_about_54 rfl u_X4 (by decide) w_95 (s_icmp_ge dX4_about_57 (by decide) t_X4_about_134 (s_iload_n dX4_about_60 rfl (s_iload_n dX4_about_61 rfl (s_iconst dX4_about_62 (by decide) (s_icmp_ne dX4_about_63 (by decide) (s_aload_n dX4_about_66 rfl (s_iload_n dX4_about_67 rfl (s_cv dX4_about_68 rfl (by decide) w_128 wi_X4_labellings ws_X4_labellings w_96 wc_X4_labellings wd_X4_labellings (s_goto dX4_about_71 (by decide) t_X4_about_75)))) t_X4_about_74)))))))
def k_X4_about_49 (l : Launch) (X : Nat → aw_Kt) (d : Nat) (Q : Option Value → aw_H → Prop) : aw_Kt := o_is 2 (o_ic 0 (o_is 3 (SW l m_X4_about none X d 0 0 Q 52)))
theorem t_X4_about_49 {l : Launch} {X : Nat → aw_Kt} {d : Nat} {Q : Option Value → aw_H → Prop} : aw_Sn l m_X4_about none X d 0 0 Q 49 (k_X4_about_49 l X d Q) := by
  unfold k_X4_about_49
  exact s_istore_n dX4_about_49 rfl (by decide) (s_iconst dX4_about_50 (by decide) (s_istore_n dX4_about_51 rfl (by decide) s_stop))
def k_X4_about_48 (l : Launch) (X : Nat → aw_Kt) (d : Nat) (Q : Option Value → aw_H → Prop) : aw_Kt := o_ic 0 (k_X4_about_49 l X d Q)
theorem t_X4_about_48 {l : Launch} {X : Nat → aw_Kt} {d : Nat} {Q : Option Value → aw_H → Prop} : aw_Sn l m_X4_about none X d 0 0 Q 48 (k_X4_about_48 l X d Q) := by
  unfold k_X4_about_48
  exact s_iconst dX4_about_48 (by decide) t_X4_about_49
def k_X4_about_36 (l : Launch) (X : Nat → aw_Kt) (d : Nat) (Q : Option Value → aw_H → Prop) : aw_Kt := o_il 1 (o_ic 5 (o_i3 (fun x y => x = y) (o_al 0 (o_gf 4 5 (k_X4_about_49 l X d Q))) (k_X4_about_48 l X d Q)))
theorem t_X4_about_36 {l : Launch} {X : Nat → aw_Kt} {d : Nat} {Q : Option Value → aw_H → Prop} : aw_Sn l m_X4_about none X d 0 0 Q 36 (k_X4_about_36 l X d Q) := by
  unfold k_X4_about_36
  exact s_iload_n dX4_about_36 rfl (s_iconst dX4_about_37 (by decide) (s_icmp_ne dX4_about_38 (by decide) (s_aload_n dX4_about_41 rfl (s_getf dX4_about_42 rfl u_X4 (by decide) w_103 (s_goto dX4_about_45 (by decide) t_X4_about_49))) t_X4_about_48))
def k_X4_about_24 (l : Launch) (X : Nat → aw_Kt) (d : Nat) (Q : Option Value → aw_H → Prop) : aw_Kt := o_il 1 (o_ic 2 (o_i3 (fun x y => x = y) (o_al 0 (o_gf 4 9 (k_X4_about_49 l X d Q))) (k_X4_about_36 l X d Q)))
theorem t_X4_about_24 {l : Launch} {X : Nat → aw_Kt} {d : Nat} {Q : Option Value → aw_H → Prop} : aw_Sn l m_X4_about none X d 0 0 Q 24 (k_X4_about_24 l X d Q) := by
  unfold k_X4_about_24
  exact s_iload_n dX4_about_24 rfl (s_iconst dX4_about_25 (by decide) (s_icmp_ne dX4_about_26 (by decide) (s_aload_n dX4_about_29 rfl (s_getf dX4_about_30 rfl u_X4 (by decide) w_110 (s_goto dX4_about_33 (by decide) t_X4_about_49))) t_X4_about_36))
def k_X4_about_13 (l : Launch) (X : Nat → aw_Kt) (d : Nat) (Q : Option Value → aw_H → Prop) : aw_Kt := o_il 1 (o_if (fun x => x = 0) (o_al 0 (o_gf 4 1 (k_X4_about_49 l X d Q))) (k_X4_about_24 l X d Q))
theorem t_X4_about_13 {l : Launch} {X : Nat → aw_Kt} {d : Nat} {Q : Option Value → aw_H → Prop} : aw_Sn l m_X4_about none X d 0 0 Q 13 (k_X4_about_13 l X d Q) := by
  unfold k_X4_about_13
  exact s_iload_n dX4_about_13 rfl (s_if_ne dX4_about_14 (by decide) (s_aload_n dX4_about_17 rfl (s_getf dX4_about_18 rfl u_X4 (by decide) w_95 (s_goto dX4_about_21 (by decide) t_X4_about_49))) t_X4_about_24)
def k_X4_about_0 (l : Launch) (X : Nat → aw_Kt) (d : Nat) (Q : Option Value → aw_H → Prop) : aw_Kt := o_il 1 (o_ic 0 (o_ic 7 (o_cs l d m_X4_in 3 (o_if (fun x => x = 0) (o_ic (-102) (o_ri Q)) (k_X4_about_13 l X d Q)))))
theorem t_X4_about_0 {l : Launch} {X : Nat → aw_Kt} {d : Nat} {Q : Option Value → aw_H → Prop} : aw_Sn l m_X4_about none X d 0 0 Q 0 (k_X4_about_0 l X d Q) := by
  unfold k_X4_about_0
  exact s_iload_n dX4_about_0 rfl (s_iconst dX4_about_1 (by decide) (s_bipush dX4_about_2 (by decide) (s_cs dX4_about_4 (by decide) w_97 wt_X4_in w_96 wc_X4_in wd_X4_in (s_if_ne dX4_about_7 (by decide) (s_bipush dX4_about_10 (by decide) (s_iret dX4_about_12 rfl)) t_X4_about_13))))
