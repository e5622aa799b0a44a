/-! the law behind its wrappers: words and blocks -/
theorem wc_X4_says : Jvm.Cond.code m_X4_says.1 m_X4_says.2.1 m_X4_says.2.2.1 m_X4_says.2.2.2 ∈ aw_B := aw_in (by decide +kernel) (by decide +kernel)
theorem wi_X4_says : Jvm.Cond.instanceMethod yX4_says ∈ aw_B := aw_in (by decide +kernel) (by decide +kernel)
theorem ws_X4_says : Jvm.Cond.selects RX4 yX4_says yX4_says ∈ aw_B := aw_in (by decide +kernel) (by decide +kernel)
theorem wd_X4_says : yX4_says.cls ≠ "java/lang/invoke/MethodHandle" ∧ yX4_says.cls ≠ "java/lang/invoke/VarHandle" ∧ (parseMethodDescriptor yX4_says.desc).map (fun d => d.parameters.length) = some 2 := by decide +kernel
theorem wc_X4_agree : Jvm.Cond.code m_X4_agree.1 m_X4_agree.2.1 m_X4_agree.2.2.1 m_X4_agree.2.2.2 ∈ aw_B := aw_in (by decide +kernel) (by decide +kernel)
theorem wi_X4_agree : Jvm.Cond.instanceMethod yX4_agree ∈ aw_B := aw_in (by decide +kernel) (by decide +kernel)
theorem ws_X4_agree : Jvm.Cond.selects RX4 yX4_agree yX4_agree ∈ aw_B := aw_in (by decide +kernel) (by decide +kernel)
theorem wd_X4_agree : yX4_agree.cls ≠ "java/lang/invoke/MethodHandle" ∧ yX4_agree.cls ≠ "java/lang/invoke/VarHandle" ∧ (parseMethodDescriptor yX4_agree.desc).map (fun d => d.parameters.length) = some 3 := by decide +kernel
theorem wc_X4_all : Jvm.Cond.code m_X4_all.1 m_X4_all.2.1 m_X4_all.2.2.1 m_X4_all.2.2.2 ∈ aw_B := aw_in (by decide +kernel) (by decide +kernel)
theorem wi_X4_all : Jvm.Cond.instanceMethod yX4_all ∈ aw_B := aw_in (by decide +kernel) (by decide +kernel)
theorem ws_X4_all : Jvm.Cond.selects RX4 yX4_all yX4_all ∈ aw_B := aw_in (by decide +kernel) (by decide +kernel)
theorem wd_X4_all : yX4_all.cls ≠ "java/lang/invoke/MethodHandle" ∧ yX4_all.cls ≠ "java/lang/invoke/VarHandle" ∧ (parseMethodDescriptor yX4_all.desc).map (fun d => d.parameters.length) = some 1 := by decide +kernel
theorem wc_X4_thrown : Jvm.Cond.code m_X4_thrown.1 m_X4_thrown.2.1 m_X4_thrown.2.2.1 m_X4_thrown.2.2.2 ∈ aw_B := aw_in (by decide +kernel) (by decide +kernel)
theorem wi_X4_thrown : Jvm.Cond.instanceMethod yX4_thrown ∈ aw_B := aw_in (by decide +kernel) (by decide +kernel)
theorem ws_X4_thrown : Jvm.Cond.selects RX4 yX4_thrown yX4_thrown ∈ aw_B := aw_in (by decide +kernel) (by decide +kernel)
theorem wd_X4_thrown : yX4_thrown.cls ≠ "java/lang/invoke/MethodHandle" ∧ yX4_thrown.cls ≠ "java/lang/invoke/VarHandle" ∧ (parseMethodDescriptor yX4_thrown.desc).map (fun d => d.parameters.length) = some 0 := by decide +kernel
theorem v_80 : Jvm.Cond.methodLink RL 80 yX4_says ∈ aw_B := aw_in (by decide +kernel) (by decide +kernel)
theorem v_104 : Jvm.Cond.methodLink RL 104 yX4_agree ∈ aw_B := aw_in (by decide +kernel) (by decide +kernel)
theorem v_108 : Jvm.Cond.methodLink RL 108 yX4_all ∈ aw_B := aw_in (by decide +kernel) (by decide +kernel)
theorem v_81 : Jvm.Cond.methodLink RL 81 yX4_thrown ∈ aw_B := aw_in (by decide +kernel) (by decide +kernel)
theorem v_75 : Jvm.Cond.methodLink RL 75 yL_says ∈ aw_B := aw_in (by decide +kernel) (by decide +kernel)
theorem vt_says : Jvm.Cond.static yL_says ∈ aw_B := aw_in (by decide +kernel) (by decide +kernel)
theorem vc_says : Jvm.Cond.codeWith m_L_says.1 m_L_says.2.1 m_L_says.2.2.1 m_L_says.2.2.2 hh_says ∈ aw_B := aw_in (by decide +kernel) (by decide +kernel)
theorem v_101 : Jvm.Cond.methodLink RL 101 yL_agree ∈ aw_B := aw_in (by decide +kernel) (by decide +kernel)
theorem vt_agree : Jvm.Cond.static yL_agree ∈ aw_B := aw_in (by decide +kernel) (by decide +kernel)
theorem vc_agree : Jvm.Cond.codeWith m_L_agree.1 m_L_agree.2.1 m_L_agree.2.2.1 m_L_agree.2.2.2 hh_agree ∈ aw_B := aw_in (by decide +kernel) (by decide +kernel)
theorem v_105 : Jvm.Cond.methodLink RL 105 yL_all ∈ aw_B := aw_in (by decide +kernel) (by decide +kernel)
theorem vt_all : Jvm.Cond.static yL_all ∈ aw_B := aw_in (by decide +kernel) (by decide +kernel)
theorem vc_all : Jvm.Cond.codeWith m_L_all.1 m_L_all.2.1 m_L_all.2.2.1 m_L_all.2.2.2 hh_all ∈ aw_B := aw_in (by decide +kernel) (by decide +kernel)
theorem v_RL : Jvm.Cond.initialized RL ∈ aw_B := aw_in (by decide +kernel) (by decide +kernel)
def k_L_law_595 (l : Launch) (xl : Option (Nat × (Nat → Int32))) (X : Nat → aw_Kt) (d kc ks : Nat) (Q : Option Value → aw_H → Prop) : aw_Kt := o_is 5 (o_al 2 (o_al 0 (o_il 4 (o_ic 1 (o_ib (fun x y => x + y) (o_sa xl (o_al 0 (o_il 4 (o_ic 2 (o_ib (fun x y => x + y) (o_sa xl (o_cv l d m_X4_says 4 2 (o_is 6 (o_al 2 (o_cv l d m_X4_thrown 4 0 (o_il 5 (o_i3 (fun x y => x = y) (k_L_law_626 l xl X d kc ks Q) (o_ic 0 (o_rz Q)))))))))))))))))))
theorem t_L_law_595 {l : Launch} {xl : Option (Nat × (Nat → Int32))} {X : Nat → aw_Kt} {d kc ks : Nat} {Q : Option Value → aw_H → Prop} : aw_Sn l m_L_law xl X d kc ks Q 595 (k_L_law_595 l xl X d kc ks Q) := by
  unfold k_L_law_595
  exact s_istore dL_law_595 (by decide) (s_aload_n dL_law_597 rfl (s_aload_n dL_law_598 rfl (s_iload dL_law_599 (s_iconst dL_law_601 (by decide) (s_iadd dL_law_602 (s_sld dL_law_603 (s_aload_n dL_law_604 rfl (s_iload dL_law_605 (s_iconst dL_law_607 (by decide) (s_iadd dL_law_608 (s_sld dL_law_609 (s_cv dL_law_610 rfl (by decide) v_80 wi_X4_says ws_X4_says w_96 wc_X4_says wd_X4_says (s_istore dL_law_613 (by decide) (s_aload_n dL_law_615 rfl (s_cv dL_law_616 rfl (by decide) v_81 wi_X4_thrown ws_X4_thrown w_96 wc_X4_thrown wd_X4_thrown (s_iload dL_law_619 (s_icmp_eq dL_law_621 (by decide) t_L_law_626 (s_iconst dL_law_624 (by decide) (s_zret dL_law_625 rfl)))))))))))))))))))
def k_L_law_781 (l : Launch) (xl : Option (Nat × (Nat → Int32))) (X : Nat → aw_Kt) (d kc ks : Nat) (Q : Option Value → aw_H → Prop) : aw_Kt := o_is 5 (o_al 2 (o_al 0 (o_il 4 (o_ic 1 (o_ib (fun x y => x + y) (o_sa xl (o_al 0 (o_il 4 (o_ic 2 (o_ib (fun x y => x + y) (o_sa xl (o_al 0 (o_il 4 (o_ic 3 (o_ib (fun x y => x + y) (o_sa xl (o_cv l d m_X4_agree 4 3 (o_ls 6 (o_al 2 (o_cv l d m_X4_thrown 4 0 (o_il 5 (o_i3 (fun x y => x = y) (k_L_law_818 l xl X d kc ks Q) (o_ic 0 (o_rz Q))))))))))))))))))))))))
theorem t_L_law_781 {l : Launch} {xl : Option (Nat × (Nat → Int32))} {X : Nat → aw_Kt} {d kc ks : Nat} {Q : Option Value → aw_H → Prop} : aw_Sn l m_L_law xl X d kc ks Q 781 (k_L_law_781 l xl X d kc ks Q) := by
  unfold k_L_law_781
  exact s_istore dL_law_781 (by decide) (s_aload_n dL_law_783 rfl (s_aload_n dL_law_784 rfl (s_iload dL_law_785 (s_iconst dL_law_787 (by decide) (s_iadd dL_law_788 (s_sld dL_law_789 (s_aload_n dL_law_790 rfl (s_iload dL_law_791 (s_iconst dL_law_793 (by decide) (s_iadd dL_law_794 (s_sld dL_law_795 (s_aload_n dL_law_796 rfl (s_iload dL_law_797 (s_iconst dL_law_799 (by decide) (s_iadd dL_law_800 (s_sld dL_law_801 (s_cv dL_law_802 rfl (by decide) v_104 wi_X4_agree ws_X4_agree w_96 wc_X4_agree wd_X4_agree (s_lstore dL_law_805 (by decide) (s_aload_n dL_law_807 rfl (s_cv dL_law_808 rfl (by decide) v_81 wi_X4_thrown ws_X4_thrown w_96 wc_X4_thrown wd_X4_thrown (s_iload dL_law_811 (s_icmp_eq dL_law_813 (by decide) t_L_law_818 (s_iconst dL_law_816 (by decide) (s_zret dL_law_817 rfl))))))))))))))))))))))))
def k_L_law_848 (l : Launch) (xl : Option (Nat × (Nat → Int32))) (X : Nat → aw_Kt) (d kc ks : Nat) (Q : Option Value → aw_H → Prop) : aw_Kt := o_is 5 (o_al 2 (o_al 0 (o_il 4 (o_ic 1 (o_ib (fun x y => x + y) (o_sa xl (o_cv l d m_X4_all 4 1 (o_ls 6 (o_al 2 (o_cv l d m_X4_thrown 4 0 (o_il 5 (o_i3 (fun x y => x = y) (k_L_law_873 l xl X d kc ks Q) (o_ic 0 (o_rz Q))))))))))))))
theorem t_L_law_848 {l : Launch} {xl : Option (Nat × (Nat → Int32))} {X : Nat → aw_Kt} {d kc ks : Nat} {Q : Option Value → aw_H → Prop} : aw_Sn l m_L_law xl X d kc ks Q 848 (k_L_law_848 l xl X d kc ks Q) := by
  unfold k_L_law_848
  exact s_istore dL_law_848 (by decide) (s_aload_n dL_law_850 rfl (s_aload_n dL_law_851 rfl (s_iload dL_law_852 (s_iconst dL_law_854 (by decide) (s_iadd dL_law_855 (s_sld dL_law_856 (s_cv dL_law_857 rfl (by decide) v_108 wi_X4_all ws_X4_all w_96 wc_X4_all wd_X4_all (s_lstore dL_law_860 (by decide) (s_aload_n dL_law_862 rfl (s_cv dL_law_863 rfl (by decide) v_81 wi_X4_thrown ws_X4_thrown w_96 wc_X4_thrown wd_X4_thrown (s_iload dL_law_866 (s_icmp_eq dL_law_868 (by decide) t_L_law_873 (s_iconst dL_law_871 (by decide) (s_zret dL_law_872 rfl))))))))))))))
