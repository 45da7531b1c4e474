/-! ===== the law: its cases, on ===== -/
section Law2
variable {G : GG} {A : Nat → Prop} {p : Program} {l : Launch} {e : Env} {R : Room} {s : State} {mid : MethodId} {args : Array Value} {below : List Frame} {meth : Method} {c : Code} {cells slots : Nat} {Z : State → Prop} {σ : St} {L : Nat} {xs : Nat → Int32}
theorem law_19 {V : Vy} {i : Int} (hC : CX mL_law G A p R s mid args meth c) (hX : SQ mL_law G A s mid ∧ cells ≤ R.cells ∧ slots ≤ R.slots) (hY : SCX G A s L xs) (hL : L ≤ 3072) (hi : 0 ≤ i) (hi5 : i + 5 < (L : Int)) (hI : INV V σ) (kn : ∀ τ V, INV V τ → WL mL_law G A p l e R s mid args below meth c cells slots Z 1247 [vR 1000 0, vR 12 0, vR 14 0, vI i] [] τ) : WL mL_law G A p l e R s mid args below meth c cells slots Z 733 [vR 1000 0, vR 12 0, vR 14 0, vI i] [] σ := by
  refine wl_aload_n hC dL_law_733 rfl rfl ?_
  refine wl_aload_n hC dL_law_734 rfl rfl ?_
  refine wl_iload_n hC dL_law_735 rfl rfl ?_
  refine wl_iconst hC dL_law_736 rfl ?_
  refine wl_iadd hC dL_law_737 ?_ (h1 := by omega) (h2 := by omega)
  refine wl_sld hC hY dL_law_738 (by omega) (by omega) ?_
  refine wl_inv (N := mX11_radius) hC hX [vI (xs (i + 1).toNat).toInt] dL_law_739 ml_CustomValleyLaw_94 mvX11_radius rfl rfl rfl rfl rfl (Nat.le_of_ble_eq_true rfl) (Nat.le_of_ble_eq_true rfl) (by decide) (by decide) (by decide) (pr_radius hI) (fun y τ hy => ?_)
  refine wl_aload_n hC dL_law_742 rfl rfl ?_
  refine wl_aload_n hC dL_law_743 rfl rfl ?_
  refine wl_iload_n hC dL_law_744 rfl rfl ?_
  refine wl_iconst hC dL_law_745 rfl ?_
  refine wl_iadd hC dL_law_746 ?_ (h1 := by omega) (h2 := by omega)
  refine wl_sld hC hY dL_law_747 (by omega) (by omega) ?_
  refine wl_inv (QN := fun z υ => z = y ∧ ∃ V, INV V υ) (N := mX13_radius) hC hX [vI (xs (i + 1).toNat).toInt] dL_law_748 ml_CustomValleyLaw_97 mvX13_radius rfl rfl rfl rfl rfl (Nat.le_of_ble_eq_true rfl) (Nat.le_of_ble_eq_true rfl) (by decide) (by decide) (by decide) (WP.mono hy (fun r υ hr => ⟨y, hr.1, rfl, hr.2⟩)) (fun z υ hz => ?_)
  obtain ⟨V2, hV2⟩ := hz.2
  exact wl_icmp_eq hC (tgt := 1247) dL_law_751 (by decide) (fun _ => kn υ V2 hV2) (fun q => absurd hz.1.symm q)
theorem law_20 {V : Vy} {i : Int} (hC : CX mL_law G A p R s mid args meth c) (hX : SQ mL_law G A s mid ∧ cells ≤ R.cells ∧ slots ≤ R.slots) (hY : SCX G A s L xs) (hL : L ≤ 3072) (hi : 0 ≤ i) (hi5 : i + 5 < (L : Int)) (hI : INV V σ) (kn : ∀ τ V, INV V τ → WL mL_law G A p l e R s mid args below meth c cells slots Z 1247 [vR 1000 0, vR 12 0, vR 14 0, vI i] [] τ) : WL mL_law G A p l e R s mid args below meth c cells slots Z 756 [vR 1000 0, vR 12 0, vR 14 0, vI i] [] σ := by
  refine wl_aload_n hC dL_law_756 rfl rfl ?_
  refine wl_aload_n hC dL_law_757 rfl rfl ?_
  refine wl_iload_n hC dL_law_758 rfl rfl ?_
  refine wl_iconst hC dL_law_759 rfl ?_
  refine wl_iadd hC dL_law_760 ?_ (h1 := by omega) (h2 := by omega)
  refine wl_sld hC hY dL_law_761 (by omega) (by omega) ?_
  refine wl_inv (N := mX11_coradius) hC hX [vI (xs (i + 1).toNat).toInt] dL_law_762 ml_CustomValleyLaw_98 mvX11_coradius rfl rfl rfl rfl rfl (Nat.le_of_ble_eq_true rfl) (Nat.le_of_ble_eq_true rfl) (by decide) (by decide) (by decide) (pr_coradius hI) (fun y τ hy => ?_)
  refine wl_aload_n hC dL_law_765 rfl rfl ?_
  refine wl_aload_n hC dL_law_766 rfl rfl ?_
  refine wl_iload_n hC dL_law_767 rfl rfl ?_
  refine wl_iconst hC dL_law_768 rfl ?_
  refine wl_iadd hC dL_law_769 ?_ (h1 := by omega) (h2 := by omega)
  refine wl_sld hC hY dL_law_770 (by omega) (by omega) ?_
  refine wl_inv (QN := fun z υ => z = y ∧ ∃ V, INV V υ) (N := mX13_coradius) hC hX [vI (xs (i + 1).toNat).toInt] dL_law_771 ml_CustomValleyLaw_101 mvX13_coradius rfl rfl rfl rfl rfl (Nat.le_of_ble_eq_true rfl) (Nat.le_of_ble_eq_true rfl) (by decide) (by decide) (by decide) (WP.mono hy (fun r υ hr => ⟨y, hr.1, rfl, hr.2⟩)) (fun z υ hz => ?_)
  obtain ⟨V2, hV2⟩ := hz.2
  exact wl_icmp_eq hC (tgt := 1247) dL_law_774 (by decide) (fun _ => kn υ V2 hV2) (fun q => absurd hz.1.symm q)
theorem law_21 {V : Vy} {i : Int} (hC : CX mL_law G A p R s mid args meth c) (hX : SQ mL_law G A s mid ∧ cells ≤ R.cells ∧ slots ≤ R.slots) (hY : SCX G A s L xs) (hL : L ≤ 3072) (hi : 0 ≤ i) (hi5 : i + 5 < (L : Int)) (hI : INV V σ) (kn : ∀ τ V, INV V τ → WL mL_law G A p l e R s mid args below meth c cells slots Z 1247 [vR 1000 0, vR 12 0, vR 14 0, vI i] [] τ) : WL mL_law G A p l e R s mid args below meth c cells slots Z 779 [vR 1000 0, vR 12 0, vR 14 0, vI i] [] σ := by
  refine wl_aload_n hC dL_law_779 rfl rfl ?_
  refine wl_inv (N := mX11_shortly) hC hX [] dL_law_780 ml_CustomValleyLaw_102 mvX11_shortly rfl rfl rfl rfl rfl (Nat.le_of_ble_eq_true rfl) (Nat.le_of_ble_eq_true rfl) (by decide) (by decide) (by decide) (pr_shortly hI) (fun y τ hy => ?_)
  refine wl_aload_n hC dL_law_783 rfl rfl ?_
  refine wl_inv (QN := fun z υ => z = y ∧ ∃ V, INV V υ) (N := mX13_shortly) hC hX [] dL_law_784 ml_CustomValleyLaw_105 mvX13_shortly rfl rfl rfl rfl rfl (Nat.le_of_ble_eq_true rfl) (Nat.le_of_ble_eq_true rfl) (by decide) (by decide) (by decide) (WP.mono hy (fun r υ hr => ⟨y, hr.1, rfl, hr.2⟩)) (fun z υ hz => ?_)
  obtain ⟨V2, hV2⟩ := hz.2
  exact wl_icmp_eq hC (tgt := 1247) dL_law_787 (by decide) (fun _ => kn υ V2 hV2) (fun q => absurd hz.1.symm q)
theorem law_22 {V : Vy} {i : Int} (hC : CX mL_law G A p R s mid args meth c) (hX : SQ mL_law G A s mid ∧ cells ≤ R.cells ∧ slots ≤ R.slots) (hY : SCX G A s L xs) (hL : L ≤ 3072) (hi : 0 ≤ i) (hi5 : i + 5 < (L : Int)) (hI : INV V σ) (kn : ∀ τ V, INV V τ → WL mL_law G A p l e R s mid args below meth c cells slots Z 1247 [vR 1000 0, vR 12 0, vR 14 0, vI i] [] τ) : WL mL_law G A p l e R s mid args below meth c cells slots Z 792 [vR 1000 0, vR 12 0, vR 14 0, vI i] [] σ := by
  refine wl_aload_n hC dL_law_792 rfl rfl ?_
  refine wl_aload_n hC dL_law_793 rfl rfl ?_
  refine wl_iload_n hC dL_law_794 rfl rfl ?_
  refine wl_iconst hC dL_law_795 rfl ?_
  refine wl_iadd hC dL_law_796 ?_ (h1 := by omega) (h2 := by omega)
  refine wl_sld hC hY dL_law_797 (by omega) (by omega) ?_
  refine wl_aload_n hC dL_law_798 rfl rfl ?_
  refine wl_iload_n hC dL_law_799 rfl rfl ?_
  refine wl_iconst hC dL_law_800 rfl ?_
  refine wl_iadd hC dL_law_801 ?_ (h1 := by omega) (h2 := by omega)
  refine wl_sld hC hY dL_law_802 (by omega) (by omega) ?_
  refine wl_inv (N := mX11_carried) hC hX [vI (xs (i + 1).toNat).toInt, vI (xs (i + 2).toNat).toInt] dL_law_803 ml_CustomValleyLaw_106 mvX11_carried rfl rfl rfl rfl rfl (Nat.le_of_ble_eq_true rfl) (Nat.le_of_ble_eq_true rfl) (by decide) (by decide) (by decide) (pr_carried hI) (fun y τ hy => ?_)
  refine wl_aload_n hC dL_law_806 rfl rfl ?_
  refine wl_aload_n hC dL_law_807 rfl rfl ?_
  refine wl_iload_n hC dL_law_808 rfl rfl ?_
  refine wl_iconst hC dL_law_809 rfl ?_
  refine wl_iadd hC dL_law_810 ?_ (h1 := by omega) (h2 := by omega)
  refine wl_sld hC hY dL_law_811 (by omega) (by omega) ?_
  refine wl_aload_n hC dL_law_812 rfl rfl ?_
  refine wl_iload_n hC dL_law_813 rfl rfl ?_
  refine wl_iconst hC dL_law_814 rfl ?_
  refine wl_iadd hC dL_law_815 ?_ (h1 := by omega) (h2 := by omega)
  refine wl_sld hC hY dL_law_816 (by omega) (by omega) ?_
  refine wl_inv (QN := fun z υ => z = y ∧ ∃ V, INV V υ) (N := mX13_carried) hC hX [vI (xs (i + 1).toNat).toInt, vI (xs (i + 2).toNat).toInt] dL_law_817 ml_CustomValleyLaw_109 mvX13_carried rfl rfl rfl rfl rfl (Nat.le_of_ble_eq_true rfl) (Nat.le_of_ble_eq_true rfl) (by decide) (by decide) (by decide) (WP.mono hy (fun r υ hr => ⟨y, hr.1, rfl, hr.2⟩)) (fun z υ hz => ?_)
  obtain ⟨V2, hV2⟩ := hz.2
  exact wl_icmp_eq hC (tgt := 1247) dL_law_820 (by decide) (fun _ => kn υ V2 hV2) (fun q => absurd hz.1.symm q)
theorem law_23 {V : Vy} {i : Int} (hC : CX mL_law G A p R s mid args meth c) (hX : SQ mL_law G A s mid ∧ cells ≤ R.cells ∧ slots ≤ R.slots) (hY : SCX G A s L xs) (hL : L ≤ 3072) (hi : 0 ≤ i) (hi5 : i + 5 < (L : Int)) (hI : INV V σ) (kn : ∀ τ V, INV V τ → WL mL_law G A p l e R s mid args below meth c cells slots Z 1247 [vR 1000 0, vR 12 0, vR 14 0, vI i] [] τ) : WL mL_law G A p l e R s mid args below meth c cells slots Z 825 [vR 1000 0, vR 12 0, vR 14 0, vI i] [] σ := by
  refine wl_aload_n hC dL_law_825 rfl rfl ?_
  refine wl_aload_n hC dL_law_826 rfl rfl ?_
  refine wl_iload_n hC dL_law_827 rfl rfl ?_
  refine wl_iconst hC dL_law_828 rfl ?_
  refine wl_iadd hC dL_law_829 ?_ (h1 := by omega) (h2 := by omega)
  refine wl_sld hC hY dL_law_830 (by omega) (by omega) ?_
  refine wl_inv (N := mX11_bound) hC hX [vI (xs (i + 1).toNat).toInt] dL_law_831 ml_CustomValleyLaw_110 mvX11_bound rfl rfl rfl rfl rfl (Nat.le_of_ble_eq_true rfl) (Nat.le_of_ble_eq_true rfl) (by decide) (by decide) (by decide) (pr_bound hI) (fun y τ hy => ?_)
  refine wl_aload_n hC dL_law_834 rfl rfl ?_
  refine wl_aload_n hC dL_law_835 rfl rfl ?_
  refine wl_iload_n hC dL_law_836 rfl rfl ?_
  refine wl_iconst hC dL_law_837 rfl ?_
  refine wl_iadd hC dL_law_838 ?_ (h1 := by omega) (h2 := by omega)
  refine wl_sld hC hY dL_law_839 (by omega) (by omega) ?_
  refine wl_inv (QN := fun z υ => z = y ∧ ∃ V, INV V υ) (N := mX13_bound) hC hX [vI (xs (i + 1).toNat).toInt] dL_law_840 ml_CustomValleyLaw_113 mvX13_bound rfl rfl rfl rfl rfl (Nat.le_of_ble_eq_true rfl) (Nat.le_of_ble_eq_true rfl) (by decide) (by decide) (by decide) (WP.mono hy (fun r υ hr => ⟨y, hr.1, rfl, hr.2⟩)) (fun z υ hz => ?_)
  obtain ⟨V2, hV2⟩ := hz.2
  exact wl_icmp_eq hC (tgt := 1247) dL_law_843 (by decide) (fun _ => kn υ V2 hV2) (fun q => absurd hz.1.symm q)
theorem law_24 {V : Vy} {i : Int} (hC : CX mL_law G A p R s mid args meth c) (hX : SQ mL_law G A s mid ∧ cells ≤ R.cells ∧ slots ≤ R.slots) (hY : SCX G A s L xs) (hL : L ≤ 3072) (hi : 0 ≤ i) (hi5 : i + 5 < (L : Int)) (hI : INV V σ) (kn : ∀ τ V, INV V τ → WL mL_law G A p l e R s mid args below meth c cells slots Z 1247 [vR 1000 0, vR 12 0, vR 14 0, vI i] [] τ) : WL mL_law G A p l e R s mid args below meth c cells slots Z 848 [vR 1000 0, vR 12 0, vR 14 0, vI i] [] σ := by
  refine wl_aload_n hC dL_law_848 rfl rfl ?_
  refine wl_aload_n hC dL_law_849 rfl rfl ?_
  refine wl_iload_n hC dL_law_850 rfl rfl ?_
  refine wl_iconst hC dL_law_851 rfl ?_
  refine wl_iadd hC dL_law_852 ?_ (h1 := by omega) (h2 := by omega)
  refine wl_sld hC hY dL_law_853 (by omega) (by omega) ?_
  refine wl_inv (N := mX11_gift) hC hX [vI (xs (i + 1).toNat).toInt] dL_law_854 ml_CustomValleyLaw_114 mvX11_gift rfl rfl rfl rfl rfl (Nat.le_of_ble_eq_true rfl) (Nat.le_of_ble_eq_true rfl) (by decide) (by decide) (by decide) (pr_gift hI) (fun y τ hy => ?_)
  refine wl_aload_n hC dL_law_857 rfl rfl ?_
  refine wl_aload_n hC dL_law_858 rfl rfl ?_
  refine wl_iload_n hC dL_law_859 rfl rfl ?_
  refine wl_iconst hC dL_law_860 rfl ?_
  refine wl_iadd hC dL_law_861 ?_ (h1 := by omega) (h2 := by omega)
  refine wl_sld hC hY dL_law_862 (by omega) (by omega) ?_
  refine wl_inv (QN := fun z υ => z = y ∧ ∃ V, INV V υ) (N := mX13_gift) hC hX [vI (xs (i + 1).toNat).toInt] dL_law_863 ml_CustomValleyLaw_117 mvX13_gift rfl rfl rfl rfl rfl (Nat.le_of_ble_eq_true rfl) (Nat.le_of_ble_eq_true rfl) (by decide) (by decide) (by decide) (WP.mono hy (fun r υ hr => ⟨y, hr.1, rfl, hr.2⟩)) (fun z υ hz => ?_)
  obtain ⟨V2, hV2⟩ := hz.2
  exact wl_icmp_eq hC (tgt := 1247) dL_law_866 (by decide) (fun _ => kn υ V2 hV2) (fun q => absurd hz.1.symm q)
theorem law_25 {V : Vy} {i : Int} (hC : CX mL_law G A p R s mid args meth c) (hX : SQ mL_law G A s mid ∧ cells ≤ R.cells ∧ slots ≤ R.slots) (hY : SCX G A s L xs) (hL : L ≤ 3072) (hi : 0 ≤ i) (hi5 : i + 5 < (L : Int)) (hI : INV V σ) (kn : ∀ τ V, INV V τ → WL mL_law G A p l e R s mid args below meth c cells slots Z 1247 [vR 1000 0, vR 12 0, vR 14 0, vI i] [] τ) : WL mL_law G A p l e R s mid args below meth c cells slots Z 871 [vR 1000 0, vR 12 0, vR 14 0, vI i] [] σ := by
  refine wl_aload_n hC dL_law_871 rfl rfl ?_
  refine wl_aload_n hC dL_law_872 rfl rfl ?_
  refine wl_iload_n hC dL_law_873 rfl rfl ?_
  refine wl_iconst hC dL_law_874 rfl ?_
  refine wl_iadd hC dL_law_875 ?_ (h1 := by omega) (h2 := by omega)
  refine wl_sld hC hY dL_law_876 (by omega) (by omega) ?_
  refine wl_aload_n hC dL_law_877 rfl rfl ?_
  refine wl_iload_n hC dL_law_878 rfl rfl ?_
  refine wl_iconst hC dL_law_879 rfl ?_
  refine wl_iadd hC dL_law_880 ?_ (h1 := by omega) (h2 := by omega)
  refine wl_sld hC hY dL_law_881 (by omega) (by omega) ?_
  refine wl_aload_n hC dL_law_882 rfl rfl ?_
  refine wl_iload_n hC dL_law_883 rfl rfl ?_
  refine wl_iconst hC dL_law_884 rfl ?_
  refine wl_iadd hC dL_law_885 ?_ (h1 := by omega) (h2 := by omega)
  refine wl_sld hC hY dL_law_886 (by omega) (by omega) ?_
  refine wl_inv (N := mX11_flow) hC hX [vI (xs (i + 1).toNat).toInt, vI (xs (i + 2).toNat).toInt, vI (xs (i + 3).toNat).toInt] dL_law_887 ml_CustomValleyLaw_118 mvX11_flow rfl rfl rfl rfl rfl (Nat.le_of_ble_eq_true rfl) (Nat.le_of_ble_eq_true rfl) (by decide) (by decide) (by decide) (pr_flow hI) (fun y τ hy => ?_)
  refine wl_aload_n hC dL_law_890 rfl rfl ?_
  refine wl_aload_n hC dL_law_891 rfl rfl ?_
  refine wl_iload_n hC dL_law_892 rfl rfl ?_
  refine wl_iconst hC dL_law_893 rfl ?_
  refine wl_iadd hC dL_law_894 ?_ (h1 := by omega) (h2 := by omega)
  refine wl_sld hC hY dL_law_895 (by omega) (by omega) ?_
  refine wl_aload_n hC dL_law_896 rfl rfl ?_
  refine wl_iload_n hC dL_law_897 rfl rfl ?_
  refine wl_iconst hC dL_law_898 rfl ?_
  refine wl_iadd hC dL_law_899 ?_ (h1 := by omega) (h2 := by omega)
  refine wl_sld hC hY dL_law_900 (by omega) (by omega) ?_
  refine wl_aload_n hC dL_law_901 rfl rfl ?_
  refine wl_iload_n hC dL_law_902 rfl rfl ?_
  refine wl_iconst hC dL_law_903 rfl ?_
  refine wl_iadd hC dL_law_904 ?_ (h1 := by omega) (h2 := by omega)
  refine wl_sld hC hY dL_law_905 (by omega) (by omega) ?_
  refine wl_inv (QN := fun z υ => z = y ∧ ∃ V, INV V υ) (N := mX13_flow) hC hX [vI (xs (i + 1).toNat).toInt, vI (xs (i + 2).toNat).toInt, vI (xs (i + 3).toNat).toInt] dL_law_906 ml_CustomValleyLaw_121 mvX13_flow rfl rfl rfl rfl rfl (Nat.le_of_ble_eq_true rfl) (Nat.le_of_ble_eq_true rfl) (by decide) (by decide) (by decide) (WP.mono hy (fun r υ hr => ⟨y, hr.1, rfl, hr.2⟩)) (fun z υ hz => ?_)
  obtain ⟨V2, hV2⟩ := hz.2
  exact wl_icmp_eq hC (tgt := 1247) dL_law_909 (by decide) (fun _ => kn υ V2 hV2) (fun q => absurd hz.1.symm q)
theorem law_26 {V : Vy} {i : Int} (hC : CX mL_law G A p R s mid args meth c) (hX : SQ mL_law G A s mid ∧ cells ≤ R.cells ∧ slots ≤ R.slots) (hY : SCX G A s L xs) (hL : L ≤ 3072) (hi : 0 ≤ i) (hi5 : i + 5 < (L : Int)) (hI : INV V σ) (kn : ∀ τ V, INV V τ → WL mL_law G A p l e R s mid args below meth c cells slots Z 1247 [vR 1000 0, vR 12 0, vR 14 0, vI i] [] τ) : WL mL_law G A p l e R s mid args below meth c cells slots Z 914 [vR 1000 0, vR 12 0, vR 14 0, vI i] [] σ := by
  refine wl_aload_n hC dL_law_914 rfl rfl ?_
  refine wl_aload_n hC dL_law_915 rfl rfl ?_
  refine wl_iload_n hC dL_law_916 rfl rfl ?_
  refine wl_iconst hC dL_law_917 rfl ?_
  refine wl_iadd hC dL_law_918 ?_ (h1 := by omega) (h2 := by omega)
  refine wl_sld hC hY dL_law_919 (by omega) (by omega) ?_
  refine wl_inv (N := mX11_parts) hC hX [vI (xs (i + 1).toNat).toInt] dL_law_920 ml_CustomValleyLaw_122 mvX11_parts rfl rfl rfl rfl rfl (Nat.le_of_ble_eq_true rfl) (Nat.le_of_ble_eq_true rfl) (by decide) (by decide) (by decide) (pr_parts hI) (fun y τ hy => ?_)
  refine wl_aload_n hC dL_law_923 rfl rfl ?_
  refine wl_aload_n hC dL_law_924 rfl rfl ?_
  refine wl_iload_n hC dL_law_925 rfl rfl ?_
  refine wl_iconst hC dL_law_926 rfl ?_
  refine wl_iadd hC dL_law_927 ?_ (h1 := by omega) (h2 := by omega)
  refine wl_sld hC hY dL_law_928 (by omega) (by omega) ?_
  refine wl_inv (QN := fun z υ => z = y ∧ ∃ V, INV V υ) (N := mX13_parts) hC hX [vI (xs (i + 1).toNat).toInt] dL_law_929 ml_CustomValleyLaw_125 mvX13_parts rfl rfl rfl rfl rfl (Nat.le_of_ble_eq_true rfl) (Nat.le_of_ble_eq_true rfl) (by decide) (by decide) (by decide) (WP.mono hy (fun r υ hr => ⟨y, hr.1, rfl, hr.2⟩)) (fun z υ hz => ?_)
  obtain ⟨V2, hV2⟩ := hz.2
  exact wl_icmp_eq hC (tgt := 1247) dL_law_932 (by decide) (fun _ => kn υ V2 hV2) (fun q => absurd hz.1.symm q)
theorem law_27 {V : Vy} {i : Int} (hC : CX mL_law G A p R s mid args meth c) (hX : SQ mL_law G A s mid ∧ cells ≤ R.cells ∧ slots ≤ R.slots) (hY : SCX G A s L xs) (hL : L ≤ 3072) (hi : 0 ≤ i) (hi5 : i + 5 < (L : Int)) (hI : INV V σ) (kn : ∀ τ V, INV V τ → WL mL_law G A p l e R s mid args below meth c cells slots Z 1247 [vR 1000 0, vR 12 0, vR 14 0, vI i] [] τ) : WL mL_law G A p l e R s mid args below meth c cells slots Z 937 [vR 1000 0, vR 12 0, vR 14 0, vI i] [] σ := by
  refine wl_aload_n hC dL_law_937 rfl rfl ?_
  refine wl_aload_n hC dL_law_938 rfl rfl ?_
  refine wl_iload_n hC dL_law_939 rfl rfl ?_
  refine wl_iconst hC dL_law_940 rfl ?_
  refine wl_iadd hC dL_law_941 ?_ (h1 := by omega) (h2 := by omega)
  refine wl_sld hC hY dL_law_942 (by omega) (by omega) ?_
  refine wl_inv (N := mX11_partsOf) hC hX [vI (xs (i + 1).toNat).toInt] dL_law_943 ml_CustomValleyLaw_126 mvX11_partsOf rfl rfl rfl rfl rfl (Nat.le_of_ble_eq_true rfl) (Nat.le_of_ble_eq_true rfl) (by decide) (by decide) (by decide) (pr_partsOf hI) (fun y τ hy => ?_)
  refine wl_aload_n hC dL_law_946 rfl rfl ?_
  refine wl_aload_n hC dL_law_947 rfl rfl ?_
  refine wl_iload_n hC dL_law_948 rfl rfl ?_
  refine wl_iconst hC dL_law_949 rfl ?_
  refine wl_iadd hC dL_law_950 ?_ (h1 := by omega) (h2 := by omega)
  refine wl_sld hC hY dL_law_951 (by omega) (by omega) ?_
  refine wl_inv (QN := fun z υ => z = y ∧ ∃ V, INV V υ) (N := mX13_partsOf) hC hX [vI (xs (i + 1).toNat).toInt] dL_law_952 ml_CustomValleyLaw_129 mvX13_partsOf rfl rfl rfl rfl rfl (Nat.le_of_ble_eq_true rfl) (Nat.le_of_ble_eq_true rfl) (by decide) (by decide) (by decide) (WP.mono hy (fun r υ hr => ⟨y, hr.1, rfl, hr.2⟩)) (fun z υ hz => ?_)
  obtain ⟨V2, hV2⟩ := hz.2
  exact wl_icmp_eq hC (tgt := 1247) dL_law_955 (by decide) (fun _ => kn υ V2 hV2) (fun q => absurd hz.1.symm q)
theorem law_28 {V : Vy} {i : Int} (hC : CX mL_law G A p R s mid args meth c) (hX : SQ mL_law G A s mid ∧ cells ≤ R.cells ∧ slots ≤ R.slots) (hY : SCX G A s L xs) (hL : L ≤ 3072) (hi : 0 ≤ i) (hi5 : i + 5 < (L : Int)) (hI : INV V σ) (kn : ∀ τ V, INV V τ → WL mL_law G A p l e R s mid args below meth c cells slots Z 1247 [vR 1000 0, vR 12 0, vR 14 0, vI i] [] τ) : WL mL_law G A p l e R s mid args below meth c cells slots Z 960 [vR 1000 0, vR 12 0, vR 14 0, vI i] [] σ := by
  refine wl_aload_n hC dL_law_960 rfl rfl ?_
  refine wl_aload_n hC dL_law_961 rfl rfl ?_
  refine wl_iload_n hC dL_law_962 rfl rfl ?_
  refine wl_iconst hC dL_law_963 rfl ?_
  refine wl_iadd hC dL_law_964 ?_ (h1 := by omega) (h2 := by omega)
  refine wl_sld hC hY dL_law_965 (by omega) (by omega) ?_
  refine wl_aload_n hC dL_law_966 rfl rfl ?_
  refine wl_iload_n hC dL_law_967 rfl rfl ?_
  refine wl_iconst hC dL_law_968 rfl ?_
  refine wl_iadd hC dL_law_969 ?_ (h1 := by omega) (h2 := by omega)
  refine wl_sld hC hY dL_law_970 (by omega) (by omega) ?_
  refine wl_aload_n hC dL_law_971 rfl rfl ?_
  refine wl_iload_n hC dL_law_972 rfl rfl ?_
  refine wl_iconst hC dL_law_973 rfl ?_
  refine wl_iadd hC dL_law_974 ?_ (h1 := by omega) (h2 := by omega)
  refine wl_sld hC hY dL_law_975 (by omega) (by omega) ?_
  refine wl_aload_n hC dL_law_976 rfl rfl ?_
  refine wl_iload_n hC dL_law_977 rfl rfl ?_
  refine wl_iconst hC dL_law_978 rfl ?_
  refine wl_iadd hC dL_law_979 ?_ (h1 := by omega) (h2 := by omega)
  refine wl_sld hC hY dL_law_980 (by omega) (by omega) ?_
  refine wl_inv (N := mX11_run) hC hX [vI (xs (i + 1).toNat).toInt, vI (xs (i + 2).toNat).toInt, vI (xs (i + 3).toNat).toInt, vI (xs (i + 4).toNat).toInt] dL_law_981 ml_CustomValleyLaw_130 mvX11_run rfl rfl rfl rfl rfl (Nat.le_of_ble_eq_true rfl) (Nat.le_of_ble_eq_true rfl) (by decide) (by decide) (by decide) (pr_run (i32_in _) hI) (fun y τ hy => ?_)
  refine wl_aload_n hC dL_law_984 rfl rfl ?_
  refine wl_aload_n hC dL_law_985 rfl rfl ?_
  refine wl_iload_n hC dL_law_986 rfl rfl ?_
  refine wl_iconst hC dL_law_987 rfl ?_
  refine wl_iadd hC dL_law_988 ?_ (h1 := by omega) (h2 := by omega)
  refine wl_sld hC hY dL_law_989 (by omega) (by omega) ?_
  refine wl_aload_n hC dL_law_990 rfl rfl ?_
  refine wl_iload_n hC dL_law_991 rfl rfl ?_
  refine wl_iconst hC dL_law_992 rfl ?_
  refine wl_iadd hC dL_law_993 ?_ (h1 := by omega) (h2 := by omega)
  refine wl_sld hC hY dL_law_994 (by omega) (by omega) ?_
  refine wl_aload_n hC dL_law_995 rfl rfl ?_
  refine wl_iload_n hC dL_law_996 rfl rfl ?_
  refine wl_iconst hC dL_law_997 rfl ?_
  refine wl_iadd hC dL_law_998 ?_ (h1 := by omega) (h2 := by omega)
  refine wl_sld hC hY dL_law_999 (by omega) (by omega) ?_
  refine wl_aload_n hC dL_law_1000 rfl rfl ?_
  refine wl_iload_n hC dL_law_1001 rfl rfl ?_
  refine wl_iconst hC dL_law_1002 rfl ?_
  refine wl_iadd hC dL_law_1003 ?_ (h1 := by omega) (h2 := by omega)
  refine wl_sld hC hY dL_law_1004 (by omega) (by omega) ?_
  refine wl_inv (QN := fun z υ => z = y ∧ ∃ V, INV V υ) (N := mX13_run) hC hX [vI (xs (i + 1).toNat).toInt, vI (xs (i + 2).toNat).toInt, vI (xs (i + 3).toNat).toInt, vI (xs (i + 4).toNat).toInt] dL_law_1005 ml_CustomValleyLaw_134 mvX13_run rfl rfl rfl rfl rfl (Nat.le_of_ble_eq_true rfl) (Nat.le_of_ble_eq_true rfl) (by decide) (by decide) (by decide) (WP.mono hy (fun r υ hr => ⟨y, hr.1, rfl, hr.2⟩)) (fun z υ hz => ?_)
  obtain ⟨V2, hV2⟩ := hz.2
  exact wl_icmp_eq hC (tgt := 1247) dL_law_1008 (by decide) (fun _ => kn υ V2 hV2) (fun q => absurd hz.1.symm q)
theorem law_29 {V : Vy} {i : Int} (hC : CX mL_law G A p R s mid args meth c) (hX : SQ mL_law G A s mid ∧ cells ≤ R.cells ∧ slots ≤ R.slots) (hY : SCX G A s L xs) (hL : L ≤ 3072) (hi : 0 ≤ i) (hi5 : i + 5 < (L : Int)) (hI : INV V σ) (kn : ∀ τ V, INV V τ → WL mL_law G A p l e R s mid args below meth c cells slots Z 1247 [vR 1000 0, vR 12 0, vR 14 0, vI i] [] τ) : WL mL_law G A p l e R s mid args below meth c cells slots Z 1013 [vR 1000 0, vR 12 0, vR 14 0, vI i] [] σ := by
  refine wl_aload_n hC dL_law_1013 rfl rfl ?_
  refine wl_aload_n hC dL_law_1014 rfl rfl ?_
  refine wl_iload_n hC dL_law_1015 rfl rfl ?_
  refine wl_iconst hC dL_law_1016 rfl ?_
  refine wl_iadd hC dL_law_1017 ?_ (h1 := by omega) (h2 := by omega)
  refine wl_sld hC hY dL_law_1018 (by omega) (by omega) ?_
  refine wl_inv (N := mX11_ran) hC hX [vI (xs (i + 1).toNat).toInt] dL_law_1019 ml_CustomValleyLaw_135 mvX11_ran rfl rfl rfl rfl rfl (Nat.le_of_ble_eq_true rfl) (Nat.le_of_ble_eq_true rfl) (by decide) (by decide) (by decide) (pr_ran (i32_in _) hI) (fun y τ hy => ?_)
  refine wl_aload_n hC dL_law_1022 rfl rfl ?_
  refine wl_aload_n hC dL_law_1023 rfl rfl ?_
  refine wl_iload_n hC dL_law_1024 rfl rfl ?_
  refine wl_iconst hC dL_law_1025 rfl ?_
  refine wl_iadd hC dL_law_1026 ?_ (h1 := by omega) (h2 := by omega)
  refine wl_sld hC hY dL_law_1027 (by omega) (by omega) ?_
  refine wl_inv (QN := fun z υ => z = y ∧ ∃ V, INV V υ) (N := mX13_ran) hC hX [vI (xs (i + 1).toNat).toInt] dL_law_1028 ml_CustomValleyLaw_138 mvX13_ran rfl rfl rfl rfl rfl (Nat.le_of_ble_eq_true rfl) (Nat.le_of_ble_eq_true rfl) (by decide) (by decide) (by decide) (WP.mono hy (fun r υ hr => ⟨y, hr.1, rfl, hr.2⟩)) (fun z υ hz => ?_)
  obtain ⟨V2, hV2⟩ := hz.2
  exact wl_icmp_eq hC (tgt := 1247) dL_law_1031 (by decide) (fun _ => kn υ V2 hV2) (fun q => absurd hz.1.symm q)
theorem law_30 {V : Vy} {i : Int} (hC : CX mL_law G A p R s mid args meth c) (hX : SQ mL_law G A s mid ∧ cells ≤ R.cells ∧ slots ≤ R.slots) (hY : SCX G A s L xs) (hL : L ≤ 3072) (hi : 0 ≤ i) (hi5 : i + 5 < (L : Int)) (hI : INV V σ) (kn : ∀ τ V, INV V τ → WL mL_law G A p l e R s mid args below meth c cells slots Z 1247 [vR 1000 0, vR 12 0, vR 14 0, vI i] [] τ) : WL mL_law G A p l e R s mid args below meth c cells slots Z 1036 [vR 1000 0, vR 12 0, vR 14 0, vI i] [] σ := by
  refine wl_aload_n hC dL_law_1036 rfl rfl ?_
  refine wl_aload_n hC dL_law_1037 rfl rfl ?_
  refine wl_iload_n hC dL_law_1038 rfl rfl ?_
  refine wl_iconst hC dL_law_1039 rfl ?_
  refine wl_iadd hC dL_law_1040 ?_ (h1 := by omega) (h2 := by omega)
  refine wl_sld hC hY dL_law_1041 (by omega) (by omega) ?_
  refine wl_inv (N := mX11_judge) hC hX [vI (xs (i + 1).toNat).toInt] dL_law_1042 ml_CustomValleyLaw_139 mvX11_judge rfl rfl rfl rfl rfl (Nat.le_of_ble_eq_true rfl) (Nat.le_of_ble_eq_true rfl) (by decide) (by decide) (by decide) (pr_judge hI) (fun y τ hy => ?_)
  refine wl_aload_n hC dL_law_1045 rfl rfl ?_
  refine wl_aload_n hC dL_law_1046 rfl rfl ?_
  refine wl_iload_n hC dL_law_1047 rfl rfl ?_
  refine wl_iconst hC dL_law_1048 rfl ?_
  refine wl_iadd hC dL_law_1049 ?_ (h1 := by omega) (h2 := by omega)
  refine wl_sld hC hY dL_law_1050 (by omega) (by omega) ?_
  refine wl_inv (QN := fun z υ => z = y ∧ ∃ V, INV V υ) (N := mX13_judge) hC hX [vI (xs (i + 1).toNat).toInt] dL_law_1051 ml_CustomValleyLaw_142 mvX13_judge rfl rfl rfl rfl rfl (Nat.le_of_ble_eq_true rfl) (Nat.le_of_ble_eq_true rfl) (by decide) (by decide) (by decide) (WP.mono hy (fun r υ hr => ⟨y, hr.1, rfl, hr.2⟩)) (fun z υ hz => ?_)
  obtain ⟨V2, hV2⟩ := hz.2
  exact wl_icmp_eq hC (tgt := 1247) dL_law_1054 (by decide) (fun _ => kn υ V2 hV2) (fun q => absurd hz.1.symm q)
theorem law_31 {V : Vy} {i : Int} (hC : CX mL_law G A p R s mid args meth c) (hX : SQ mL_law G A s mid ∧ cells ≤ R.cells ∧ slots ≤ R.slots) (hY : SCX G A s L xs) (hL : L ≤ 3072) (hi : 0 ≤ i) (hi5 : i + 5 < (L : Int)) (hI : INV V σ) (kn : ∀ τ V, INV V τ → WL mL_law G A p l e R s mid args below meth c cells slots Z 1247 [vR 1000 0, vR 12 0, vR 14 0, vI i] [] τ) : WL mL_law G A p l e R s mid args below meth c cells slots Z 1059 [vR 1000 0, vR 12 0, vR 14 0, vI i] [] σ := by
  refine wl_aload_n hC dL_law_1059 rfl rfl ?_
  refine wl_aload_n hC dL_law_1060 rfl rfl ?_
  refine wl_iload_n hC dL_law_1061 rfl rfl ?_
  refine wl_iconst hC dL_law_1062 rfl ?_
  refine wl_iadd hC dL_law_1063 ?_ (h1 := by omega) (h2 := by omega)
  refine wl_sld hC hY dL_law_1064 (by omega) (by omega) ?_
  refine wl_inv (N := mX11_judged) hC hX [vI (xs (i + 1).toNat).toInt] dL_law_1065 ml_CustomValleyLaw_143 mvX11_judged rfl rfl rfl rfl rfl (Nat.le_of_ble_eq_true rfl) (Nat.le_of_ble_eq_true rfl) (by decide) (by decide) (by decide) (pr_judged hI) (fun y τ hy => ?_)
  refine wl_aload_n hC dL_law_1068 rfl rfl ?_
  refine wl_aload_n hC dL_law_1069 rfl rfl ?_
  refine wl_iload_n hC dL_law_1070 rfl rfl ?_
  refine wl_iconst hC dL_law_1071 rfl ?_
  refine wl_iadd hC dL_law_1072 ?_ (h1 := by omega) (h2 := by omega)
  refine wl_sld hC hY dL_law_1073 (by omega) (by omega) ?_
  refine wl_inv (QN := fun z υ => z = y ∧ ∃ V, INV V υ) (N := mX13_judged) hC hX [vI (xs (i + 1).toNat).toInt] dL_law_1074 ml_CustomValleyLaw_146 mvX13_judged rfl rfl rfl rfl rfl (Nat.le_of_ble_eq_true rfl) (Nat.le_of_ble_eq_true rfl) (by decide) (by decide) (by decide) (WP.mono hy (fun r υ hr => ⟨y, hr.1, rfl, hr.2⟩)) (fun z υ hz => ?_)
  obtain ⟨V2, hV2⟩ := hz.2
  exact wl_icmp_eq hC (tgt := 1247) dL_law_1077 (by decide) (fun _ => kn υ V2 hV2) (fun q => absurd hz.1.symm q)
theorem law_32 {V : Vy} {i : Int} (hC : CX mL_law G A p R s mid args meth c) (hX : SQ mL_law G A s mid ∧ cells ≤ R.cells ∧ slots ≤ R.slots) (hY : SCX G A s L xs) (hL : L ≤ 3072) (hi : 0 ≤ i) (hi5 : i + 5 < (L : Int)) (hI : INV V σ) (kn : ∀ τ V, INV V τ → WL mL_law G A p l e R s mid args below meth c cells slots Z 1247 [vR 1000 0, vR 12 0, vR 14 0, vI i] [] τ) : WL mL_law G A p l e R s mid args below meth c cells slots Z 1082 [vR 1000 0, vR 12 0, vR 14 0, vI i] [] σ := by
  refine wl_aload_n hC dL_law_1082 rfl rfl ?_
  refine wl_aload_n hC dL_law_1083 rfl rfl ?_
  refine wl_iload_n hC dL_law_1084 rfl rfl ?_
  refine wl_iconst hC dL_law_1085 rfl ?_
  refine wl_iadd hC dL_law_1086 ?_ (h1 := by omega) (h2 := by omega)
  refine wl_sld hC hY dL_law_1087 (by omega) (by omega) ?_
  refine wl_aload_n hC dL_law_1088 rfl rfl ?_
  refine wl_iload_n hC dL_law_1089 rfl rfl ?_
  refine wl_iconst hC dL_law_1090 rfl ?_
  refine wl_iadd hC dL_law_1091 ?_ (h1 := by omega) (h2 := by omega)
  refine wl_sld hC hY dL_law_1092 (by omega) (by omega) ?_
  refine wl_aload_n hC dL_law_1093 rfl rfl ?_
  refine wl_iload_n hC dL_law_1094 rfl rfl ?_
  refine wl_iconst hC dL_law_1095 rfl ?_
  refine wl_iadd hC dL_law_1096 ?_ (h1 := by omega) (h2 := by omega)
  refine wl_sld hC hY dL_law_1097 (by omega) (by omega) ?_
  refine wl_inv (N := mX11_see) hC hX [vI (xs (i + 1).toNat).toInt, vI (xs (i + 2).toNat).toInt, vI (xs (i + 3).toNat).toInt] dL_law_1098 ml_CustomValleyLaw_147 mvX11_see rfl rfl rfl rfl rfl (Nat.le_of_ble_eq_true rfl) (Nat.le_of_ble_eq_true rfl) (by decide) (by decide) (by decide) (pr_see hI) (fun y τ hy => ?_)
  refine wl_aload_n hC dL_law_1101 rfl rfl ?_
  refine wl_aload_n hC dL_law_1102 rfl rfl ?_
  refine wl_iload_n hC dL_law_1103 rfl rfl ?_
  refine wl_iconst hC dL_law_1104 rfl ?_
  refine wl_iadd hC dL_law_1105 ?_ (h1 := by omega) (h2 := by omega)
  refine wl_sld hC hY dL_law_1106 (by omega) (by omega) ?_
  refine wl_aload_n hC dL_law_1107 rfl rfl ?_
  refine wl_iload_n hC dL_law_1108 rfl rfl ?_
  refine wl_iconst hC dL_law_1109 rfl ?_
  refine wl_iadd hC dL_law_1110 ?_ (h1 := by omega) (h2 := by omega)
  refine wl_sld hC hY dL_law_1111 (by omega) (by omega) ?_
  refine wl_aload_n hC dL_law_1112 rfl rfl ?_
  refine wl_iload_n hC dL_law_1113 rfl rfl ?_
  refine wl_iconst hC dL_law_1114 rfl ?_
  refine wl_iadd hC dL_law_1115 ?_ (h1 := by omega) (h2 := by omega)
  refine wl_sld hC hY dL_law_1116 (by omega) (by omega) ?_
  refine wl_inv (QN := fun z υ => z = y ∧ ∃ V, INV V υ) (N := mX13_see) hC hX [vI (xs (i + 1).toNat).toInt, vI (xs (i + 2).toNat).toInt, vI (xs (i + 3).toNat).toInt] dL_law_1117 ml_CustomValleyLaw_150 mvX13_see rfl rfl rfl rfl rfl (Nat.le_of_ble_eq_true rfl) (Nat.le_of_ble_eq_true rfl) (by decide) (by decide) (by decide) (WP.mono hy (fun r υ hr => ⟨y, hr.1, rfl, hr.2⟩)) (fun z υ hz => ?_)
  obtain ⟨V2, hV2⟩ := hz.2
  exact wl_icmp_eq hC (tgt := 1247) dL_law_1120 (by decide) (fun _ => kn υ V2 hV2) (fun q => absurd hz.1.symm q)
theorem law_33 {V : Vy} {i : Int} (hC : CX mL_law G A p R s mid args meth c) (hX : SQ mL_law G A s mid ∧ cells ≤ R.cells ∧ slots ≤ R.slots) (hY : SCX G A s L xs) (hL : L ≤ 3072) (hi : 0 ≤ i) (hi5 : i + 5 < (L : Int)) (hI : INV V σ) (kn : ∀ τ V, INV V τ → WL mL_law G A p l e R s mid args below meth c cells slots Z 1247 [vR 1000 0, vR 12 0, vR 14 0, vI i] [] τ) : WL mL_law G A p l e R s mid args below meth c cells slots Z 1125 [vR 1000 0, vR 12 0, vR 14 0, vI i] [] σ := by
  refine wl_aload_n hC dL_law_1125 rfl rfl ?_
  refine wl_aload_n hC dL_law_1126 rfl rfl ?_
  refine wl_iload_n hC dL_law_1127 rfl rfl ?_
  refine wl_iconst hC dL_law_1128 rfl ?_
  refine wl_iadd hC dL_law_1129 ?_ (h1 := by omega) (h2 := by omega)
  refine wl_sld hC hY dL_law_1130 (by omega) (by omega) ?_
  refine wl_aload_n hC dL_law_1131 rfl rfl ?_
  refine wl_iload_n hC dL_law_1132 rfl rfl ?_
  refine wl_iconst hC dL_law_1133 rfl ?_
  refine wl_iadd hC dL_law_1134 ?_ (h1 := by omega) (h2 := by omega)
  refine wl_sld hC hY dL_law_1135 (by omega) (by omega) ?_
  refine wl_aload_n hC dL_law_1136 rfl rfl ?_
  refine wl_iload_n hC dL_law_1137 rfl rfl ?_
  refine wl_iconst hC dL_law_1138 rfl ?_
  refine wl_iadd hC dL_law_1139 ?_ (h1 := by omega) (h2 := by omega)
  refine wl_sld hC hY dL_law_1140 (by omega) (by omega) ?_
  refine wl_inv (N := mX11_right) hC hX [vI (xs (i + 1).toNat).toInt, vI (xs (i + 2).toNat).toInt, vI (xs (i + 3).toNat).toInt] dL_law_1141 ml_CustomValleyLaw_151 mvX11_right rfl rfl rfl rfl rfl (Nat.le_of_ble_eq_true rfl) (Nat.le_of_ble_eq_true rfl) (by decide) (by decide) (by decide) (pr_right hI) (fun y τ hy => ?_)
  refine wl_aload_n hC dL_law_1144 rfl rfl ?_
  refine wl_aload_n hC dL_law_1145 rfl rfl ?_
  refine wl_iload_n hC dL_law_1146 rfl rfl ?_
  refine wl_iconst hC dL_law_1147 rfl ?_
  refine wl_iadd hC dL_law_1148 ?_ (h1 := by omega) (h2 := by omega)
  refine wl_sld hC hY dL_law_1149 (by omega) (by omega) ?_
  refine wl_aload_n hC dL_law_1150 rfl rfl ?_
  refine wl_iload_n hC dL_law_1151 rfl rfl ?_
  refine wl_iconst hC dL_law_1152 rfl ?_
  refine wl_iadd hC dL_law_1153 ?_ (h1 := by omega) (h2 := by omega)
  refine wl_sld hC hY dL_law_1154 (by omega) (by omega) ?_
  refine wl_aload_n hC dL_law_1155 rfl rfl ?_
  refine wl_iload_n hC dL_law_1156 rfl rfl ?_
  refine wl_iconst hC dL_law_1157 rfl ?_
  refine wl_iadd hC dL_law_1158 ?_ (h1 := by omega) (h2 := by omega)
  refine wl_sld hC hY dL_law_1159 (by omega) (by omega) ?_
  refine wl_inv (QN := fun z υ => z = y ∧ ∃ V, INV V υ) (N := mX13_right) hC hX [vI (xs (i + 1).toNat).toInt, vI (xs (i + 2).toNat).toInt, vI (xs (i + 3).toNat).toInt] dL_law_1160 ml_CustomValleyLaw_154 mvX13_right rfl rfl rfl rfl rfl (Nat.le_of_ble_eq_true rfl) (Nat.le_of_ble_eq_true rfl) (by decide) (by decide) (by decide) (WP.mono hy (fun r υ hr => ⟨y, hr.1, rfl, hr.2⟩)) (fun z υ hz => ?_)
  obtain ⟨V2, hV2⟩ := hz.2
  exact wl_icmp_eq hC (tgt := 1247) dL_law_1163 (by decide) (fun _ => kn υ V2 hV2) (fun q => absurd hz.1.symm q)
theorem law_34 {V : Vy} {i : Int} (hC : CX mL_law G A p R s mid args meth c) (hX : SQ mL_law G A s mid ∧ cells ≤ R.cells ∧ slots ≤ R.slots) (hY : SCX G A s L xs) (hL : L ≤ 3072) (hi : 0 ≤ i) (hi5 : i + 5 < (L : Int)) (hI : INV V σ) (kn : ∀ τ V, INV V τ → WL mL_law G A p l e R s mid args below meth c cells slots Z 1247 [vR 1000 0, vR 12 0, vR 14 0, vI i] [] τ) : WL mL_law G A p l e R s mid args below meth c cells slots Z 1168 [vR 1000 0, vR 12 0, vR 14 0, vI i] [] σ := by
  refine wl_aload_n hC dL_law_1168 rfl rfl ?_
  refine wl_aload_n hC dL_law_1169 rfl rfl ?_
  refine wl_iload_n hC dL_law_1170 rfl rfl ?_
  refine wl_iconst hC dL_law_1171 rfl ?_
  refine wl_iadd hC dL_law_1172 ?_ (h1 := by omega) (h2 := by omega)
  refine wl_sld hC hY dL_law_1173 (by omega) (by omega) ?_
  refine wl_aload_n hC dL_law_1174 rfl rfl ?_
  refine wl_iload_n hC dL_law_1175 rfl rfl ?_
  refine wl_iconst hC dL_law_1176 rfl ?_
  refine wl_iadd hC dL_law_1177 ?_ (h1 := by omega) (h2 := by omega)
  refine wl_sld hC hY dL_law_1178 (by omega) (by omega) ?_
  refine wl_inv (N := mX11_explained) hC hX [vI (xs (i + 1).toNat).toInt, vI (xs (i + 2).toNat).toInt] dL_law_1179 ml_CustomValleyLaw_155 mvX11_explained rfl rfl rfl rfl rfl (Nat.le_of_ble_eq_true rfl) (Nat.le_of_ble_eq_true rfl) (by decide) (by decide) (by decide) (pr_explained hI) (fun y τ hy => ?_)
  refine wl_aload_n hC dL_law_1182 rfl rfl ?_
  refine wl_aload_n hC dL_law_1183 rfl rfl ?_
  refine wl_iload_n hC dL_law_1184 rfl rfl ?_
  refine wl_iconst hC dL_law_1185 rfl ?_
  refine wl_iadd hC dL_law_1186 ?_ (h1 := by omega) (h2 := by omega)
  refine wl_sld hC hY dL_law_1187 (by omega) (by omega) ?_
  refine wl_aload_n hC dL_law_1188 rfl rfl ?_
  refine wl_iload_n hC dL_law_1189 rfl rfl ?_
  refine wl_iconst hC dL_law_1190 rfl ?_
  refine wl_iadd hC dL_law_1191 ?_ (h1 := by omega) (h2 := by omega)
  refine wl_sld hC hY dL_law_1192 (by omega) (by omega) ?_
  refine wl_inv (QN := fun z υ => z = y ∧ ∃ V, INV V υ) (N := mX13_explained) hC hX [vI (xs (i + 1).toNat).toInt, vI (xs (i + 2).toNat).toInt] dL_law_1193 ml_CustomValleyLaw_158 mvX13_explained rfl rfl rfl rfl rfl (Nat.le_of_ble_eq_true rfl) (Nat.le_of_ble_eq_true rfl) (by decide) (by decide) (by decide) (WP.mono hy (fun r υ hr => ⟨y, hr.1, rfl, hr.2⟩)) (fun z υ hz => ?_)
  obtain ⟨V2, hV2⟩ := hz.2
  exact wl_icmp_eq hC (tgt := 1247) dL_law_1196 (by decide) (fun _ => kn υ V2 hV2) (fun q => absurd hz.1.symm q)
theorem law_35 {V : Vy} {i : Int} (hC : CX mL_law G A p R s mid args meth c) (hX : SQ mL_law G A s mid ∧ cells ≤ R.cells ∧ slots ≤ R.slots) (hY : SCX G A s L xs) (hL : L ≤ 3072) (hi : 0 ≤ i) (hi5 : i + 5 < (L : Int)) (hI : INV V σ) (kn : ∀ τ V, INV V τ → WL mL_law G A p l e R s mid args below meth c cells slots Z 1247 [vR 1000 0, vR 12 0, vR 14 0, vI i] [] τ) : WL mL_law G A p l e R s mid args below meth c cells slots Z 1201 [vR 1000 0, vR 12 0, vR 14 0, vI i] [] σ := by
  refine wl_aload_n hC dL_law_1201 rfl rfl ?_
  refine wl_aload_n hC dL_law_1202 rfl rfl ?_
  refine wl_iload_n hC dL_law_1203 rfl rfl ?_
  refine wl_iconst hC dL_law_1204 rfl ?_
  refine wl_iadd hC dL_law_1205 ?_ (h1 := by omega) (h2 := by omega)
  refine wl_sld hC hY dL_law_1206 (by omega) (by omega) ?_
  refine wl_inv (N := mX11_likeliest) hC hX [vI (xs (i + 1).toNat).toInt] dL_law_1207 ml_CustomValleyLaw_159 mvX11_likeliest rfl rfl rfl rfl rfl (Nat.le_of_ble_eq_true rfl) (Nat.le_of_ble_eq_true rfl) (by decide) (by decide) (by decide) (pr_likeliest hI) (fun y τ hy => ?_)
  refine wl_aload_n hC dL_law_1210 rfl rfl ?_
  refine wl_aload_n hC dL_law_1211 rfl rfl ?_
  refine wl_iload_n hC dL_law_1212 rfl rfl ?_
  refine wl_iconst hC dL_law_1213 rfl ?_
  refine wl_iadd hC dL_law_1214 ?_ (h1 := by omega) (h2 := by omega)
  refine wl_sld hC hY dL_law_1215 (by omega) (by omega) ?_
  refine wl_inv (QN := fun z υ => z = y ∧ ∃ V, INV V υ) (N := mX13_likeliest) hC hX [vI (xs (i + 1).toNat).toInt] dL_law_1216 ml_CustomValleyLaw_162 mvX13_likeliest rfl rfl rfl rfl rfl (Nat.le_of_ble_eq_true rfl) (Nat.le_of_ble_eq_true rfl) (by decide) (by decide) (by decide) (WP.mono hy (fun r υ hr => ⟨y, hr.1, rfl, hr.2⟩)) (fun z υ hz => ?_)
  obtain ⟨V2, hV2⟩ := hz.2
  exact wl_icmp_eq hC (tgt := 1247) dL_law_1219 (by decide) (fun _ => kn υ V2 hV2) (fun q => absurd hz.1.symm q)
theorem law_36 {V : Vy} {i : Int} (hC : CX mL_law G A p R s mid args meth c) (hX : SQ mL_law G A s mid ∧ cells ≤ R.cells ∧ slots ≤ R.slots) (hY : SCX G A s L xs) (hL : L ≤ 3072) (hi : 0 ≤ i) (hi5 : i + 5 < (L : Int)) (hI : INV V σ) (kn : ∀ τ V, INV V τ → WL mL_law G A p l e R s mid args below meth c cells slots Z 1247 [vR 1000 0, vR 12 0, vR 14 0, vI i] [] τ) : WL mL_law G A p l e R s mid args below meth c cells slots Z 1224 [vR 1000 0, vR 12 0, vR 14 0, vI i] [] σ := by
  refine wl_aload_n hC dL_law_1224 rfl rfl ?_
  refine wl_aload_n hC dL_law_1225 rfl rfl ?_
  refine wl_iload_n hC dL_law_1226 rfl rfl ?_
  refine wl_iconst hC dL_law_1227 rfl ?_
  refine wl_iadd hC dL_law_1228 ?_ (h1 := by omega) (h2 := by omega)
  refine wl_sld hC hY dL_law_1229 (by omega) (by omega) ?_
  refine wl_inv (N := mX11_count) hC hX [vI (xs (i + 1).toNat).toInt] dL_law_1230 ml_CustomValleyLaw_163 mvX11_count rfl rfl rfl rfl rfl (Nat.le_of_ble_eq_true rfl) (Nat.le_of_ble_eq_true rfl) (by decide) (by decide) (by decide) (pr_count hI) (fun y τ hy => ?_)
  refine wl_aload_n hC dL_law_1233 rfl rfl ?_
  refine wl_aload_n hC dL_law_1234 rfl rfl ?_
  refine wl_iload_n hC dL_law_1235 rfl rfl ?_
  refine wl_iconst hC dL_law_1236 rfl ?_
  refine wl_iadd hC dL_law_1237 ?_ (h1 := by omega) (h2 := by omega)
  refine wl_sld hC hY dL_law_1238 (by omega) (by omega) ?_
  refine wl_inv (QN := fun z υ => z = y ∧ ∃ V, INV V υ) (N := mX13_count) hC hX [vI (xs (i + 1).toNat).toInt] dL_law_1239 ml_CustomValleyLaw_166 mvX13_count rfl rfl rfl rfl rfl (Nat.le_of_ble_eq_true rfl) (Nat.le_of_ble_eq_true rfl) (by decide) (by decide) (by decide) (WP.mono hy (fun r υ hr => ⟨y, hr.1, rfl, hr.2⟩)) (fun z υ hz => ?_)
  obtain ⟨V2, hV2⟩ := hz.2
  exact wl_icmp_eq hC (tgt := 1247) dL_law_1242 (by decide) (fun _ => kn υ V2 hV2) (fun q => absurd hz.1.symm q)
end Law2
