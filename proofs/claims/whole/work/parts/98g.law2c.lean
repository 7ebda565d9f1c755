-- the law, case by case
section LWC
variable {p : Program} {l : Launch} {e : Env} {s : State} {m : MethodId} {below : List Frame} {meth : Method} {c : Code} {H : Heap} {locs : List Loc} {cells slots : Nat} {Q : State → Prop} {ls : Array Slot}
variable {D : va_G} {cs : Nat → ClassId} {t0 : TS} {A : Nat → Prop} {P : PS} {ty : Option FieldType} {adm : Nat → Nat} {S : MS} {da : DD} {Aa : AA} {b L i : Nat} {xs : Nat → Int32}
set_option maxHeartbeats 4000000 in
set_option maxRecDepth 100000 in
theorem lk_16 (cx : mCx p s m #[Value.ref b] meth c RL code (Cond.classLink RL 7 RX8 :: wsL_law) 4 ty) (hX : va_X b L xs s s.heap) (hbl : b < s.heap.size) (hbA : ¬ A b) (hi : 6 * i + 6 ≤ L) (hL : L ≤ 384) (hf1 : cells + 1513 ≤ 600000) (hf2 : slots + 96832 ≤ 7302250) (hl : lv_has ls 4 [(0, .ref b), (1, .ref (da 0)), (2, .ref (adm 100)), (3, .int (nI (6 * i)))]) (w : cWd D cs t0 A s P H locs) (hm : mX D cs adm A S P H) (hc : CC t0 da Aa P) (hM : MM Aa S) (hW : WF Aa) (next : LNx p l e s m b below meth c cells slots Q ls D cs t0 A adm da) : W p l e room_1 s m #[Value.ref b] below meth c H locs cells slots Q (F0 m 754 ls []) := by
  obtain ⟨hx, hb, hr, hts, hown, hlocks, hml⟩ := id cx
  obtain ⟨P1, e1, h1⟩ := cq_needed hW hc (xs (6 * i + 1)) (xs (6 * i + 2))
  have hda : da 0 = da 0 := rfl
  refine lv_aload_n hx hb dL_law_754 rfl (lv_at hl 1 rfl) ?_
  refine lw_arg (j := 1) cx hX hbl hbA w.2.2.2.2.1 (by omega) hL hl rfl dL_law_755 dL_law_756 dL_law_757 dL_law_758 dL_law_759 ?_
  refine lw_arg (j := 2) cx hX hbl hbA w.2.2.2.2.1 (by omega) hL hl rfl dL_law_760 dL_law_761 dL_law_762 dL_law_763 dL_law_764 ?_
  refine lc_i (cr_V (As := [.int (xs (6 * i + 1)), .int (xs (6 * i + 2))]) (rest := []) cx (hcc_X8_needed l D cs t0 P P1 (da 0) (xs (6 * i + 1)) (xs (6 * i + 2)) _ e1) kT9 hc.k0 (cwV 2 hts (uG uw_X8_needed ul_RL_81 ui_X8_needed us_RX8_X8_needed un_RX8) rfl rfl rfl ud_X8_needed ⟨Nat.le_of_ble_eq_true rfl, Nat.le_of_ble_eq_true rfl⟩) w rfl hl.1 rfl (Nat.le_of_ble_eq_true rfl) dL_law_765 ⟨by show cells + 0 ≤ 600000; omega, by show slots + 0 ≤ 7302250; omega⟩) hm (fun H1 locs1 w hm => ?_)
  refine lv_aload_n hx hb dL_law_768 rfl (lv_at hl 2 rfl) ?_
  refine lw_arg (j := 1) cx hX hbl hbA w.2.2.2.2.1 (by omega) hL hl rfl dL_law_769 dL_law_770 dL_law_771 dL_law_772 dL_law_773 ?_
  refine lw_arg (j := 2) cx hX hbl hbA w.2.2.2.2.1 (by omega) hL hl rfl dL_law_774 dL_law_775 dL_law_776 dL_law_777 dL_law_778 ?_
  obtain ⟨S1, e2, g2⟩ := mq_needed hW hM (xs (6 * i + 1)) (xs (6 * i + 2))
  have hW2 := hW
  refine lm_i (As := [.int (xs (6 * i + 1)), .int (xs (6 * i + 2))]) (rest := [.int (sNeeded Aa (xs (6 * i + 1)) (xs (6 * i + 2)))]) cx (cc_needed l D cs adm S S1 (xs (6 * i + 1)) (xs (6 * i + 2)) _ e2) (cwV 2 hts (uG uw_X9_needed ul_RL_84 ui_X9_needed us_RX9_X9_needed un_RX9) rfl rfl rfl ud_X9_needed ⟨Nat.le_of_ble_eq_true rfl, Nat.le_of_ble_eq_true rfl⟩) w hm rfl hl.1 rfl (Nat.le_of_ble_eq_true rfl) dL_law_779 ⟨by show cells + 0 + 0 ≤ 600000; omega, by show slots + 0 + 0 ≤ 7302250; omega⟩ (fun H2 locs2 w hm hz2 => ?_)
  refine lv_icmp_eq (tgt := 1373) hx hb dL_law_782 (by decide) (fun q => ?_) (fun q => ?_)
  · exact W.widen (k := cells + 1513) (n := slots + 96832) (by omega) (by omega) (next (Aa) _ _ _ _ _ hda w hm (h1.setZ hz2) g2 hW2)
  · exact absurd rfl q
set_option maxHeartbeats 4000000 in
set_option maxRecDepth 100000 in
theorem lk_17 (cx : mCx p s m #[Value.ref b] meth c RL code (Cond.classLink RL 7 RX8 :: wsL_law) 4 ty) (hX : va_X b L xs s s.heap) (hbl : b < s.heap.size) (hbA : ¬ A b) (hi : 6 * i + 6 ≤ L) (hL : L ≤ 384) (hf1 : cells + 1513 ≤ 600000) (hf2 : slots + 96832 ≤ 7302250) (hl : lv_has ls 4 [(0, .ref b), (1, .ref (da 0)), (2, .ref (adm 100)), (3, .int (nI (6 * i)))]) (w : cWd D cs t0 A s P H locs) (hm : mX D cs adm A S P H) (hc : CC t0 da Aa P) (hM : MM Aa S) (hW : WF Aa) (next : LNx p l e s m b below meth c cells slots Q ls D cs t0 A adm da) : W p l e room_1 s m #[Value.ref b] below meth c H locs cells slots Q (F0 m 787 ls []) := by
  obtain ⟨hx, hb, hr, hts, hown, hlocks, hml⟩ := id cx
  obtain ⟨P1, e1, h1⟩ := cq_plan hW hc (xs (6 * i + 1)) (xs (6 * i + 2)) (xs (6 * i + 3))
  have hda : da 0 = da 0 := rfl
  refine lv_aload_n hx hb dL_law_787 rfl (lv_at hl 1 rfl) ?_
  refine lw_arg (j := 1) cx hX hbl hbA w.2.2.2.2.1 (by omega) hL hl rfl dL_law_788 dL_law_789 dL_law_790 dL_law_791 dL_law_792 ?_
  refine lw_arg (j := 2) cx hX hbl hbA w.2.2.2.2.1 (by omega) hL hl rfl dL_law_793 dL_law_794 dL_law_795 dL_law_796 dL_law_797 ?_
  refine lw_arg (j := 3) cx hX hbl hbA w.2.2.2.2.1 (by omega) hL hl rfl dL_law_798 dL_law_799 dL_law_800 dL_law_801 dL_law_802 ?_
  refine lc_i (cr_V (As := [.int (xs (6 * i + 1)), .int (xs (6 * i + 2)), .int (xs (6 * i + 3))]) (rest := []) cx (hcc_X8_plan l D cs t0 P P1 (da 0) (xs (6 * i + 1)) (xs (6 * i + 2)) (xs (6 * i + 3)) _ e1) kT9 hc.k0 (cwV 3 hts (uG uw_X8_plan ul_RL_85 ui_X8_plan us_RX8_X8_plan un_RX8) rfl rfl rfl ud_X8_plan ⟨Nat.le_of_ble_eq_true rfl, Nat.le_of_ble_eq_true rfl⟩) w rfl hl.1 rfl (Nat.le_of_ble_eq_true rfl) dL_law_803 ⟨by show cells + 0 ≤ 600000; omega, by show slots + 0 ≤ 7302250; omega⟩) hm (fun H1 locs1 w hm => ?_)
  refine lv_aload_n hx hb dL_law_806 rfl (lv_at hl 2 rfl) ?_
  refine lw_arg (j := 1) cx hX hbl hbA w.2.2.2.2.1 (by omega) hL hl rfl dL_law_807 dL_law_808 dL_law_809 dL_law_810 dL_law_811 ?_
  refine lw_arg (j := 2) cx hX hbl hbA w.2.2.2.2.1 (by omega) hL hl rfl dL_law_812 dL_law_813 dL_law_814 dL_law_815 dL_law_816 ?_
  refine lw_arg (j := 3) cx hX hbl hbA w.2.2.2.2.1 (by omega) hL hl rfl dL_law_817 dL_law_818 dL_law_819 dL_law_820 dL_law_821 ?_
  obtain ⟨S1, e2, g2⟩ := mq_plan hW hM (xs (6 * i + 1)) (xs (6 * i + 2)) (xs (6 * i + 3))
  have hW2 := hW
  refine lm_i (As := [.int (xs (6 * i + 1)), .int (xs (6 * i + 2)), .int (xs (6 * i + 3))]) (rest := [.int (sPlan Aa (xs (6 * i + 1)) (xs (6 * i + 2)) (xs (6 * i + 3)))]) cx (cc_plan l D cs adm S S1 (xs (6 * i + 1)) (xs (6 * i + 2)) (xs (6 * i + 3)) _ e2) (cwV 3 hts (uG uw_X9_plan ul_RL_88 ui_X9_plan us_RX9_X9_plan un_RX9) rfl rfl rfl ud_X9_plan ⟨Nat.le_of_ble_eq_true rfl, Nat.le_of_ble_eq_true rfl⟩) w hm rfl hl.1 rfl (Nat.le_of_ble_eq_true rfl) dL_law_822 ⟨by show cells + 0 + 0 ≤ 600000; omega, by show slots + 0 + 0 ≤ 7302250; omega⟩ (fun H2 locs2 w hm hz2 => ?_)
  refine lv_icmp_eq (tgt := 1373) hx hb dL_law_825 (by decide) (fun q => ?_) (fun q => ?_)
  · exact W.widen (k := cells + 1513) (n := slots + 96832) (by omega) (by omega) (next (Aa) _ _ _ _ _ hda w hm (h1.setZ hz2) g2 hW2)
  · exact absurd rfl q
set_option maxHeartbeats 4000000 in
set_option maxRecDepth 100000 in
theorem lk_18 (cx : mCx p s m #[Value.ref b] meth c RL code (Cond.classLink RL 7 RX8 :: wsL_law) 4 ty) (hX : va_X b L xs s s.heap) (hbl : b < s.heap.size) (hbA : ¬ A b) (hi : 6 * i + 6 ≤ L) (hL : L ≤ 384) (hf1 : cells + 1513 ≤ 600000) (hf2 : slots + 96832 ≤ 7302250) (hl : lv_has ls 4 [(0, .ref b), (1, .ref (da 0)), (2, .ref (adm 100)), (3, .int (nI (6 * i)))]) (w : cWd D cs t0 A s P H locs) (hm : mX D cs adm A S P H) (hc : CC t0 da Aa P) (hM : MM Aa S) (hW : WF Aa) (next : LNx p l e s m b below meth c cells slots Q ls D cs t0 A adm da) : W p l e room_1 s m #[Value.ref b] below meth c H locs cells slots Q (F0 m 830 ls []) := by
  obtain ⟨hx, hb, hr, hts, hown, hlocks, hml⟩ := id cx
  have e1 := cq_clash hW hc (xs (6 * i + 1)) (xs (6 * i + 2)) (xs (6 * i + 3))
  have h1 := hc
  have hda : da 0 = da 0 := rfl
  refine lv_aload_n hx hb dL_law_830 rfl (lv_at hl 1 rfl) ?_
  refine lw_arg (j := 1) cx hX hbl hbA w.2.2.2.2.1 (by omega) hL hl rfl dL_law_831 dL_law_832 dL_law_833 dL_law_834 dL_law_835 ?_
  refine lw_arg (j := 2) cx hX hbl hbA w.2.2.2.2.1 (by omega) hL hl rfl dL_law_836 dL_law_837 dL_law_838 dL_law_839 dL_law_840 ?_
  refine lw_arg (j := 3) cx hX hbl hbA w.2.2.2.2.1 (by omega) hL hl rfl dL_law_841 dL_law_842 dL_law_843 dL_law_844 dL_law_845 ?_
  refine lc_i (cr_V (As := [.int (xs (6 * i + 1)), .int (xs (6 * i + 2)), .int (xs (6 * i + 3))]) (rest := []) cx (hcc_X8_clash l D cs t0 P P (da 0) (xs (6 * i + 1)) (xs (6 * i + 2)) (xs (6 * i + 3)) _ e1) kT9 hc.k0 (cwV 3 hts (uG uw_X8_clash ul_RL_89 ui_X8_clash us_RX8_X8_clash un_RX8) rfl rfl rfl ud_X8_clash ⟨Nat.le_of_ble_eq_true rfl, Nat.le_of_ble_eq_true rfl⟩) w rfl hl.1 rfl (Nat.le_of_ble_eq_true rfl) dL_law_846 ⟨by show cells + 0 ≤ 600000; omega, by show slots + 0 ≤ 7302250; omega⟩) hm (fun H1 locs1 w hm => ?_)
  refine lv_aload_n hx hb dL_law_849 rfl (lv_at hl 2 rfl) ?_
  refine lw_arg (j := 1) cx hX hbl hbA w.2.2.2.2.1 (by omega) hL hl rfl dL_law_850 dL_law_851 dL_law_852 dL_law_853 dL_law_854 ?_
  refine lw_arg (j := 2) cx hX hbl hbA w.2.2.2.2.1 (by omega) hL hl rfl dL_law_855 dL_law_856 dL_law_857 dL_law_858 dL_law_859 ?_
  refine lw_arg (j := 3) cx hX hbl hbA w.2.2.2.2.1 (by omega) hL hl rfl dL_law_860 dL_law_861 dL_law_862 dL_law_863 dL_law_864 ?_
  obtain ⟨S1, e2, g2⟩ := mq_clash hW hM (xs (6 * i + 1)) (xs (6 * i + 2)) (xs (6 * i + 3))
  have hW2 := hW
  refine lm_i (As := [.int (xs (6 * i + 1)), .int (xs (6 * i + 2)), .int (xs (6 * i + 3))]) (rest := [.int (sClash Aa (xs (6 * i + 1)) (xs (6 * i + 2)) (xs (6 * i + 3)))]) cx (cc_clash l D cs adm S S1 (xs (6 * i + 1)) (xs (6 * i + 2)) (xs (6 * i + 3)) _ e2) (cwV 3 hts (uG uw_X9_clash ul_RL_92 ui_X9_clash us_RX9_X9_clash un_RX9) rfl rfl rfl ud_X9_clash ⟨Nat.le_of_ble_eq_true rfl, Nat.le_of_ble_eq_true rfl⟩) w hm rfl hl.1 rfl (Nat.le_of_ble_eq_true rfl) dL_law_865 ⟨by show cells + 0 + 0 ≤ 600000; omega, by show slots + 0 + 0 ≤ 7302250; omega⟩ (fun H2 locs2 w hm hz2 => ?_)
  refine lv_icmp_eq (tgt := 1373) hx hb dL_law_868 (by decide) (fun q => ?_) (fun q => ?_)
  · exact W.widen (k := cells + 1513) (n := slots + 96832) (by omega) (by omega) (next (Aa) _ _ _ _ _ hda w hm (h1.setZ hz2) g2 hW2)
  · exact absurd rfl q
set_option maxHeartbeats 4000000 in
set_option maxRecDepth 100000 in
theorem lk_19 (cx : mCx p s m #[Value.ref b] meth c RL code (Cond.classLink RL 7 RX8 :: wsL_law) 4 ty) (hX : va_X b L xs s s.heap) (hbl : b < s.heap.size) (hbA : ¬ A b) (hi : 6 * i + 6 ≤ L) (hL : L ≤ 384) (hf1 : cells + 1513 ≤ 600000) (hf2 : slots + 96832 ≤ 7302250) (hl : lv_has ls 4 [(0, .ref b), (1, .ref (da 0)), (2, .ref (adm 100)), (3, .int (nI (6 * i)))]) (w : cWd D cs t0 A s P H locs) (hm : mX D cs adm A S P H) (hc : CC t0 da Aa P) (hM : MM Aa S) (hW : WF Aa) (next : LNx p l e s m b below meth c cells slots Q ls D cs t0 A adm da) : W p l e room_1 s m #[Value.ref b] below meth c H locs cells slots Q (F0 m 873 ls []) := by
  obtain ⟨hx, hb, hr, hts, hown, hlocks, hml⟩ := id cx
  have e1 := cq_silent hW hc (xs (6 * i + 1)) (xs (6 * i + 2))
  have h1 := hc
  have hda : da 0 = da 0 := rfl
  refine lv_aload_n hx hb dL_law_873 rfl (lv_at hl 1 rfl) ?_
  refine lw_arg (j := 1) cx hX hbl hbA w.2.2.2.2.1 (by omega) hL hl rfl dL_law_874 dL_law_875 dL_law_876 dL_law_877 dL_law_878 ?_
  refine lw_arg (j := 2) cx hX hbl hbA w.2.2.2.2.1 (by omega) hL hl rfl dL_law_879 dL_law_880 dL_law_881 dL_law_882 dL_law_883 ?_
  refine lc_i (cr_V (As := [.int (xs (6 * i + 1)), .int (xs (6 * i + 2))]) (rest := []) cx (hcc_X8_silent l D cs t0 P P (da 0) (xs (6 * i + 1)) (xs (6 * i + 2)) _ e1) kT9 hc.k0 (cwV 2 hts (uG uw_X8_silent ul_RL_93 ui_X8_silent us_RX8_X8_silent un_RX8) rfl rfl rfl ud_X8_silent ⟨Nat.le_of_ble_eq_true rfl, Nat.le_of_ble_eq_true rfl⟩) w rfl hl.1 rfl (Nat.le_of_ble_eq_true rfl) dL_law_884 ⟨by show cells + 0 ≤ 600000; omega, by show slots + 0 ≤ 7302250; omega⟩) hm (fun H1 locs1 w hm => ?_)
  refine lv_aload_n hx hb dL_law_887 rfl (lv_at hl 2 rfl) ?_
  refine lw_arg (j := 1) cx hX hbl hbA w.2.2.2.2.1 (by omega) hL hl rfl dL_law_888 dL_law_889 dL_law_890 dL_law_891 dL_law_892 ?_
  refine lw_arg (j := 2) cx hX hbl hbA w.2.2.2.2.1 (by omega) hL hl rfl dL_law_893 dL_law_894 dL_law_895 dL_law_896 dL_law_897 ?_
  obtain ⟨S1, e2, g2⟩ := mq_silent hW hM (xs (6 * i + 1)) (xs (6 * i + 2))
  have hW2 := hW
  refine lm_i (As := [.int (xs (6 * i + 1)), .int (xs (6 * i + 2))]) (rest := [.int (sSilent Aa (xs (6 * i + 1)) (xs (6 * i + 2)))]) cx (cc_silent l D cs adm S S1 (xs (6 * i + 1)) (xs (6 * i + 2)) _ e2) (cwV 2 hts (uG uw_X9_silent ul_RL_96 ui_X9_silent us_RX9_X9_silent un_RX9) rfl rfl rfl ud_X9_silent ⟨Nat.le_of_ble_eq_true rfl, Nat.le_of_ble_eq_true rfl⟩) w hm rfl hl.1 rfl (Nat.le_of_ble_eq_true rfl) dL_law_898 ⟨by show cells + 0 + 0 ≤ 600000; omega, by show slots + 0 + 0 ≤ 7302250; omega⟩ (fun H2 locs2 w hm hz2 => ?_)
  refine lv_icmp_eq (tgt := 1373) hx hb dL_law_901 (by decide) (fun q => ?_) (fun q => ?_)
  · exact W.widen (k := cells + 1513) (n := slots + 96832) (by omega) (by omega) (next (Aa) _ _ _ _ _ hda w hm (h1.setZ hz2) g2 hW2)
  · exact absurd rfl q
set_option maxHeartbeats 4000000 in
set_option maxRecDepth 100000 in
theorem lk_20 (cx : mCx p s m #[Value.ref b] meth c RL code (Cond.classLink RL 7 RX8 :: wsL_law) 4 ty) (hX : va_X b L xs s s.heap) (hbl : b < s.heap.size) (hbA : ¬ A b) (hi : 6 * i + 6 ≤ L) (hL : L ≤ 384) (hf1 : cells + 1513 ≤ 600000) (hf2 : slots + 96832 ≤ 7302250) (hl : lv_has ls 4 [(0, .ref b), (1, .ref (da 0)), (2, .ref (adm 100)), (3, .int (nI (6 * i)))]) (w : cWd D cs t0 A s P H locs) (hm : mX D cs adm A S P H) (hc : CC t0 da Aa P) (hM : MM Aa S) (hW : WF Aa) (next : LNx p l e s m b below meth c cells slots Q ls D cs t0 A adm da) : W p l e room_1 s m #[Value.ref b] below meth c H locs cells slots Q (F0 m 906 ls []) := by
  obtain ⟨hx, hb, hr, hts, hown, hlocks, hml⟩ := id cx
  obtain ⟨P1, e1, h1⟩ := cq_hangs hW hc (xs (6 * i + 1))
  have hda : da 0 = da 0 := rfl
  refine lv_aload_n hx hb dL_law_906 rfl (lv_at hl 1 rfl) ?_
  refine lw_arg (j := 1) cx hX hbl hbA w.2.2.2.2.1 (by omega) hL hl rfl dL_law_907 dL_law_908 dL_law_909 dL_law_910 dL_law_911 ?_
  refine lc_i (cr_V (As := [.int (xs (6 * i + 1))]) (rest := []) cx (hcc_X8_hangs l D cs t0 P P1 (da 0) (xs (6 * i + 1)) _ e1) kT9 hc.k0 (cwV 1 hts (uG uw_X8_hangs ul_RL_97 ui_X8_hangs us_RX8_X8_hangs un_RX8) rfl rfl rfl ud_X8_hangs ⟨Nat.le_of_ble_eq_true rfl, Nat.le_of_ble_eq_true rfl⟩) w rfl hl.1 rfl (Nat.le_of_ble_eq_true rfl) dL_law_912 ⟨by show cells + 0 ≤ 600000; omega, by show slots + 0 ≤ 7302250; omega⟩) hm (fun H1 locs1 w hm => ?_)
  refine lv_aload_n hx hb dL_law_915 rfl (lv_at hl 2 rfl) ?_
  refine lw_arg (j := 1) cx hX hbl hbA w.2.2.2.2.1 (by omega) hL hl rfl dL_law_916 dL_law_917 dL_law_918 dL_law_919 dL_law_920 ?_
  obtain ⟨S1, e2, g2⟩ := mq_hangs hW hM (xs (6 * i + 1))
  have hW2 := hW
  refine lm_i (As := [.int (xs (6 * i + 1))]) (rest := [.int (sHangs Aa (xs (6 * i + 1)))]) cx (cc_hangs l D cs adm S S1 (xs (6 * i + 1)) _ e2) (cwV 1 hts (uG uw_X9_hangs ul_RL_100 ui_X9_hangs us_RX9_X9_hangs un_RX9) rfl rfl rfl ud_X9_hangs ⟨Nat.le_of_ble_eq_true rfl, Nat.le_of_ble_eq_true rfl⟩) w hm rfl hl.1 rfl (Nat.le_of_ble_eq_true rfl) dL_law_921 ⟨by show cells + 0 + 0 ≤ 600000; omega, by show slots + 0 + 0 ≤ 7302250; omega⟩ (fun H2 locs2 w hm hz2 => ?_)
  refine lv_icmp_eq (tgt := 1373) hx hb dL_law_924 (by decide) (fun q => ?_) (fun q => ?_)
  · exact W.widen (k := cells + 1513) (n := slots + 96832) (by omega) (by omega) (next (Aa) _ _ _ _ _ hda w hm (h1.setZ hz2) g2 hW2)
  · exact absurd rfl q
set_option maxHeartbeats 4000000 in
set_option maxRecDepth 100000 in
theorem lk_21 (cx : mCx p s m #[Value.ref b] meth c RL code (Cond.classLink RL 7 RX8 :: wsL_law) 4 ty) (hX : va_X b L xs s s.heap) (hbl : b < s.heap.size) (hbA : ¬ A b) (hi : 6 * i + 6 ≤ L) (hL : L ≤ 384) (hf1 : cells + 1513 ≤ 600000) (hf2 : slots + 96832 ≤ 7302250) (hl : lv_has ls 4 [(0, .ref b), (1, .ref (da 0)), (2, .ref (adm 100)), (3, .int (nI (6 * i)))]) (w : cWd D cs t0 A s P H locs) (hm : mX D cs adm A S P H) (hc : CC t0 da Aa P) (hM : MM Aa S) (hW : WF Aa) (next : LNx p l e s m b below meth c cells slots Q ls D cs t0 A adm da) : W p l e room_1 s m #[Value.ref b] below meth c H locs cells slots Q (F0 m 929 ls []) := by
  obtain ⟨hx, hb, hr, hts, hown, hlocks, hml⟩ := id cx
  obtain ⟨P1, e1, h1⟩ := cq_most hW hc 
  have hda : da 0 = da 0 := rfl
  refine lv_aload_n hx hb dL_law_929 rfl (lv_at hl 1 rfl) ?_
  refine lc_i (cr_V (As := []) (rest := []) cx (hcc_X8_most l D cs t0 P P1 (da 0)  _ e1) kT9 hc.k0 (cwV 0 hts (uG uw_X8_most ul_RL_101 ui_X8_most us_RX8_X8_most un_RX8) rfl rfl rfl ud_X8_most ⟨Nat.le_of_ble_eq_true rfl, Nat.le_of_ble_eq_true rfl⟩) w rfl hl.1 rfl (Nat.le_of_ble_eq_true rfl) dL_law_930 ⟨by show cells + 0 ≤ 600000; omega, by show slots + 0 ≤ 7302250; omega⟩) hm (fun H1 locs1 w hm => ?_)
  refine lv_aload_n hx hb dL_law_933 rfl (lv_at hl 2 rfl) ?_
  obtain ⟨S1, e2, g2⟩ := mq_most hW hM 
  have hW2 := hW
  refine lm_i (As := []) (rest := [.int (sMost Aa )]) cx (cc_most l D cs adm S S1  _ e2) (cwV 0 hts (uG uw_X9_most ul_RL_105 ui_X9_most us_RX9_X9_most un_RX9) rfl rfl rfl ud_X9_most ⟨Nat.le_of_ble_eq_true rfl, Nat.le_of_ble_eq_true rfl⟩) w hm rfl hl.1 rfl (Nat.le_of_ble_eq_true rfl) dL_law_934 ⟨by show cells + 0 + 0 ≤ 600000; omega, by show slots + 0 + 0 ≤ 7302250; omega⟩ (fun H2 locs2 w hm hz2 => ?_)
  refine lv_icmp_eq (tgt := 1373) hx hb dL_law_937 (by decide) (fun q => ?_) (fun q => ?_)
  · exact W.widen (k := cells + 1513) (n := slots + 96832) (by omega) (by omega) (next (Aa) _ _ _ _ _ hda w hm (h1.setZ hz2) g2 hW2)
  · exact absurd rfl q
set_option maxHeartbeats 4000000 in
set_option maxRecDepth 100000 in
theorem lk_22 (cx : mCx p s m #[Value.ref b] meth c RL code (Cond.classLink RL 7 RX8 :: wsL_law) 4 ty) (hX : va_X b L xs s s.heap) (hbl : b < s.heap.size) (hbA : ¬ A b) (hi : 6 * i + 6 ≤ L) (hL : L ≤ 384) (hf1 : cells + 1513 ≤ 600000) (hf2 : slots + 96832 ≤ 7302250) (hl : lv_has ls 4 [(0, .ref b), (1, .ref (da 0)), (2, .ref (adm 100)), (3, .int (nI (6 * i)))]) (w : cWd D cs t0 A s P H locs) (hm : mX D cs adm A S P H) (hc : CC t0 da Aa P) (hM : MM Aa S) (hW : WF Aa) (next : LNx p l e s m b below meth c cells slots Q ls D cs t0 A adm da) : W p l e room_1 s m #[Value.ref b] below meth c H locs cells slots Q (F0 m 942 ls []) := by
  obtain ⟨hx, hb, hr, hts, hown, hlocks, hml⟩ := id cx
  have e1 := cq_beside hW hc (xs (6 * i + 1)) (xs (6 * i + 2))
  have h1 := hc
  have hda : da 0 = da 0 := rfl
  refine lv_aload_n hx hb dL_law_942 rfl (lv_at hl 1 rfl) ?_
  refine lw_arg (j := 1) cx hX hbl hbA w.2.2.2.2.1 (by omega) hL hl rfl dL_law_943 dL_law_944 dL_law_945 dL_law_946 dL_law_947 ?_
  refine lw_arg (j := 2) cx hX hbl hbA w.2.2.2.2.1 (by omega) hL hl rfl dL_law_948 dL_law_949 dL_law_950 dL_law_951 dL_law_952 ?_
  refine lc_i (cr_V (As := [.int (xs (6 * i + 1)), .int (xs (6 * i + 2))]) (rest := []) cx (hcc_X8_beside l D cs t0 P P (da 0) (xs (6 * i + 1)) (xs (6 * i + 2)) _ e1) kT9 hc.k0 (cwV 2 hts (uG uw_X8_beside ul_RL_106 ui_X8_beside us_RX8_X8_beside un_RX8) rfl rfl rfl ud_X8_beside ⟨Nat.le_of_ble_eq_true rfl, Nat.le_of_ble_eq_true rfl⟩) w rfl hl.1 rfl (Nat.le_of_ble_eq_true rfl) dL_law_953 ⟨by show cells + 0 ≤ 600000; omega, by show slots + 0 ≤ 7302250; omega⟩) hm (fun H1 locs1 w hm => ?_)
  refine lv_aload_n hx hb dL_law_956 rfl (lv_at hl 2 rfl) ?_
  refine lw_arg (j := 1) cx hX hbl hbA w.2.2.2.2.1 (by omega) hL hl rfl dL_law_957 dL_law_958 dL_law_959 dL_law_960 dL_law_961 ?_
  refine lw_arg (j := 2) cx hX hbl hbA w.2.2.2.2.1 (by omega) hL hl rfl dL_law_962 dL_law_963 dL_law_964 dL_law_965 dL_law_966 ?_
  obtain ⟨S1, e2, g2⟩ := mq_beside hW hM (xs (6 * i + 1)) (xs (6 * i + 2))
  have hW2 := hW
  refine lm_i (As := [.int (xs (6 * i + 1)), .int (xs (6 * i + 2))]) (rest := [.int (sBeside Aa (xs (6 * i + 1)) (xs (6 * i + 2)))]) cx (cc_beside l D cs adm S S1 (xs (6 * i + 1)) (xs (6 * i + 2)) _ e2) (cwV 2 hts (uG uw_X9_beside ul_RL_109 ui_X9_beside us_RX9_X9_beside un_RX9) rfl rfl rfl ud_X9_beside ⟨Nat.le_of_ble_eq_true rfl, Nat.le_of_ble_eq_true rfl⟩) w hm rfl hl.1 rfl (Nat.le_of_ble_eq_true rfl) dL_law_967 ⟨by show cells + 0 + 0 ≤ 600000; omega, by show slots + 0 + 0 ≤ 7302250; omega⟩ (fun H2 locs2 w hm hz2 => ?_)
  refine lv_icmp_eq (tgt := 1373) hx hb dL_law_970 (by decide) (fun q => ?_) (fun q => ?_)
  · exact W.widen (k := cells + 1513) (n := slots + 96832) (by omega) (by omega) (next (Aa) _ _ _ _ _ hda w hm (h1.setZ hz2) g2 hW2)
  · exact absurd rfl q
set_option maxHeartbeats 4000000 in
set_option maxRecDepth 100000 in
theorem lk_23 (cx : mCx p s m #[Value.ref b] meth c RL code (Cond.classLink RL 7 RX8 :: wsL_law) 4 ty) (hX : va_X b L xs s s.heap) (hbl : b < s.heap.size) (hbA : ¬ A b) (hi : 6 * i + 6 ≤ L) (hL : L ≤ 384) (hf1 : cells + 1513 ≤ 600000) (hf2 : slots + 96832 ≤ 7302250) (hl : lv_has ls 4 [(0, .ref b), (1, .ref (da 0)), (2, .ref (adm 100)), (3, .int (nI (6 * i)))]) (w : cWd D cs t0 A s P H locs) (hm : mX D cs adm A S P H) (hc : CC t0 da Aa P) (hM : MM Aa S) (hW : WF Aa) (next : LNx p l e s m b below meth c cells slots Q ls D cs t0 A adm da) : W p l e room_1 s m #[Value.ref b] below meth c H locs cells slots Q (F0 m 975 ls []) := by
  obtain ⟨hx, hb, hr, hts, hown, hlocks, hml⟩ := id cx
  obtain ⟨da1, P1, e1, h1, hda⟩ := cu_way hW hc (xs (6 * i + 1)) (xs (6 * i + 2)) (xs (6 * i + 3)) (xs (6 * i + 4)) (xs (6 * i + 5))
  refine lv_aload_n hx hb dL_law_975 rfl (lv_at hl 1 rfl) ?_
  refine lw_arg (j := 1) cx hX hbl hbA w.2.2.2.2.1 (by omega) hL hl rfl dL_law_976 dL_law_977 dL_law_978 dL_law_979 dL_law_980 ?_
  refine lw_arg (j := 2) cx hX hbl hbA w.2.2.2.2.1 (by omega) hL hl rfl dL_law_981 dL_law_982 dL_law_983 dL_law_984 dL_law_985 ?_
  refine lw_arg (j := 3) cx hX hbl hbA w.2.2.2.2.1 (by omega) hL hl rfl dL_law_986 dL_law_987 dL_law_988 dL_law_989 dL_law_990 ?_
  refine lw_arg (j := 4) cx hX hbl hbA w.2.2.2.2.1 (by omega) hL hl rfl dL_law_991 dL_law_992 dL_law_993 dL_law_994 dL_law_995 ?_
  refine lw_arg (j := 5) cx hX hbl hbA w.2.2.2.2.1 (by omega) hL hl rfl dL_law_996 dL_law_997 dL_law_998 dL_law_999 dL_law_1000 ?_
  refine lc_i (cr_V (As := [.int (xs (6 * i + 1)), .int (xs (6 * i + 2)), .int (xs (6 * i + 3)), .int (xs (6 * i + 4)), .int (xs (6 * i + 5))]) (rest := []) cx (hcc_X8_way l D cs t0 P P1 (da 0) (xs (6 * i + 1)) (xs (6 * i + 2)) (xs (6 * i + 3)) (xs (6 * i + 4)) (xs (6 * i + 5)) _ e1) kT9 hc.k0 (cwV 5 hts (uG uw_X8_way ul_RL_110 ui_X8_way us_RX8_X8_way un_RX8) rfl rfl rfl ud_X8_way ⟨Nat.le_of_ble_eq_true rfl, Nat.le_of_ble_eq_true rfl⟩) w rfl hl.1 rfl (Nat.le_of_ble_eq_true rfl) dL_law_1001 ⟨by show cells + 1513 ≤ 600000; omega, by show slots + 96832 ≤ 7302250; omega⟩) hm (fun H1 locs1 w hm => ?_)
  refine lv_aload_n hx hb dL_law_1004 rfl (lv_at hl 2 rfl) ?_
  refine lw_arg (j := 1) cx hX hbl hbA w.2.2.2.2.1 (by omega) hL hl rfl dL_law_1005 dL_law_1006 dL_law_1007 dL_law_1008 dL_law_1009 ?_
  refine lw_arg (j := 2) cx hX hbl hbA w.2.2.2.2.1 (by omega) hL hl rfl dL_law_1010 dL_law_1011 dL_law_1012 dL_law_1013 dL_law_1014 ?_
  refine lw_arg (j := 3) cx hX hbl hbA w.2.2.2.2.1 (by omega) hL hl rfl dL_law_1015 dL_law_1016 dL_law_1017 dL_law_1018 dL_law_1019 ?_
  refine lw_arg (j := 4) cx hX hbl hbA w.2.2.2.2.1 (by omega) hL hl rfl dL_law_1020 dL_law_1021 dL_law_1022 dL_law_1023 dL_law_1024 ?_
  refine lw_arg (j := 5) cx hX hbl hbA w.2.2.2.2.1 (by omega) hL hl rfl dL_law_1025 dL_law_1026 dL_law_1027 dL_law_1028 dL_law_1029 ?_
  obtain ⟨S1, e2, g2⟩ := mq_way hW hM (xs (6 * i + 1)) (xs (6 * i + 2)) (xs (6 * i + 3)) (xs (6 * i + 4)) (xs (6 * i + 5))
  have hW2 := hW
  refine lm_i (As := [.int (xs (6 * i + 1)), .int (xs (6 * i + 2)), .int (xs (6 * i + 3)), .int (xs (6 * i + 4)), .int (xs (6 * i + 5))]) (rest := [.int (sWay Aa (xs (6 * i + 1)) (xs (6 * i + 2)) (xs (6 * i + 3)) (xs (6 * i + 4)) (xs (6 * i + 5)))]) cx (cc_way l D cs adm S S1 (xs (6 * i + 1)) (xs (6 * i + 2)) (xs (6 * i + 3)) (xs (6 * i + 4)) (xs (6 * i + 5)) _ e2) (cwV 5 hts (uG uw_X9_way ul_RL_114 ui_X9_way us_RX9_X9_way un_RX9) rfl rfl rfl ud_X9_way ⟨Nat.le_of_ble_eq_true rfl, Nat.le_of_ble_eq_true rfl⟩) w hm rfl hl.1 rfl (Nat.le_of_ble_eq_true rfl) dL_law_1030 ⟨by show cells + 1513 + 0 ≤ 600000; omega, by show slots + 96832 + 0 ≤ 7302250; omega⟩ (fun H2 locs2 w hm hz2 => ?_)
  refine lv_icmp_eq (tgt := 1373) hx hb dL_law_1033 (by decide) (fun q => ?_) (fun q => ?_)
  · exact W.widen (k := cells + 1513) (n := slots + 96832) (by omega) (by omega) (next (Aa) _ _ _ _ _ hda w hm (h1.setZ hz2) g2 hW2)
  · exact absurd rfl q
end LWC
