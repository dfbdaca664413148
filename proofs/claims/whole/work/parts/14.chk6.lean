/-! every entry of the table is what the bytes and the tables' words say -/
theorem xmok_0 : (List.range' 0 20).all (fun mi => mi == 0 || xmok mi) = true := by decide +kernel
theorem xmok_20 : (List.range' 20 20).all (fun mi => mi == 0 || xmok mi) = true := by decide +kernel
theorem xmok_40 : (List.range' 40 20).all (fun mi => mi == 0 || xmok mi) = true := by decide +kernel
theorem xmok_60 : (List.range' 60 20).all (fun mi => mi == 0 || xmok mi) = true := by decide +kernel
theorem xmok_80 : (List.range' 80 20).all (fun mi => mi == 0 || xmok mi) = true := by decide +kernel
theorem xmok_100 : (List.range' 100 20).all (fun mi => mi == 0 || xmok mi) = true := by decide +kernel
theorem xmok_120 : (List.range' 120 20).all (fun mi => mi == 0 || xmok mi) = true := by decide +kernel
theorem xmok_140 : (List.range' 140 20).all (fun mi => mi == 0 || xmok mi) = true := by decide +kernel
theorem xmok_160 : (List.range' 160 20).all (fun mi => mi == 0 || xmok mi) = true := by decide +kernel
theorem xmok_180 : (List.range' 180 20).all (fun mi => mi == 0 || xmok mi) = true := by decide +kernel
theorem xmok_200 : (List.range' 200 20).all (fun mi => mi == 0 || xmok mi) = true := by decide +kernel
theorem xmok_220 : (List.range' 220 20).all (fun mi => mi == 0 || xmok mi) = true := by decide +kernel
theorem xmok_240 : (List.range' 240 20).all (fun mi => mi == 0 || xmok mi) = true := by decide +kernel
theorem xmok_260 : (List.range' 260 20).all (fun mi => mi == 0 || xmok mi) = true := by decide +kernel
theorem xmok_280 : (List.range' 280 20).all (fun mi => mi == 0 || xmok mi) = true := by decide +kernel
theorem xmok_300 : (List.range' 300 20).all (fun mi => mi == 0 || xmok mi) = true := by decide +kernel
theorem cw_1 : lw_tbl[136]? = some (Cond.code mt_1.1 mt_1.2.1 mt_1.2.2.1 mt_1.2.2.2) := by decide +kernel
theorem cw_2 : lw_tbl[610]? = some (Cond.code mt_2.1 mt_2.2.1 mt_2.2.2.1 mt_2.2.2.2) := by decide +kernel
theorem cw_3 : lw_tbl[622]? = some (Cond.code mt_3.1 mt_3.2.1 mt_3.2.2.1 mt_3.2.2.2) := by decide +kernel
theorem cw_4 : lw_tbl[626]? = some (Cond.code mt_4.1 mt_4.2.1 mt_4.2.2.1 mt_4.2.2.2) := by decide +kernel
theorem cw_5 : lw_tbl[822]? = some (Cond.code mt_5.1 mt_5.2.1 mt_5.2.2.1 mt_5.2.2.2) := by decide +kernel
theorem cw_6 : lw_tbl[830]? = some (Cond.code mt_6.1 mt_6.2.1 mt_6.2.2.1 mt_6.2.2.2) := by decide +kernel
theorem cw_7 : lw_tbl[842]? = some (Cond.code mt_7.1 mt_7.2.1 mt_7.2.2.1 mt_7.2.2.2) := by decide +kernel
theorem cw_8 : lw_tbl[846]? = some (Cond.code mt_8.1 mt_8.2.1 mt_8.2.2.1 mt_8.2.2.2) := by decide +kernel
theorem cw_9 : lw_tbl[908]? = some (Cond.code mt_9.1 mt_9.2.1 mt_9.2.2.1 mt_9.2.2.2) := by decide +kernel
theorem cw_10 : lw_tbl[912]? = some (Cond.code mt_10.1 mt_10.2.1 mt_10.2.2.1 mt_10.2.2.2) := by decide +kernel
theorem cw_11 : lw_tbl[970]? = some (Cond.code mt_11.1 mt_11.2.1 mt_11.2.2.1 mt_11.2.2.2) := by decide +kernel
theorem cw_12 : lw_tbl[974]? = some (Cond.code mt_12.1 mt_12.2.1 mt_12.2.2.1 mt_12.2.2.2) := by decide +kernel
theorem cw_13 : lw_tbl[979]? = some (Cond.code mt_13.1 mt_13.2.1 mt_13.2.2.1 mt_13.2.2.2) := by decide +kernel
theorem cw_14 : lw_tbl[987]? = some (Cond.code mt_14.1 mt_14.2.1 mt_14.2.2.1 mt_14.2.2.2) := by decide +kernel
theorem cw_15 : lw_tbl[1009]? = some (Cond.code mt_15.1 mt_15.2.1 mt_15.2.2.1 mt_15.2.2.2) := by decide +kernel
theorem cw_16 : lw_tbl[1027]? = some (Cond.code mt_16.1 mt_16.2.1 mt_16.2.2.1 mt_16.2.2.2) := by decide +kernel
theorem cw_17 : lw_tbl[1031]? = some (Cond.code mt_17.1 mt_17.2.1 mt_17.2.2.1 mt_17.2.2.2) := by decide +kernel
theorem cw_18 : lw_tbl[1044]? = some (Cond.code mt_18.1 mt_18.2.1 mt_18.2.2.1 mt_18.2.2.2) := by decide +kernel
theorem cw_19 : lw_tbl[1054]? = some (Cond.code mt_19.1 mt_19.2.1 mt_19.2.2.1 mt_19.2.2.2) := by decide +kernel
theorem cw_20 : lw_tbl[1057]? = some (Cond.code mt_20.1 mt_20.2.1 mt_20.2.2.1 mt_20.2.2.2) := by decide +kernel
theorem cw_21 : lw_tbl[1191]? = some (Cond.code mt_21.1 mt_21.2.1 mt_21.2.2.1 mt_21.2.2.2) := by decide +kernel
theorem cw_22 : lw_tbl[1210]? = some (Cond.code mt_22.1 mt_22.2.1 mt_22.2.2.1 mt_22.2.2.2) := by decide +kernel
theorem cw_23 : lw_tbl[1216]? = some (Cond.code mt_23.1 mt_23.2.1 mt_23.2.2.1 mt_23.2.2.2) := by decide +kernel
theorem cw_24 : lw_tbl[1220]? = some (Cond.code mt_24.1 mt_24.2.1 mt_24.2.2.1 mt_24.2.2.2) := by decide +kernel
theorem cw_25 : lw_tbl[1228]? = some (Cond.code mt_25.1 mt_25.2.1 mt_25.2.2.1 mt_25.2.2.2) := by decide +kernel
theorem cw_26 : lw_tbl[1232]? = some (Cond.code mt_26.1 mt_26.2.1 mt_26.2.2.1 mt_26.2.2.2) := by decide +kernel
theorem cw_27 : lw_tbl[1240]? = some (Cond.code mt_27.1 mt_27.2.1 mt_27.2.2.1 mt_27.2.2.2) := by decide +kernel
theorem cw_28 : lw_tbl[1253]? = some (Cond.code mt_28.1 mt_28.2.1 mt_28.2.2.1 mt_28.2.2.2) := by decide +kernel
theorem cw_29 : lw_tbl[1257]? = some (Cond.code mt_29.1 mt_29.2.1 mt_29.2.2.1 mt_29.2.2.2) := by decide +kernel
theorem cw_30 : lw_tbl[1292]? = some (Cond.code mt_30.1 mt_30.2.1 mt_30.2.2.1 mt_30.2.2.2) := by decide +kernel
theorem cw_31 : lw_tbl[1300]? = some (Cond.code mt_31.1 mt_31.2.1 mt_31.2.2.1 mt_31.2.2.2) := by decide +kernel
theorem cw_32 : lw_tbl[1309]? = some (Cond.code mt_32.1 mt_32.2.1 mt_32.2.2.1 mt_32.2.2.2) := by decide +kernel
theorem cw_33 : lw_tbl[1324]? = some (Cond.code mt_33.1 mt_33.2.1 mt_33.2.2.1 mt_33.2.2.2) := by decide +kernel
theorem cw_34 : lw_tbl[1328]? = some (Cond.code mt_34.1 mt_34.2.1 mt_34.2.2.1 mt_34.2.2.2) := by decide +kernel
theorem cw_35 : lw_tbl[1336]? = some (Cond.code mt_35.1 mt_35.2.1 mt_35.2.2.1 mt_35.2.2.2) := by decide +kernel
theorem cw_36 : lw_tbl[1344]? = some (Cond.code mt_36.1 mt_36.2.1 mt_36.2.2.1 mt_36.2.2.2) := by decide +kernel
theorem cw_37 : lw_tbl[1353]? = some (Cond.code mt_37.1 mt_37.2.1 mt_37.2.2.1 mt_37.2.2.2) := by decide +kernel
theorem cw_38 : lw_tbl[1357]? = some (Cond.code mt_38.1 mt_38.2.1 mt_38.2.2.1 mt_38.2.2.2) := by decide +kernel
theorem cw_39 : lw_tbl[1361]? = some (Cond.code mt_39.1 mt_39.2.1 mt_39.2.2.1 mt_39.2.2.2) := by decide +kernel
theorem cw_40 : lw_tbl[1376]? = some (Cond.code mt_40.1 mt_40.2.1 mt_40.2.2.1 mt_40.2.2.2) := by decide +kernel
theorem cw_41 : lw_tbl[1407]? = some (Cond.code mt_41.1 mt_41.2.1 mt_41.2.2.1 mt_41.2.2.2) := by decide +kernel
theorem cw_42 : lw_tbl[1427]? = some (Cond.code mt_42.1 mt_42.2.1 mt_42.2.2.1 mt_42.2.2.2) := by decide +kernel
theorem cw_43 : lw_tbl[1431]? = some (Cond.code mt_43.1 mt_43.2.1 mt_43.2.2.1 mt_43.2.2.2) := by decide +kernel
theorem cw_44 : lw_tbl[1436]? = some (Cond.code mt_44.1 mt_44.2.1 mt_44.2.2.1 mt_44.2.2.2) := by decide +kernel
theorem cw_45 : lw_tbl[1445]? = some (Cond.code mt_45.1 mt_45.2.1 mt_45.2.2.1 mt_45.2.2.2) := by decide +kernel
theorem cw_46 : lw_tbl[1453]? = some (Cond.code mt_46.1 mt_46.2.1 mt_46.2.2.1 mt_46.2.2.2) := by decide +kernel
theorem cw_47 : lw_tbl[1463]? = some (Cond.code mt_47.1 mt_47.2.1 mt_47.2.2.1 mt_47.2.2.2) := by decide +kernel
theorem cw_48 : lw_tbl[1471]? = some (Cond.code mt_48.1 mt_48.2.1 mt_48.2.2.1 mt_48.2.2.2) := by decide +kernel
theorem cw_49 : lw_tbl[1475]? = some (Cond.code mt_49.1 mt_49.2.1 mt_49.2.2.1 mt_49.2.2.2) := by decide +kernel
theorem cw_50 : lw_tbl[1480]? = some (Cond.code mt_50.1 mt_50.2.1 mt_50.2.2.1 mt_50.2.2.2) := by decide +kernel
theorem cw_51 : lw_tbl[1484]? = some (Cond.code mt_51.1 mt_51.2.1 mt_51.2.2.1 mt_51.2.2.2) := by decide +kernel
theorem cw_52 : lw_tbl[370]? = some (Cond.code mt_52.1 mt_52.2.1 mt_52.2.2.1 mt_52.2.2.2) := by decide +kernel
theorem cw_53 : lw_tbl[826]? = some (Cond.code mt_53.1 mt_53.2.1 mt_53.2.2.1 mt_53.2.2.2) := by decide +kernel
theorem cw_54 : lw_tbl[1005]? = some (Cond.code mt_54.1 mt_54.2.1 mt_54.2.2.1 mt_54.2.2.2) := by decide +kernel
theorem cw_55 : lw_tbl[1449]? = some (Cond.code mt_55.1 mt_55.2.1 mt_55.2.2.1 mt_55.2.2.2) := by decide +kernel
theorem cw_56 : lw_tbl[1456]? = some (Cond.code mt_56.1 mt_56.2.1 mt_56.2.2.1 mt_56.2.2.2) := by decide +kernel
theorem cw_57 : lw_tbl[1459]? = some (Cond.code mt_57.1 mt_57.2.1 mt_57.2.2.1 mt_57.2.2.2) := by decide +kernel
theorem cw_58 : lw_tbl[1467]? = some (Cond.code mt_58.1 mt_58.2.1 mt_58.2.2.1 mt_58.2.2.2) := by decide +kernel
theorem cw_59 : lw_tbl[192]? = some (Cond.code mt_59.1 mt_59.2.1 mt_59.2.2.1 mt_59.2.2.2) := by decide +kernel
theorem cw_60 : lw_tbl[197]? = some (Cond.code mt_60.1 mt_60.2.1 mt_60.2.2.1 mt_60.2.2.2) := by decide +kernel
theorem cw_61 : lw_tbl[203]? = some (Cond.code mt_61.1 mt_61.2.1 mt_61.2.2.1 mt_61.2.2.2) := by decide +kernel
theorem cw_62 : lw_tbl[207]? = some (Cond.code mt_62.1 mt_62.2.1 mt_62.2.2.1 mt_62.2.2.2) := by decide +kernel
theorem cw_63 : lw_tbl[210]? = some (Cond.code mt_63.1 mt_63.2.1 mt_63.2.2.1 mt_63.2.2.2) := by decide +kernel
theorem cw_64 : lw_tbl[214]? = some (Cond.code mt_64.1 mt_64.2.1 mt_64.2.2.1 mt_64.2.2.2) := by decide +kernel
theorem cw_65 : lw_tbl[630]? = some (Cond.code mt_65.1 mt_65.2.1 mt_65.2.2.1 mt_65.2.2.2) := by decide +kernel
theorem cw_66 : lw_tbl[754]? = some (Cond.code mt_66.1 mt_66.2.1 mt_66.2.2.1 mt_66.2.2.2) := by decide +kernel
theorem cw_67 : lw_tbl[796]? = some (Cond.code mt_67.1 mt_67.2.1 mt_67.2.2.1 mt_67.2.2.2) := by decide +kernel
theorem cw_68 : lw_tbl[804]? = some (Cond.code mt_68.1 mt_68.2.1 mt_68.2.2.1 mt_68.2.2.2) := by decide +kernel
theorem cw_69 : lw_tbl[818]? = some (Cond.code mt_69.1 mt_69.2.1 mt_69.2.2.1 mt_69.2.2.2) := by decide +kernel
theorem cw_70 : lw_tbl[894]? = some (Cond.code mt_70.1 mt_70.2.1 mt_70.2.2.1 mt_70.2.2.2) := by decide +kernel
theorem cw_71 : lw_tbl[898]? = some (Cond.code mt_71.1 mt_71.2.1 mt_71.2.2.1 mt_71.2.2.2) := by decide +kernel
theorem cw_72 : lw_tbl[902]? = some (Cond.code mt_72.1 mt_72.2.1 mt_72.2.2.1 mt_72.2.2.2) := by decide +kernel
theorem cw_73 : lw_tbl[1017]? = some (Cond.code mt_73.1 mt_73.2.1 mt_73.2.2.1 mt_73.2.2.2) := by decide +kernel
theorem cw_74 : lw_tbl[1021]? = some (Cond.code mt_74.1 mt_74.2.1 mt_74.2.2.1 mt_74.2.2.2) := by decide +kernel
theorem cw_75 : lw_tbl[1440]? = some (Cond.code mt_75.1 mt_75.2.1 mt_75.2.2.1 mt_75.2.2.2) := by decide +kernel
theorem cw_76 : lw_tbl[244]? = some (Cond.code mt_76.1 mt_76.2.1 mt_76.2.2.1 mt_76.2.2.2) := by decide +kernel
theorem cw_77 : lw_tbl[916]? = some (Cond.code mt_77.1 mt_77.2.1 mt_77.2.2.1 mt_77.2.2.2) := by decide +kernel
theorem cw_78 : lw_tbl[922]? = some (Cond.code mt_78.1 mt_78.2.1 mt_78.2.2.1 mt_78.2.2.2) := by decide +kernel
theorem cw_79 : lw_tbl[926]? = some (Cond.code mt_79.1 mt_79.2.1 mt_79.2.2.1 mt_79.2.2.2) := by decide +kernel
theorem cw_80 : lw_tbl[930]? = some (Cond.code mt_80.1 mt_80.2.1 mt_80.2.2.1 mt_80.2.2.2) := by decide +kernel
theorem cw_81 : lw_tbl[934]? = some (Cond.code mt_81.1 mt_81.2.1 mt_81.2.2.1 mt_81.2.2.2) := by decide +kernel
theorem cw_82 : lw_tbl[942]? = some (Cond.code mt_82.1 mt_82.2.1 mt_82.2.2.1 mt_82.2.2.2) := by decide +kernel
theorem cw_83 : lw_tbl[946]? = some (Cond.code mt_83.1 mt_83.2.1 mt_83.2.2.1 mt_83.2.2.2) := by decide +kernel
theorem cw_84 : lw_tbl[950]? = some (Cond.code mt_84.1 mt_84.2.1 mt_84.2.2.1 mt_84.2.2.2) := by decide +kernel
theorem cw_85 : lw_tbl[954]? = some (Cond.code mt_85.1 mt_85.2.1 mt_85.2.2.1 mt_85.2.2.2) := by decide +kernel
theorem cw_86 : lw_tbl[959]? = some (Cond.code mt_86.1 mt_86.2.1 mt_86.2.2.1 mt_86.2.2.2) := by decide +kernel
theorem cw_87 : lw_tbl[1146]? = some (Cond.code mt_87.1 mt_87.2.1 mt_87.2.2.1 mt_87.2.2.2) := by decide +kernel
theorem cw_88 : lw_tbl[1150]? = some (Cond.code mt_88.1 mt_88.2.1 mt_88.2.2.1 mt_88.2.2.2) := by decide +kernel
theorem cw_89 : lw_tbl[1154]? = some (Cond.code mt_89.1 mt_89.2.1 mt_89.2.2.1 mt_89.2.2.2) := by decide +kernel
theorem cw_90 : lw_tbl[1157]? = some (Cond.code mt_90.1 mt_90.2.1 mt_90.2.2.1 mt_90.2.2.2) := by decide +kernel
theorem cw_91 : lw_tbl[459]? = some (Cond.code mt_91.1 mt_91.2.1 mt_91.2.2.1 mt_91.2.2.2) := by decide +kernel
theorem cw_92 : lw_tbl[834]? = some (Cond.code mt_92.1 mt_92.2.1 mt_92.2.2.1 mt_92.2.2.2) := by decide +kernel
theorem cw_93 : lw_tbl[1061]? = some (Cond.code mt_93.1 mt_93.2.1 mt_93.2.2.1 mt_93.2.2.2) := by decide +kernel
theorem cw_94 : lw_tbl[1065]? = some (Cond.code mt_94.1 mt_94.2.1 mt_94.2.2.1 mt_94.2.2.2) := by decide +kernel
theorem cw_95 : lw_tbl[1069]? = some (Cond.code mt_95.1 mt_95.2.1 mt_95.2.2.1 mt_95.2.2.2) := by decide +kernel
theorem cw_96 : lw_tbl[1101]? = some (Cond.code mt_96.1 mt_96.2.1 mt_96.2.2.1 mt_96.2.2.2) := by decide +kernel
theorem cw_97 : lw_tbl[1195]? = some (Cond.code mt_97.1 mt_97.2.1 mt_97.2.2.1 mt_97.2.2.2) := by decide +kernel
theorem cw_98 : lw_tbl[1224]? = some (Cond.code mt_98.1 mt_98.2.1 mt_98.2.2.1 mt_98.2.2.2) := by decide +kernel
theorem cw_99 : lw_tbl[1236]? = some (Cond.code mt_99.1 mt_99.2.1 mt_99.2.2.1 mt_99.2.2.2) := by decide +kernel
theorem cw_100 : lw_tbl[1365]? = some (Cond.code mt_100.1 mt_100.2.1 mt_100.2.2.1 mt_100.2.2.2) := by decide +kernel
theorem cw_101 : lw_tbl[498]? = some (Cond.code mt_101.1 mt_101.2.1 mt_101.2.2.1 mt_101.2.2.2) := by decide +kernel
theorem cw_102 : lw_tbl[838]? = some (Cond.code mt_102.1 mt_102.2.1 mt_102.2.2.1 mt_102.2.2.2) := by decide +kernel
theorem cw_103 : lw_tbl[1261]? = some (Cond.code mt_103.1 mt_103.2.1 mt_103.2.2.1 mt_103.2.2.2) := by decide +kernel
theorem cw_104 : lw_tbl[1273]? = some (Cond.code mt_104.1 mt_104.2.1 mt_104.2.2.1 mt_104.2.2.2) := by decide +kernel
theorem cw_105 : lw_tbl[1284]? = some (Cond.code mt_105.1 mt_105.2.1 mt_105.2.2.1 mt_105.2.2.2) := by decide +kernel
theorem cw_106 : lw_tbl[1288]? = some (Cond.code mt_106.1 mt_106.2.1 mt_106.2.2.1 mt_106.2.2.2) := by decide +kernel
theorem cw_107 : lw_tbl[1296]? = some (Cond.code mt_107.1 mt_107.2.1 mt_107.2.2.1 mt_107.2.2.2) := by decide +kernel
theorem cw_108 : lw_tbl[1304]? = some (Cond.code mt_108.1 mt_108.2.1 mt_108.2.2.1 mt_108.2.2.2) := by decide +kernel
theorem cw_109 : lw_tbl[543]? = some (Cond.code mt_109.1 mt_109.2.1 mt_109.2.2.1 mt_109.2.2.2) := by decide +kernel
theorem cw_110 : lw_tbl[1380]? = some (Cond.code mt_110.1 mt_110.2.1 mt_110.2.2.1 mt_110.2.2.2) := by decide +kernel
theorem cw_111 : lw_tbl[1383]? = some (Cond.code mt_111.1 mt_111.2.1 mt_111.2.2.1 mt_111.2.2.2) := by decide +kernel
theorem cw_112 : lw_tbl[1387]? = some (Cond.code mt_112.1 mt_112.2.1 mt_112.2.2.1 mt_112.2.2.2) := by decide +kernel
theorem cw_113 : lw_tbl[1394]? = some (Cond.code mt_113.1 mt_113.2.1 mt_113.2.2.1 mt_113.2.2.2) := by decide +kernel
theorem cw_114 : lw_tbl[1398]? = some (Cond.code mt_114.1 mt_114.2.1 mt_114.2.2.1 mt_114.2.2.2) := by decide +kernel
theorem cw_115 : lw_tbl[1403]? = some (Cond.code mt_115.1 mt_115.2.1 mt_115.2.2.1 mt_115.2.2.2) := by decide +kernel
theorem cw_116 : lw_tbl[1411]? = some (Cond.code mt_116.1 mt_116.2.1 mt_116.2.2.1 mt_116.2.2.2) := by decide +kernel
theorem cw_117 : lw_tbl[1415]? = some (Cond.code mt_117.1 mt_117.2.1 mt_117.2.2.1 mt_117.2.2.2) := by decide +kernel
theorem cw_118 : lw_tbl[1419]? = some (Cond.code mt_118.1 mt_118.2.1 mt_118.2.2.1 mt_118.2.2.2) := by decide +kernel
theorem cw_119 : lw_tbl[1423]? = some (Cond.code mt_119.1 mt_119.2.1 mt_119.2.2.1 mt_119.2.2.2) := by decide +kernel
theorem cw_120 : lw_tbl[280]? = some (Cond.code mt_120.1 mt_120.2.1 mt_120.2.2.1 mt_120.2.2.2) := by decide +kernel
theorem cw_121 : lw_tbl[850]? = some (Cond.code mt_121.1 mt_121.2.1 mt_121.2.2.1 mt_121.2.2.2) := by decide +kernel
theorem cw_122 : lw_tbl[861]? = some (Cond.code mt_122.1 mt_122.2.1 mt_122.2.2.1 mt_122.2.2.2) := by decide +kernel
theorem cw_123 : lw_tbl[865]? = some (Cond.code mt_123.1 mt_123.2.1 mt_123.2.2.1 mt_123.2.2.2) := by decide +kernel
theorem cw_124 : lw_tbl[869]? = some (Cond.code mt_124.1 mt_124.2.1 mt_124.2.2.1 mt_124.2.2.2) := by decide +kernel
theorem cw_125 : lw_tbl[873]? = some (Cond.code mt_125.1 mt_125.2.1 mt_125.2.2.1 mt_125.2.2.2) := by decide +kernel
theorem cw_126 : lw_tbl[877]? = some (Cond.code mt_126.1 mt_126.2.1 mt_126.2.2.1 mt_126.2.2.2) := by decide +kernel
theorem cw_127 : lw_tbl[881]? = some (Cond.code mt_127.1 mt_127.2.1 mt_127.2.2.1 mt_127.2.2.2) := by decide +kernel
theorem cw_128 : lw_tbl[1035]? = some (Cond.code mt_128.1 mt_128.2.1 mt_128.2.2.1 mt_128.2.2.2) := by decide +kernel
theorem cw_129 : lw_tbl[1040]? = some (Cond.code mt_129.1 mt_129.2.1 mt_129.2.2.1 mt_129.2.2.2) := by decide +kernel
theorem cw_130 : lw_tbl[1049]? = some (Cond.code mt_130.1 mt_130.2.1 mt_130.2.2.1 mt_130.2.2.2) := by decide +kernel
theorem cw_131 : lw_tbl[1177]? = some (Cond.code mt_131.1 mt_131.2.1 mt_131.2.2.1 mt_131.2.2.2) := by decide +kernel
theorem cw_132 : lw_tbl[1181]? = some (Cond.code mt_132.1 mt_132.2.1 mt_132.2.2.1 mt_132.2.2.2) := by decide +kernel
theorem cw_133 : lw_tbl[1185]? = some (Cond.code mt_133.1 mt_133.2.1 mt_133.2.2.1 mt_133.2.2.2) := by decide +kernel
theorem cw_134 : lw_tbl[311]? = some (Cond.code mt_134.1 mt_134.2.1 mt_134.2.2.1 mt_134.2.2.2) := by decide +kernel
theorem cw_135 : lw_tbl[885]? = some (Cond.code mt_135.1 mt_135.2.1 mt_135.2.2.1 mt_135.2.2.2) := by decide +kernel
theorem cw_136 : lw_tbl[983]? = some (Cond.code mt_136.1 mt_136.2.1 mt_136.2.2.1 mt_136.2.2.2) := by decide +kernel
theorem cw_137 : lw_tbl[991]? = some (Cond.code mt_137.1 mt_137.2.1 mt_137.2.2.1 mt_137.2.2.2) := by decide +kernel
theorem cw_138 : lw_tbl[996]? = some (Cond.code mt_138.1 mt_138.2.1 mt_138.2.2.1 mt_138.2.2.2) := by decide +kernel
theorem cw_139 : lw_tbl[1001]? = some (Cond.code mt_139.1 mt_139.2.1 mt_139.2.2.1 mt_139.2.2.2) := by decide +kernel
theorem cw_140 : lw_tbl[1013]? = some (Cond.code mt_140.1 mt_140.2.1 mt_140.2.2.1 mt_140.2.2.2) := by decide +kernel
theorem cw_141 : lw_tbl[1077]? = some (Cond.code mt_141.1 mt_141.2.1 mt_141.2.2.1 mt_141.2.2.2) := by decide +kernel
theorem cw_142 : lw_tbl[1244]? = some (Cond.code mt_142.1 mt_142.2.1 mt_142.2.2.1 mt_142.2.2.2) := by decide +kernel
theorem cw_143 : lw_tbl[1248]? = some (Cond.code mt_143.1 mt_143.2.1 mt_143.2.2.1 mt_143.2.2.2) := by decide +kernel
theorem cw_144 : lw_tbl[1265]? = some (Cond.code mt_144.1 mt_144.2.1 mt_144.2.2.1 mt_144.2.2.2) := by decide +kernel
theorem cw_145 : lw_tbl[1313]? = some (Cond.code mt_145.1 mt_145.2.1 mt_145.2.2.1 mt_145.2.2.2) := by decide +kernel
theorem cw_146 : lw_tbl[1316]? = some (Cond.code mt_146.1 mt_146.2.1 mt_146.2.2.1 mt_146.2.2.2) := by decide +kernel
theorem cw_147 : lw_tbl[1488]? = some (Cond.code mt_147.1 mt_147.2.1 mt_147.2.2.1 mt_147.2.2.2) := by decide +kernel
theorem cw_148 : lw_tbl[340]? = some (Cond.code mt_148.1 mt_148.2.1 mt_148.2.2.1 mt_148.2.2.2) := by decide +kernel
theorem cw_149 : lw_tbl[1105]? = some (Cond.code mt_149.1 mt_149.2.1 mt_149.2.2.1 mt_149.2.2.2) := by decide +kernel
theorem cw_150 : lw_tbl[1109]? = some (Cond.code mt_150.1 mt_150.2.1 mt_150.2.2.1 mt_150.2.2.2) := by decide +kernel
theorem cw_151 : lw_tbl[1332]? = some (Cond.code mt_151.1 mt_151.2.1 mt_151.2.2.1 mt_151.2.2.2) := by decide +kernel
theorem cw_152 : lw_tbl[1340]? = some (Cond.code mt_152.1 mt_152.2.1 mt_152.2.2.1 mt_152.2.2.2) := by decide +kernel
theorem cw_153 : lw_tbl[1348]? = some (Cond.code mt_153.1 mt_153.2.1 mt_153.2.2.1 mt_153.2.2.2) := by decide +kernel
theorem cw_154 : lw_tbl[144]? = some (Cond.code mt_154.1 mt_154.2.1 mt_154.2.2.1 mt_154.2.2.2) := by decide +kernel
theorem cw_155 : lw_tbl[614]? = some (Cond.code mt_155.1 mt_155.2.1 mt_155.2.2.1 mt_155.2.2.2) := by decide +kernel
theorem cw_156 : lw_tbl[618]? = some (Cond.code mt_156.1 mt_156.2.1 mt_156.2.2.1 mt_156.2.2.2) := by decide +kernel
theorem cw_157 : lw_tbl[635]? = some (Cond.code mt_157.1 mt_157.2.1 mt_157.2.2.1 mt_157.2.2.2) := by decide +kernel
theorem cw_158 : lw_tbl[639]? = some (Cond.code mt_158.1 mt_158.2.1 mt_158.2.2.1 mt_158.2.2.2) := by decide +kernel
theorem cw_159 : lw_tbl[643]? = some (Cond.code mt_159.1 mt_159.2.1 mt_159.2.2.1 mt_159.2.2.2) := by decide +kernel
theorem cw_160 : lw_tbl[647]? = some (Cond.code mt_160.1 mt_160.2.1 mt_160.2.2.1 mt_160.2.2.2) := by decide +kernel
theorem cw_161 : lw_tbl[650]? = some (Cond.code mt_161.1 mt_161.2.1 mt_161.2.2.1 mt_161.2.2.2) := by decide +kernel
theorem cw_162 : lw_tbl[653]? = some (Cond.code mt_162.1 mt_162.2.1 mt_162.2.2.1 mt_162.2.2.2) := by decide +kernel
theorem cw_163 : lw_tbl[657]? = some (Cond.code mt_163.1 mt_163.2.1 mt_163.2.2.1 mt_163.2.2.2) := by decide +kernel
theorem cw_164 : lw_tbl[660]? = some (Cond.code mt_164.1 mt_164.2.1 mt_164.2.2.1 mt_164.2.2.2) := by decide +kernel
theorem cw_165 : lw_tbl[664]? = some (Cond.code mt_165.1 mt_165.2.1 mt_165.2.2.1 mt_165.2.2.2) := by decide +kernel
theorem cw_166 : lw_tbl[759]? = some (Cond.code mt_166.1 mt_166.2.1 mt_166.2.2.1 mt_166.2.2.2) := by decide +kernel
theorem cw_167 : lw_tbl[763]? = some (Cond.code mt_167.1 mt_167.2.1 mt_167.2.2.1 mt_167.2.2.2) := by decide +kernel
theorem cw_168 : lw_tbl[788]? = some (Cond.code mt_168.1 mt_168.2.1 mt_168.2.2.1 mt_168.2.2.2) := by decide +kernel
theorem cw_169 : lw_tbl[792]? = some (Cond.code mt_169.1 mt_169.2.1 mt_169.2.2.1 mt_169.2.2.2) := by decide +kernel
theorem cw_170 : lw_tbl[810]? = some (Cond.code mt_170.1 mt_170.2.1 mt_170.2.2.1 mt_170.2.2.2) := by decide +kernel
theorem cw_171 : lw_tbl[814]? = some (Cond.code mt_171.1 mt_171.2.1 mt_171.2.2.1 mt_171.2.2.2) := by decide +kernel
theorem cw_172 : lw_tbl[389]? = some (Cond.code mt_172.1 mt_172.2.1 mt_172.2.2.1 mt_172.2.2.2) := by decide +kernel
theorem cw_173 : lw_tbl[1073]? = some (Cond.code mt_173.1 mt_173.2.1 mt_173.2.2.1 mt_173.2.2.2) := by decide +kernel
theorem cw_174 : lw_tbl[1081]? = some (Cond.code mt_174.1 mt_174.2.1 mt_174.2.2.1 mt_174.2.2.2) := by decide +kernel
theorem cw_175 : lw_tbl[1092]? = some (Cond.code mt_175.1 mt_175.2.1 mt_175.2.2.1 mt_175.2.2.2) := by decide +kernel
theorem cw_176 : lw_tbl[1096]? = some (Cond.code mt_176.1 mt_176.2.1 mt_176.2.2.1 mt_176.2.2.2) := by decide +kernel
theorem cw_177 : lw_tbl[1113]? = some (Cond.code mt_177.1 mt_177.2.1 mt_177.2.2.1 mt_177.2.2.2) := by decide +kernel
theorem cw_178 : lw_tbl[1117]? = some (Cond.code mt_178.1 mt_178.2.1 mt_178.2.2.1 mt_178.2.2.2) := by decide +kernel
theorem cw_179 : lw_tbl[1124]? = some (Cond.code mt_179.1 mt_179.2.1 mt_179.2.2.1 mt_179.2.2.2) := by decide +kernel
theorem cw_180 : lw_tbl[1128]? = some (Cond.code mt_180.1 mt_180.2.1 mt_180.2.2.1 mt_180.2.2.2) := by decide +kernel
theorem cw_181 : lw_tbl[1135]? = some (Cond.code mt_181.1 mt_181.2.1 mt_181.2.2.1 mt_181.2.2.2) := by decide +kernel
theorem cw_182 : lw_tbl[1139]? = some (Cond.code mt_182.1 mt_182.2.1 mt_182.2.2.1 mt_182.2.2.2) := by decide +kernel
theorem cw_183 : lw_tbl[1161]? = some (Cond.code mt_183.1 mt_183.2.1 mt_183.2.2.1 mt_183.2.2.2) := by decide +kernel
theorem cw_184 : lw_tbl[1164]? = some (Cond.code mt_184.1 mt_184.2.1 mt_184.2.2.1 mt_184.2.2.2) := by decide +kernel
theorem cw_185 : lw_tbl[1168]? = some (Cond.code mt_185.1 mt_185.2.1 mt_185.2.2.1 mt_185.2.2.2) := by decide +kernel
theorem cw_186 : lw_tbl[1173]? = some (Cond.code mt_186.1 mt_186.2.1 mt_186.2.2.1 mt_186.2.2.2) := by decide +kernel
theorem cw_187 : lw_tbl[1200]? = some (Cond.code mt_187.1 mt_187.2.1 mt_187.2.2.1 mt_187.2.2.2) := by decide +kernel
theorem cw_188 : lw_tbl[1204]? = some (Cond.code mt_188.1 mt_188.2.1 mt_188.2.2.1 mt_188.2.2.2) := by decide +kernel
theorem cw_189 : lw_tbl[1268]? = some (Cond.code mt_189.1 mt_189.2.1 mt_189.2.2.1 mt_189.2.2.2) := by decide +kernel
theorem cw_190 : lw_tbl[1370]? = some (Cond.code mt_190.1 mt_190.2.1 mt_190.2.2.1 mt_190.2.2.2) := by decide +kernel
theorem cw_191 : lw_tbl[1493]? = some (Cond.code mt_191.1 mt_191.2.1 mt_191.2.2.1 mt_191.2.2.2) := by decide +kernel
theorem cw_192 : lw_tbl[1498]? = some (Cond.code mt_192.1 mt_192.2.1 mt_192.2.2.1 mt_192.2.2.2) := by decide +kernel
theorem cw_193 : lw_tbl[1725]? = some (Cond.code mt_193.1 mt_193.2.1 mt_193.2.2.1 mt_193.2.2.2) := by decide +kernel
theorem cw_194 : lw_tbl[1729]? = some (Cond.code mt_194.1 mt_194.2.1 mt_194.2.2.1 mt_194.2.2.2) := by decide +kernel
theorem cw_195 : lw_tbl[1733]? = some (Cond.code mt_195.1 mt_195.2.1 mt_195.2.2.1 mt_195.2.2.2) := by decide +kernel
theorem cw_196 : lw_tbl[1737]? = some (Cond.code mt_196.1 mt_196.2.1 mt_196.2.2.1 mt_196.2.2.2) := by decide +kernel
theorem cw_197 : lw_tbl[1741]? = some (Cond.code mt_197.1 mt_197.2.1 mt_197.2.2.1 mt_197.2.2.2) := by decide +kernel
theorem cw_198 : lw_tbl[1745]? = some (Cond.code mt_198.1 mt_198.2.1 mt_198.2.2.1 mt_198.2.2.2) := by decide +kernel
theorem cw_199 : lw_tbl[1749]? = some (Cond.code mt_199.1 mt_199.2.1 mt_199.2.2.1 mt_199.2.2.2) := by decide +kernel
theorem cw_200 : lw_tbl[1752]? = some (Cond.code mt_200.1 mt_200.2.1 mt_200.2.2.1 mt_200.2.2.2) := by decide +kernel
theorem cw_201 : lw_tbl[1755]? = some (Cond.code mt_201.1 mt_201.2.1 mt_201.2.2.1 mt_201.2.2.2) := by decide +kernel
theorem cw_202 : lw_tbl[1759]? = some (Cond.code mt_202.1 mt_202.2.1 mt_202.2.2.1 mt_202.2.2.2) := by decide +kernel
theorem cw_203 : lw_tbl[1763]? = some (Cond.code mt_203.1 mt_203.2.1 mt_203.2.2.1 mt_203.2.2.2) := by decide +kernel
theorem cw_204 : lw_tbl[1768]? = some (Cond.code mt_204.1 mt_204.2.1 mt_204.2.2.1 mt_204.2.2.2) := by decide +kernel
theorem cw_205 : lw_tbl[1772]? = some (Cond.code mt_205.1 mt_205.2.1 mt_205.2.2.1 mt_205.2.2.2) := by decide +kernel
theorem cw_206 : lw_tbl[1776]? = some (Cond.code mt_206.1 mt_206.2.1 mt_206.2.2.1 mt_206.2.2.2) := by decide +kernel
theorem cw_207 : lw_tbl[1780]? = some (Cond.code mt_207.1 mt_207.2.1 mt_207.2.2.1 mt_207.2.2.2) := by decide +kernel
theorem cw_208 : lw_tbl[1785]? = some (Cond.code mt_208.1 mt_208.2.1 mt_208.2.2.1 mt_208.2.2.2) := by decide +kernel
theorem cw_209 : lw_tbl[1790]? = some (Cond.code mt_209.1 mt_209.2.1 mt_209.2.2.1 mt_209.2.2.2) := by decide +kernel
theorem cw_210 : lw_tbl[1794]? = some (Cond.code mt_210.1 mt_210.2.1 mt_210.2.2.1 mt_210.2.2.2) := by decide +kernel
theorem cw_211 : lw_tbl[1798]? = some (Cond.code mt_211.1 mt_211.2.1 mt_211.2.2.1 mt_211.2.2.2) := by decide +kernel
theorem cw_212 : lw_tbl[1802]? = some (Cond.code mt_212.1 mt_212.2.1 mt_212.2.2.1 mt_212.2.2.2) := by decide +kernel
theorem cw_213 : lw_tbl[1805]? = some (Cond.code mt_213.1 mt_213.2.1 mt_213.2.2.1 mt_213.2.2.2) := by decide +kernel
theorem cw_214 : lw_tbl[1809]? = some (Cond.code mt_214.1 mt_214.2.1 mt_214.2.2.1 mt_214.2.2.2) := by decide +kernel
theorem cw_215 : lw_tbl[1813]? = some (Cond.code mt_215.1 mt_215.2.1 mt_215.2.2.1 mt_215.2.2.2) := by decide +kernel
theorem cw_216 : lw_tbl[1816]? = some (Cond.code mt_216.1 mt_216.2.1 mt_216.2.2.1 mt_216.2.2.2) := by decide +kernel
theorem cw_217 : lw_tbl[1819]? = some (Cond.code mt_217.1 mt_217.2.1 mt_217.2.2.1 mt_217.2.2.2) := by decide +kernel
theorem cw_218 : lw_tbl[1823]? = some (Cond.code mt_218.1 mt_218.2.1 mt_218.2.2.1 mt_218.2.2.2) := by decide +kernel
theorem cw_219 : lw_tbl[1827]? = some (Cond.code mt_219.1 mt_219.2.1 mt_219.2.2.1 mt_219.2.2.2) := by decide +kernel
theorem cw_220 : lw_tbl[1831]? = some (Cond.code mt_220.1 mt_220.2.1 mt_220.2.2.1 mt_220.2.2.2) := by decide +kernel
theorem cw_221 : lw_tbl[1835]? = some (Cond.code mt_221.1 mt_221.2.1 mt_221.2.2.1 mt_221.2.2.2) := by decide +kernel
theorem cw_222 : lw_tbl[1839]? = some (Cond.code mt_222.1 mt_222.2.1 mt_222.2.2.1 mt_222.2.2.2) := by decide +kernel
theorem cw_223 : lw_tbl[1843]? = some (Cond.code mt_223.1 mt_223.2.1 mt_223.2.2.1 mt_223.2.2.2) := by decide +kernel
theorem cw_224 : lw_tbl[1847]? = some (Cond.code mt_224.1 mt_224.2.1 mt_224.2.2.1 mt_224.2.2.2) := by decide +kernel
theorem cw_225 : lw_tbl[1851]? = some (Cond.code mt_225.1 mt_225.2.1 mt_225.2.2.1 mt_225.2.2.2) := by decide +kernel
theorem cw_226 : lw_tbl[1855]? = some (Cond.code mt_226.1 mt_226.2.1 mt_226.2.2.1 mt_226.2.2.2) := by decide +kernel
theorem cw_227 : lw_tbl[1859]? = some (Cond.code mt_227.1 mt_227.2.1 mt_227.2.2.1 mt_227.2.2.2) := by decide +kernel
theorem cw_228 : lw_tbl[1864]? = some (Cond.code mt_228.1 mt_228.2.1 mt_228.2.2.1 mt_228.2.2.2) := by decide +kernel
theorem cw_229 : lw_tbl[1868]? = some (Cond.code mt_229.1 mt_229.2.1 mt_229.2.2.1 mt_229.2.2.2) := by decide +kernel
theorem cw_230 : lw_tbl[1872]? = some (Cond.code mt_230.1 mt_230.2.1 mt_230.2.2.1 mt_230.2.2.2) := by decide +kernel
theorem cw_231 : lw_tbl[1877]? = some (Cond.code mt_231.1 mt_231.2.1 mt_231.2.2.1 mt_231.2.2.2) := by decide +kernel
theorem cw_232 : lw_tbl[1881]? = some (Cond.code mt_232.1 mt_232.2.1 mt_232.2.2.1 mt_232.2.2.2) := by decide +kernel
theorem cw_233 : lw_tbl[1885]? = some (Cond.code mt_233.1 mt_233.2.1 mt_233.2.2.1 mt_233.2.2.2) := by decide +kernel
theorem cw_234 : lw_tbl[1889]? = some (Cond.code mt_234.1 mt_234.2.1 mt_234.2.2.1 mt_234.2.2.2) := by decide +kernel
theorem cw_235 : lw_tbl[1892]? = some (Cond.code mt_235.1 mt_235.2.1 mt_235.2.2.1 mt_235.2.2.2) := by decide +kernel
theorem cw_236 : lw_tbl[1896]? = some (Cond.code mt_236.1 mt_236.2.1 mt_236.2.2.1 mt_236.2.2.2) := by decide +kernel
theorem cw_237 : lw_tbl[1900]? = some (Cond.code mt_237.1 mt_237.2.1 mt_237.2.2.1 mt_237.2.2.2) := by decide +kernel
theorem cw_238 : lw_tbl[1905]? = some (Cond.code mt_238.1 mt_238.2.1 mt_238.2.2.1 mt_238.2.2.2) := by decide +kernel
theorem cw_239 : lw_tbl[1913]? = some (Cond.code mt_239.1 mt_239.2.1 mt_239.2.2.1 mt_239.2.2.2) := by decide +kernel
theorem cw_240 : lw_tbl[1916]? = some (Cond.code mt_240.1 mt_240.2.1 mt_240.2.2.1 mt_240.2.2.2) := by decide +kernel
theorem cw_241 : lw_tbl[1920]? = some (Cond.code mt_241.1 mt_241.2.1 mt_241.2.2.1 mt_241.2.2.2) := by decide +kernel
theorem cw_242 : lw_tbl[1924]? = some (Cond.code mt_242.1 mt_242.2.1 mt_242.2.2.1 mt_242.2.2.2) := by decide +kernel
theorem cw_243 : lw_tbl[1928]? = some (Cond.code mt_243.1 mt_243.2.1 mt_243.2.2.1 mt_243.2.2.2) := by decide +kernel
theorem cw_244 : lw_tbl[1932]? = some (Cond.code mt_244.1 mt_244.2.1 mt_244.2.2.1 mt_244.2.2.2) := by decide +kernel
theorem cw_245 : lw_tbl[1936]? = some (Cond.code mt_245.1 mt_245.2.1 mt_245.2.2.1 mt_245.2.2.2) := by decide +kernel
theorem cw_246 : lw_tbl[1940]? = some (Cond.code mt_246.1 mt_246.2.1 mt_246.2.2.1 mt_246.2.2.2) := by decide +kernel
theorem cw_247 : lw_tbl[1943]? = some (Cond.code mt_247.1 mt_247.2.1 mt_247.2.2.1 mt_247.2.2.2) := by decide +kernel
theorem cw_248 : lw_tbl[1947]? = some (Cond.code mt_248.1 mt_248.2.1 mt_248.2.2.1 mt_248.2.2.2) := by decide +kernel
theorem cw_249 : lw_tbl[1951]? = some (Cond.code mt_249.1 mt_249.2.1 mt_249.2.2.1 mt_249.2.2.2) := by decide +kernel
theorem cw_250 : lw_tbl[1955]? = some (Cond.code mt_250.1 mt_250.2.1 mt_250.2.2.1 mt_250.2.2.2) := by decide +kernel
theorem cw_251 : lw_tbl[1959]? = some (Cond.code mt_251.1 mt_251.2.1 mt_251.2.2.1 mt_251.2.2.2) := by decide +kernel
theorem cw_252 : lw_tbl[1963]? = some (Cond.code mt_252.1 mt_252.2.1 mt_252.2.2.1 mt_252.2.2.2) := by decide +kernel
theorem cw_253 : lw_tbl[1966]? = some (Cond.code mt_253.1 mt_253.2.1 mt_253.2.2.1 mt_253.2.2.2) := by decide +kernel
theorem cw_254 : lw_tbl[1970]? = some (Cond.code mt_254.1 mt_254.2.1 mt_254.2.2.1 mt_254.2.2.2) := by decide +kernel
theorem cw_255 : lw_tbl[1974]? = some (Cond.code mt_255.1 mt_255.2.1 mt_255.2.2.1 mt_255.2.2.2) := by decide +kernel
theorem cw_256 : lw_tbl[1978]? = some (Cond.code mt_256.1 mt_256.2.1 mt_256.2.2.1 mt_256.2.2.2) := by decide +kernel
theorem cw_257 : lw_tbl[1981]? = some (Cond.code mt_257.1 mt_257.2.1 mt_257.2.2.1 mt_257.2.2.2) := by decide +kernel
theorem cw_258 : lw_tbl[1985]? = some (Cond.code mt_258.1 mt_258.2.1 mt_258.2.2.1 mt_258.2.2.2) := by decide +kernel
theorem cw_259 : lw_tbl[1990]? = some (Cond.code mt_259.1 mt_259.2.1 mt_259.2.2.1 mt_259.2.2.2) := by decide +kernel
theorem cw_260 : lw_tbl[1994]? = some (Cond.code mt_260.1 mt_260.2.1 mt_260.2.2.1 mt_260.2.2.2) := by decide +kernel
theorem cw_261 : lw_tbl[1998]? = some (Cond.code mt_261.1 mt_261.2.1 mt_261.2.2.1 mt_261.2.2.2) := by decide +kernel
theorem cw_262 : lw_tbl[2002]? = some (Cond.code mt_262.1 mt_262.2.1 mt_262.2.2.1 mt_262.2.2.2) := by decide +kernel
theorem cw_263 : lw_tbl[2006]? = some (Cond.code mt_263.1 mt_263.2.1 mt_263.2.2.1 mt_263.2.2.2) := by decide +kernel
theorem cw_264 : lw_tbl[2010]? = some (Cond.code mt_264.1 mt_264.2.1 mt_264.2.2.1 mt_264.2.2.2) := by decide +kernel
theorem cw_265 : lw_tbl[2014]? = some (Cond.code mt_265.1 mt_265.2.1 mt_265.2.2.1 mt_265.2.2.2) := by decide +kernel
theorem cw_266 : lw_tbl[2018]? = some (Cond.code mt_266.1 mt_266.2.1 mt_266.2.2.1 mt_266.2.2.2) := by decide +kernel
theorem cw_267 : lw_tbl[2022]? = some (Cond.code mt_267.1 mt_267.2.1 mt_267.2.2.1 mt_267.2.2.2) := by decide +kernel
theorem cw_268 : lw_tbl[2026]? = some (Cond.code mt_268.1 mt_268.2.1 mt_268.2.2.1 mt_268.2.2.2) := by decide +kernel
theorem cw_269 : lw_tbl[2030]? = some (Cond.code mt_269.1 mt_269.2.1 mt_269.2.2.1 mt_269.2.2.2) := by decide +kernel
theorem cw_270 : lw_tbl[2034]? = some (Cond.code mt_270.1 mt_270.2.1 mt_270.2.2.1 mt_270.2.2.2) := by decide +kernel
theorem cw_271 : lw_tbl[2038]? = some (Cond.code mt_271.1 mt_271.2.1 mt_271.2.2.1 mt_271.2.2.2) := by decide +kernel
theorem cw_272 : lw_tbl[2041]? = some (Cond.code mt_272.1 mt_272.2.1 mt_272.2.2.1 mt_272.2.2.2) := by decide +kernel
theorem cw_273 : lw_tbl[2045]? = some (Cond.code mt_273.1 mt_273.2.1 mt_273.2.2.1 mt_273.2.2.2) := by decide +kernel
theorem cw_274 : lw_tbl[2049]? = some (Cond.code mt_274.1 mt_274.2.1 mt_274.2.2.1 mt_274.2.2.2) := by decide +kernel
theorem cw_275 : lw_tbl[2052]? = some (Cond.code mt_275.1 mt_275.2.1 mt_275.2.2.1 mt_275.2.2.2) := by decide +kernel
theorem cw_276 : lw_tbl[2055]? = some (Cond.code mt_276.1 mt_276.2.1 mt_276.2.2.1 mt_276.2.2.2) := by decide +kernel
theorem cw_277 : lw_tbl[2059]? = some (Cond.code mt_277.1 mt_277.2.1 mt_277.2.2.1 mt_277.2.2.2) := by decide +kernel
theorem cw_278 : lw_tbl[2063]? = some (Cond.code mt_278.1 mt_278.2.1 mt_278.2.2.1 mt_278.2.2.2) := by decide +kernel
theorem cw_279 : lw_tbl[2067]? = some (Cond.code mt_279.1 mt_279.2.1 mt_279.2.2.1 mt_279.2.2.2) := by decide +kernel
theorem cw_280 : lw_tbl[2071]? = some (Cond.code mt_280.1 mt_280.2.1 mt_280.2.2.1 mt_280.2.2.2) := by decide +kernel
theorem cw_281 : lw_tbl[2075]? = some (Cond.code mt_281.1 mt_281.2.1 mt_281.2.2.1 mt_281.2.2.2) := by decide +kernel
theorem cw_282 : lw_tbl[2079]? = some (Cond.code mt_282.1 mt_282.2.1 mt_282.2.2.1 mt_282.2.2.2) := by decide +kernel
theorem cw_283 : lw_tbl[2084]? = some (Cond.code mt_283.1 mt_283.2.1 mt_283.2.2.1 mt_283.2.2.2) := by decide +kernel
theorem cw_284 : lw_tbl[2088]? = some (Cond.code mt_284.1 mt_284.2.1 mt_284.2.2.1 mt_284.2.2.2) := by decide +kernel
theorem cw_285 : lw_tbl[2092]? = some (Cond.code mt_285.1 mt_285.2.1 mt_285.2.2.1 mt_285.2.2.2) := by decide +kernel
theorem cw_286 : lw_tbl[2096]? = some (Cond.code mt_286.1 mt_286.2.1 mt_286.2.2.1 mt_286.2.2.2) := by decide +kernel
theorem cw_287 : lw_tbl[2100]? = some (Cond.code mt_287.1 mt_287.2.1 mt_287.2.2.1 mt_287.2.2.2) := by decide +kernel
theorem cw_288 : lw_tbl[2103]? = some (Cond.code mt_288.1 mt_288.2.1 mt_288.2.2.1 mt_288.2.2.2) := by decide +kernel
theorem cw_289 : lw_tbl[2106]? = some (Cond.code mt_289.1 mt_289.2.1 mt_289.2.2.1 mt_289.2.2.2) := by decide +kernel
theorem cw_290 : lw_tbl[2110]? = some (Cond.code mt_290.1 mt_290.2.1 mt_290.2.2.1 mt_290.2.2.2) := by decide +kernel
theorem cw_291 : lw_tbl[2114]? = some (Cond.code mt_291.1 mt_291.2.1 mt_291.2.2.1 mt_291.2.2.2) := by decide +kernel
theorem cw_292 : lw_tbl[2118]? = some (Cond.code mt_292.1 mt_292.2.1 mt_292.2.2.1 mt_292.2.2.2) := by decide +kernel
theorem cw_293 : lw_tbl[2122]? = some (Cond.code mt_293.1 mt_293.2.1 mt_293.2.2.1 mt_293.2.2.2) := by decide +kernel
theorem cw_294 : lw_tbl[2126]? = some (Cond.code mt_294.1 mt_294.2.1 mt_294.2.2.1 mt_294.2.2.2) := by decide +kernel
theorem cw_295 : lw_tbl[2130]? = some (Cond.code mt_295.1 mt_295.2.1 mt_295.2.2.1 mt_295.2.2.2) := by decide +kernel
theorem cw_296 : lw_tbl[2134]? = some (Cond.code mt_296.1 mt_296.2.1 mt_296.2.2.1 mt_296.2.2.2) := by decide +kernel
theorem cw_297 : lw_tbl[2138]? = some (Cond.code mt_297.1 mt_297.2.1 mt_297.2.2.1 mt_297.2.2.2) := by decide +kernel
theorem cw_298 : lw_tbl[2142]? = some (Cond.code mt_298.1 mt_298.2.1 mt_298.2.2.1 mt_298.2.2.2) := by decide +kernel
theorem cw_299 : lw_tbl[2146]? = some (Cond.code mt_299.1 mt_299.2.1 mt_299.2.2.1 mt_299.2.2.2) := by decide +kernel
theorem cw_300 : lw_tbl[2150]? = some (Cond.code mt_300.1 mt_300.2.1 mt_300.2.2.1 mt_300.2.2.2) := by decide +kernel
theorem cw_301 : lw_tbl[2154]? = some (Cond.code mt_301.1 mt_301.2.1 mt_301.2.2.1 mt_301.2.2.2) := by decide +kernel
theorem cw_302 : lw_tbl[2157]? = some (Cond.code mt_302.1 mt_302.2.1 mt_302.2.2.1 mt_302.2.2.2) := by decide +kernel
theorem cw_303 : lw_tbl[2161]? = some (Cond.code mt_303.1 mt_303.2.1 mt_303.2.2.1 mt_303.2.2.2) := by decide +kernel
theorem cw_304 : lw_tbl[2165]? = some (Cond.code mt_304.1 mt_304.2.1 mt_304.2.2.1 mt_304.2.2.2) := by decide +kernel
theorem cw_305 : lw_tbl[668]? = some (Cond.code mt_305.1 mt_305.2.1 mt_305.2.2.1 mt_305.2.2.2) := by decide +kernel
theorem cw_306 : lw_tbl[672]? = some (Cond.code mt_306.1 mt_306.2.1 mt_306.2.2.1 mt_306.2.2.2) := by decide +kernel
theorem cw_307 : lw_tbl[676]? = some (Cond.code mt_307.1 mt_307.2.1 mt_307.2.2.1 mt_307.2.2.2) := by decide +kernel
theorem cw_308 : lw_tbl[682]? = some (Cond.code mt_308.1 mt_308.2.1 mt_308.2.2.1 mt_308.2.2.2) := by decide +kernel
theorem cw_309 : lw_tbl[686]? = some (Cond.code mt_309.1 mt_309.2.1 mt_309.2.2.1 mt_309.2.2.2) := by decide +kernel
theorem cw_310 : lw_tbl[689]? = some (Cond.code mt_310.1 mt_310.2.1 mt_310.2.2.1 mt_310.2.2.2) := by decide +kernel
theorem cw_311 : lw_tbl[692]? = some (Cond.code mt_311.1 mt_311.2.1 mt_311.2.2.1 mt_311.2.2.2) := by decide +kernel
theorem cw_312 : lw_tbl[695]? = some (Cond.code mt_312.1 mt_312.2.1 mt_312.2.2.1 mt_312.2.2.2) := by decide +kernel
theorem cw_313 : lw_tbl[698]? = some (Cond.code mt_313.1 mt_313.2.1 mt_313.2.2.1 mt_313.2.2.2) := by decide +kernel
theorem cw_314 : lw_tbl[701]? = some (Cond.code mt_314.1 mt_314.2.1 mt_314.2.2.1 mt_314.2.2.2) := by decide +kernel
theorem cw_315 : lw_tbl[768]? = some (Cond.code mt_315.1 mt_315.2.1 mt_315.2.2.1 mt_315.2.2.2) := by decide +kernel
theorem cw_316 : lw_tbl[771]? = some (Cond.code mt_316.1 mt_316.2.1 mt_316.2.2.1 mt_316.2.2.2) := by decide +kernel
theorem cw_317 : lw_tbl[774]? = some (Cond.code mt_317.1 mt_317.2.1 mt_317.2.2.1 mt_317.2.2.2) := by decide +kernel
theorem cw_318 : lw_tbl[777]? = some (Cond.code mt_318.1 mt_318.2.1 mt_318.2.2.1 mt_318.2.2.2) := by decide +kernel
theorem cw_319 : lw_tbl[1086]? = some (Cond.code mt_319.1 mt_319.2.1 mt_319.2.2.1 mt_319.2.2.2) := by decide +kernel
theorem xmok_of' {c mi : Nat} (h : (List.range' c 20).all (fun mi => mi == 0 || xmok mi) = true) (h0 : mi ≠ 0) (h1 : c ≤ mi) (h2 : mi < c + 20) : xmok mi = true := by
  have := List.all_eq_true.mp h mi (List.mem_range'_1.mpr ⟨h1, h2⟩)
  simpa [h0] using this
theorem xmok_all : ∀ mi, mi < 320 → mi ≠ 0 → xmok mi = true := by
  intro mi h h0
  by_cases h20 : mi < 20
  · exact xmok_of' xmok_0 h0 (by omega) (by omega)
  by_cases h40 : mi < 40
  · exact xmok_of' xmok_20 h0 (by omega) (by omega)
  by_cases h60 : mi < 60
  · exact xmok_of' xmok_40 h0 (by omega) (by omega)
  by_cases h80 : mi < 80
  · exact xmok_of' xmok_60 h0 (by omega) (by omega)
  by_cases h100 : mi < 100
  · exact xmok_of' xmok_80 h0 (by omega) (by omega)
  by_cases h120 : mi < 120
  · exact xmok_of' xmok_100 h0 (by omega) (by omega)
  by_cases h140 : mi < 140
  · exact xmok_of' xmok_120 h0 (by omega) (by omega)
  by_cases h160 : mi < 160
  · exact xmok_of' xmok_140 h0 (by omega) (by omega)
  by_cases h180 : mi < 180
  · exact xmok_of' xmok_160 h0 (by omega) (by omega)
  by_cases h200 : mi < 200
  · exact xmok_of' xmok_180 h0 (by omega) (by omega)
  by_cases h220 : mi < 220
  · exact xmok_of' xmok_200 h0 (by omega) (by omega)
  by_cases h240 : mi < 240
  · exact xmok_of' xmok_220 h0 (by omega) (by omega)
  by_cases h260 : mi < 260
  · exact xmok_of' xmok_240 h0 (by omega) (by omega)
  by_cases h280 : mi < 280
  · exact xmok_of' xmok_260 h0 (by omega) (by omega)
  by_cases h300 : mi < 300
  · exact xmok_of' xmok_280 h0 (by omega) (by omega)
  by_cases h320 : mi < 320
  · exact xmok_of' xmok_300 h0 (by omega) (by omega)
  omega
theorem x_tbout {mi pc : Nat} (h : 320 ≤ mi) : tb mi pc = none := by
  unfold tb
  rw [show Nat.ble 320 mi = true from Nat.ble_eq_true_of_le h]
  rfl
theorem x_mtout {mi : Nat} (h : 320 ≤ mi) : MT mi = none := by
  unfold MT
  rw [show Nat.ble 320 mi = true from Nat.ble_eq_true_of_le h]
  rfl
theorem x_oi : Cond.instanceMethod Lib.objectInit ∈ lw_tbl ∧ Cond.code Lib.objectInit ⟨#[0xb1]⟩ 1 none ∈ lw_tbl ∧ True := ⟨List.mem_of_getElem? (i := xoi.1) (by decide +kernel), List.mem_of_getElem? (i := xoi.2) (by decide +kernel), trivial⟩
theorem x_mai : Cond.static Lib.Math.max.name ∈ lw_tbl ∧ Cond.static Lib.Math.min.name ∈ lw_tbl ∧ Cond.initialized "java/lang/Math" ∈ lw_tbl ∧ Cond.code Lib.Math.max.name Lib.Math.max.code 2 (some .int) ∈ lw_tbl ∧ Cond.code Lib.Math.min.name Lib.Math.min.code 2 (some .int) ∈ lw_tbl := ⟨List.mem_of_getElem? (i := xmai.getD 0 0) (by decide +kernel), List.mem_of_getElem? (i := xmai.getD 1 0) (by decide +kernel), List.mem_of_getElem? (i := xmai.getD 2 0) (by decide +kernel), List.mem_of_getElem? (i := xmai.getD 3 0) (by decide +kernel), List.mem_of_getElem? (i := xmai.getD 4 0) (by decide +kernel)⟩
theorem x_cii : ∀ ci, ci < 13 → (lw_tbl[(xcii.getD ci (0, 0)).1]? = some (Cond.instantiable (xcn ci) (xnf ci)) ∧ lw_tbl[(xcii.getD ci (0, 0)).2]? = some (Cond.initialized (xcn ci))) := by decide +kernel
theorem x_all (mi : Nat) (h : mi < 320) : ∀ (pc : Nat) (q : xI), tb mi pc = some q → xval mi pc q = true := by
  by_cases h160 : mi < 160
  ·
    by_cases h80 : mi < 80
    ·
      by_cases h40 : mi < 40
      ·
        by_cases h20 : mi < 20
        ·
          by_cases h10 : mi < 10
          ·
            by_cases h5 : mi < 5
            ·
              by_cases h2 : mi < 2
              ·
                by_cases h1 : mi < 1
                ·
                  obtain rfl : mi = 0 := by omega
                  exact ck_0
                ·
                  obtain rfl : mi = 1 := by omega
                  exact ck_1
              ·
                by_cases h3 : mi < 3
                ·
                  obtain rfl : mi = 2 := by omega
                  exact ck_2
                ·
                  by_cases h4 : mi < 4
                  ·
                    obtain rfl : mi = 3 := by omega
                    exact ck_3
                  ·
                    obtain rfl : mi = 4 := by omega
                    exact ck_4
            ·
              by_cases h7 : mi < 7
              ·
                by_cases h6 : mi < 6
                ·
                  obtain rfl : mi = 5 := by omega
                  exact ck_5
                ·
                  obtain rfl : mi = 6 := by omega
                  exact ck_6
              ·
                by_cases h8 : mi < 8
                ·
                  obtain rfl : mi = 7 := by omega
                  exact ck_7
                ·
                  by_cases h9 : mi < 9
                  ·
                    obtain rfl : mi = 8 := by omega
                    exact ck_8
                  ·
                    obtain rfl : mi = 9 := by omega
                    exact ck_9
          ·
            by_cases h15 : mi < 15
            ·
              by_cases h12 : mi < 12
              ·
                by_cases h11 : mi < 11
                ·
                  obtain rfl : mi = 10 := by omega
                  exact ck_10
                ·
                  obtain rfl : mi = 11 := by omega
                  exact ck_11
              ·
                by_cases h13 : mi < 13
                ·
                  obtain rfl : mi = 12 := by omega
                  exact ck_12
                ·
                  by_cases h14 : mi < 14
                  ·
                    obtain rfl : mi = 13 := by omega
                    exact ck_13
                  ·
                    obtain rfl : mi = 14 := by omega
                    exact ck_14
            ·
              by_cases h17 : mi < 17
              ·
                by_cases h16 : mi < 16
                ·
                  obtain rfl : mi = 15 := by omega
                  exact ck_15
                ·
                  obtain rfl : mi = 16 := by omega
                  exact ck_16
              ·
                by_cases h18 : mi < 18
                ·
                  obtain rfl : mi = 17 := by omega
                  exact ck_17
                ·
                  by_cases h19 : mi < 19
                  ·
                    obtain rfl : mi = 18 := by omega
                    exact ck_18
                  ·
                    obtain rfl : mi = 19 := by omega
                    exact ck_19
        ·
          by_cases h30 : mi < 30
          ·
            by_cases h25 : mi < 25
            ·
              by_cases h22 : mi < 22
              ·
                by_cases h21 : mi < 21
                ·
                  obtain rfl : mi = 20 := by omega
                  exact ck_20
                ·
                  obtain rfl : mi = 21 := by omega
                  exact ck_21
              ·
                by_cases h23 : mi < 23
                ·
                  obtain rfl : mi = 22 := by omega
                  exact ck_22
                ·
                  by_cases h24 : mi < 24
                  ·
                    obtain rfl : mi = 23 := by omega
                    exact ck_23
                  ·
                    obtain rfl : mi = 24 := by omega
                    exact ck_24
            ·
              by_cases h27 : mi < 27
              ·
                by_cases h26 : mi < 26
                ·
                  obtain rfl : mi = 25 := by omega
                  exact ck_25
                ·
                  obtain rfl : mi = 26 := by omega
                  exact ck_26
              ·
                by_cases h28 : mi < 28
                ·
                  obtain rfl : mi = 27 := by omega
                  exact ck_27
                ·
                  by_cases h29 : mi < 29
                  ·
                    obtain rfl : mi = 28 := by omega
                    exact ck_28
                  ·
                    obtain rfl : mi = 29 := by omega
                    exact ck_29
          ·
            by_cases h35 : mi < 35
            ·
              by_cases h32 : mi < 32
              ·
                by_cases h31 : mi < 31
                ·
                  obtain rfl : mi = 30 := by omega
                  exact ck_30
                ·
                  obtain rfl : mi = 31 := by omega
                  exact ck_31
              ·
                by_cases h33 : mi < 33
                ·
                  obtain rfl : mi = 32 := by omega
                  exact ck_32
                ·
                  by_cases h34 : mi < 34
                  ·
                    obtain rfl : mi = 33 := by omega
                    exact ck_33
                  ·
                    obtain rfl : mi = 34 := by omega
                    exact ck_34
            ·
              by_cases h37 : mi < 37
              ·
                by_cases h36 : mi < 36
                ·
                  obtain rfl : mi = 35 := by omega
                  exact ck_35
                ·
                  obtain rfl : mi = 36 := by omega
                  exact ck_36
              ·
                by_cases h38 : mi < 38
                ·
                  obtain rfl : mi = 37 := by omega
                  exact ck_37
                ·
                  by_cases h39 : mi < 39
                  ·
                    obtain rfl : mi = 38 := by omega
                    exact ck_38
                  ·
                    obtain rfl : mi = 39 := by omega
                    exact ck_39
      ·
        by_cases h60 : mi < 60
        ·
          by_cases h50 : mi < 50
          ·
            by_cases h45 : mi < 45
            ·
              by_cases h42 : mi < 42
              ·
                by_cases h41 : mi < 41
                ·
                  obtain rfl : mi = 40 := by omega
                  exact ck_40
                ·
                  obtain rfl : mi = 41 := by omega
                  exact ck_41
              ·
                by_cases h43 : mi < 43
                ·
                  obtain rfl : mi = 42 := by omega
                  exact ck_42
                ·
                  by_cases h44 : mi < 44
                  ·
                    obtain rfl : mi = 43 := by omega
                    exact ck_43
                  ·
                    obtain rfl : mi = 44 := by omega
                    exact ck_44
            ·
              by_cases h47 : mi < 47
              ·
                by_cases h46 : mi < 46
                ·
                  obtain rfl : mi = 45 := by omega
                  exact ck_45
                ·
                  obtain rfl : mi = 46 := by omega
                  exact ck_46
              ·
                by_cases h48 : mi < 48
                ·
                  obtain rfl : mi = 47 := by omega
                  exact ck_47
                ·
                  by_cases h49 : mi < 49
                  ·
                    obtain rfl : mi = 48 := by omega
                    exact ck_48
                  ·
                    obtain rfl : mi = 49 := by omega
                    exact ck_49
          ·
            by_cases h55 : mi < 55
            ·
              by_cases h52 : mi < 52
              ·
                by_cases h51 : mi < 51
                ·
                  obtain rfl : mi = 50 := by omega
                  exact ck_50
                ·
                  obtain rfl : mi = 51 := by omega
                  exact ck_51
              ·
                by_cases h53 : mi < 53
                ·
                  obtain rfl : mi = 52 := by omega
                  exact ck_52
                ·
                  by_cases h54 : mi < 54
                  ·
                    obtain rfl : mi = 53 := by omega
                    exact ck_53
                  ·
                    obtain rfl : mi = 54 := by omega
                    exact ck_54
            ·
              by_cases h57 : mi < 57
              ·
                by_cases h56 : mi < 56
                ·
                  obtain rfl : mi = 55 := by omega
                  exact ck_55
                ·
                  obtain rfl : mi = 56 := by omega
                  exact ck_56
              ·
                by_cases h58 : mi < 58
                ·
                  obtain rfl : mi = 57 := by omega
                  exact ck_57
                ·
                  by_cases h59 : mi < 59
                  ·
                    obtain rfl : mi = 58 := by omega
                    exact ck_58
                  ·
                    obtain rfl : mi = 59 := by omega
                    exact ck_59
        ·
          by_cases h70 : mi < 70
          ·
            by_cases h65 : mi < 65
            ·
              by_cases h62 : mi < 62
              ·
                by_cases h61 : mi < 61
                ·
                  obtain rfl : mi = 60 := by omega
                  exact ck_60
                ·
                  obtain rfl : mi = 61 := by omega
                  exact ck_61
              ·
                by_cases h63 : mi < 63
                ·
                  obtain rfl : mi = 62 := by omega
                  exact ck_62
                ·
                  by_cases h64 : mi < 64
                  ·
                    obtain rfl : mi = 63 := by omega
                    exact ck_63
                  ·
                    obtain rfl : mi = 64 := by omega
                    exact ck_64
            ·
              by_cases h67 : mi < 67
              ·
                by_cases h66 : mi < 66
                ·
                  obtain rfl : mi = 65 := by omega
                  exact ck_65
                ·
                  obtain rfl : mi = 66 := by omega
                  exact ck_66
              ·
                by_cases h68 : mi < 68
                ·
                  obtain rfl : mi = 67 := by omega
                  exact ck_67
                ·
                  by_cases h69 : mi < 69
                  ·
                    obtain rfl : mi = 68 := by omega
                    exact ck_68
                  ·
                    obtain rfl : mi = 69 := by omega
                    exact ck_69
          ·
            by_cases h75 : mi < 75
            ·
              by_cases h72 : mi < 72
              ·
                by_cases h71 : mi < 71
                ·
                  obtain rfl : mi = 70 := by omega
                  exact ck_70
                ·
                  obtain rfl : mi = 71 := by omega
                  exact ck_71
              ·
                by_cases h73 : mi < 73
                ·
                  obtain rfl : mi = 72 := by omega
                  exact ck_72
                ·
                  by_cases h74 : mi < 74
                  ·
                    obtain rfl : mi = 73 := by omega
                    exact ck_73
                  ·
                    obtain rfl : mi = 74 := by omega
                    exact ck_74
            ·
              by_cases h77 : mi < 77
              ·
                by_cases h76 : mi < 76
                ·
                  obtain rfl : mi = 75 := by omega
                  exact ck_75
                ·
                  obtain rfl : mi = 76 := by omega
                  exact ck_76
              ·
                by_cases h78 : mi < 78
                ·
                  obtain rfl : mi = 77 := by omega
                  exact ck_77
                ·
                  by_cases h79 : mi < 79
                  ·
                    obtain rfl : mi = 78 := by omega
                    exact ck_78
                  ·
                    obtain rfl : mi = 79 := by omega
                    exact ck_79
    ·
      by_cases h120 : mi < 120
      ·
        by_cases h100 : mi < 100
        ·
          by_cases h90 : mi < 90
          ·
            by_cases h85 : mi < 85
            ·
              by_cases h82 : mi < 82
              ·
                by_cases h81 : mi < 81
                ·
                  obtain rfl : mi = 80 := by omega
                  exact ck_80
                ·
                  obtain rfl : mi = 81 := by omega
                  exact ck_81
              ·
                by_cases h83 : mi < 83
                ·
                  obtain rfl : mi = 82 := by omega
                  exact ck_82
                ·
                  by_cases h84 : mi < 84
                  ·
                    obtain rfl : mi = 83 := by omega
                    exact ck_83
                  ·
                    obtain rfl : mi = 84 := by omega
                    exact ck_84
            ·
              by_cases h87 : mi < 87
              ·
                by_cases h86 : mi < 86
                ·
                  obtain rfl : mi = 85 := by omega
                  exact ck_85
                ·
                  obtain rfl : mi = 86 := by omega
                  exact ck_86
              ·
                by_cases h88 : mi < 88
                ·
                  obtain rfl : mi = 87 := by omega
                  exact ck_87
                ·
                  by_cases h89 : mi < 89
                  ·
                    obtain rfl : mi = 88 := by omega
                    exact ck_88
                  ·
                    obtain rfl : mi = 89 := by omega
                    exact ck_89
          ·
            by_cases h95 : mi < 95
            ·
              by_cases h92 : mi < 92
              ·
                by_cases h91 : mi < 91
                ·
                  obtain rfl : mi = 90 := by omega
                  exact ck_90
                ·
                  obtain rfl : mi = 91 := by omega
                  exact ck_91
              ·
                by_cases h93 : mi < 93
                ·
                  obtain rfl : mi = 92 := by omega
                  exact ck_92
                ·
                  by_cases h94 : mi < 94
                  ·
                    obtain rfl : mi = 93 := by omega
                    exact ck_93
                  ·
                    obtain rfl : mi = 94 := by omega
                    exact ck_94
            ·
              by_cases h97 : mi < 97
              ·
                by_cases h96 : mi < 96
                ·
                  obtain rfl : mi = 95 := by omega
                  exact ck_95
                ·
                  obtain rfl : mi = 96 := by omega
                  exact ck_96
              ·
                by_cases h98 : mi < 98
                ·
                  obtain rfl : mi = 97 := by omega
                  exact ck_97
                ·
                  by_cases h99 : mi < 99
                  ·
                    obtain rfl : mi = 98 := by omega
                    exact ck_98
                  ·
                    obtain rfl : mi = 99 := by omega
                    exact ck_99
        ·
          by_cases h110 : mi < 110
          ·
            by_cases h105 : mi < 105
            ·
              by_cases h102 : mi < 102
              ·
                by_cases h101 : mi < 101
                ·
                  obtain rfl : mi = 100 := by omega
                  exact ck_100
                ·
                  obtain rfl : mi = 101 := by omega
                  exact ck_101
              ·
                by_cases h103 : mi < 103
                ·
                  obtain rfl : mi = 102 := by omega
                  exact ck_102
                ·
                  by_cases h104 : mi < 104
                  ·
                    obtain rfl : mi = 103 := by omega
                    exact ck_103
                  ·
                    obtain rfl : mi = 104 := by omega
                    exact ck_104
            ·
              by_cases h107 : mi < 107
              ·
                by_cases h106 : mi < 106
                ·
                  obtain rfl : mi = 105 := by omega
                  exact ck_105
                ·
                  obtain rfl : mi = 106 := by omega
                  exact ck_106
              ·
                by_cases h108 : mi < 108
                ·
                  obtain rfl : mi = 107 := by omega
                  exact ck_107
                ·
                  by_cases h109 : mi < 109
                  ·
                    obtain rfl : mi = 108 := by omega
                    exact ck_108
                  ·
                    obtain rfl : mi = 109 := by omega
                    exact ck_109
          ·
            by_cases h115 : mi < 115
            ·
              by_cases h112 : mi < 112
              ·
                by_cases h111 : mi < 111
                ·
                  obtain rfl : mi = 110 := by omega
                  exact ck_110
                ·
                  obtain rfl : mi = 111 := by omega
                  exact ck_111
              ·
                by_cases h113 : mi < 113
                ·
                  obtain rfl : mi = 112 := by omega
                  exact ck_112
                ·
                  by_cases h114 : mi < 114
                  ·
                    obtain rfl : mi = 113 := by omega
                    exact ck_113
                  ·
                    obtain rfl : mi = 114 := by omega
                    exact ck_114
            ·
              by_cases h117 : mi < 117
              ·
                by_cases h116 : mi < 116
                ·
                  obtain rfl : mi = 115 := by omega
                  exact ck_115
                ·
                  obtain rfl : mi = 116 := by omega
                  exact ck_116
              ·
                by_cases h118 : mi < 118
                ·
                  obtain rfl : mi = 117 := by omega
                  exact ck_117
                ·
                  by_cases h119 : mi < 119
                  ·
                    obtain rfl : mi = 118 := by omega
                    exact ck_118
                  ·
                    obtain rfl : mi = 119 := by omega
                    exact ck_119
      ·
        by_cases h140 : mi < 140
        ·
          by_cases h130 : mi < 130
          ·
            by_cases h125 : mi < 125
            ·
              by_cases h122 : mi < 122
              ·
                by_cases h121 : mi < 121
                ·
                  obtain rfl : mi = 120 := by omega
                  exact ck_120
                ·
                  obtain rfl : mi = 121 := by omega
                  exact ck_121
              ·
                by_cases h123 : mi < 123
                ·
                  obtain rfl : mi = 122 := by omega
                  exact ck_122
                ·
                  by_cases h124 : mi < 124
                  ·
                    obtain rfl : mi = 123 := by omega
                    exact ck_123
                  ·
                    obtain rfl : mi = 124 := by omega
                    exact ck_124
            ·
              by_cases h127 : mi < 127
              ·
                by_cases h126 : mi < 126
                ·
                  obtain rfl : mi = 125 := by omega
                  exact ck_125
                ·
                  obtain rfl : mi = 126 := by omega
                  exact ck_126
              ·
                by_cases h128 : mi < 128
                ·
                  obtain rfl : mi = 127 := by omega
                  exact ck_127
                ·
                  by_cases h129 : mi < 129
                  ·
                    obtain rfl : mi = 128 := by omega
                    exact ck_128
                  ·
                    obtain rfl : mi = 129 := by omega
                    exact ck_129
          ·
            by_cases h135 : mi < 135
            ·
              by_cases h132 : mi < 132
              ·
                by_cases h131 : mi < 131
                ·
                  obtain rfl : mi = 130 := by omega
                  exact ck_130
                ·
                  obtain rfl : mi = 131 := by omega
                  exact ck_131
              ·
                by_cases h133 : mi < 133
                ·
                  obtain rfl : mi = 132 := by omega
                  exact ck_132
                ·
                  by_cases h134 : mi < 134
                  ·
                    obtain rfl : mi = 133 := by omega
                    exact ck_133
                  ·
                    obtain rfl : mi = 134 := by omega
                    exact ck_134
            ·
              by_cases h137 : mi < 137
              ·
                by_cases h136 : mi < 136
                ·
                  obtain rfl : mi = 135 := by omega
                  exact ck_135
                ·
                  obtain rfl : mi = 136 := by omega
                  exact ck_136
              ·
                by_cases h138 : mi < 138
                ·
                  obtain rfl : mi = 137 := by omega
                  exact ck_137
                ·
                  by_cases h139 : mi < 139
                  ·
                    obtain rfl : mi = 138 := by omega
                    exact ck_138
                  ·
                    obtain rfl : mi = 139 := by omega
                    exact ck_139
        ·
          by_cases h150 : mi < 150
          ·
            by_cases h145 : mi < 145
            ·
              by_cases h142 : mi < 142
              ·
                by_cases h141 : mi < 141
                ·
                  obtain rfl : mi = 140 := by omega
                  exact ck_140
                ·
                  obtain rfl : mi = 141 := by omega
                  exact ck_141
              ·
                by_cases h143 : mi < 143
                ·
                  obtain rfl : mi = 142 := by omega
                  exact ck_142
                ·
                  by_cases h144 : mi < 144
                  ·
                    obtain rfl : mi = 143 := by omega
                    exact ck_143
                  ·
                    obtain rfl : mi = 144 := by omega
                    exact ck_144
            ·
              by_cases h147 : mi < 147
              ·
                by_cases h146 : mi < 146
                ·
                  obtain rfl : mi = 145 := by omega
                  exact ck_145
                ·
                  obtain rfl : mi = 146 := by omega
                  exact ck_146
              ·
                by_cases h148 : mi < 148
                ·
                  obtain rfl : mi = 147 := by omega
                  exact ck_147
                ·
                  by_cases h149 : mi < 149
                  ·
                    obtain rfl : mi = 148 := by omega
                    exact ck_148
                  ·
                    obtain rfl : mi = 149 := by omega
                    exact ck_149
          ·
            by_cases h155 : mi < 155
            ·
              by_cases h152 : mi < 152
              ·
                by_cases h151 : mi < 151
                ·
                  obtain rfl : mi = 150 := by omega
                  exact ck_150
                ·
                  obtain rfl : mi = 151 := by omega
                  exact ck_151
              ·
                by_cases h153 : mi < 153
                ·
                  obtain rfl : mi = 152 := by omega
                  exact ck_152
                ·
                  by_cases h154 : mi < 154
                  ·
                    obtain rfl : mi = 153 := by omega
                    exact ck_153
                  ·
                    obtain rfl : mi = 154 := by omega
                    exact ck_154
            ·
              by_cases h157 : mi < 157
              ·
                by_cases h156 : mi < 156
                ·
                  obtain rfl : mi = 155 := by omega
                  exact ck_155
                ·
                  obtain rfl : mi = 156 := by omega
                  exact ck_156
              ·
                by_cases h158 : mi < 158
                ·
                  obtain rfl : mi = 157 := by omega
                  exact ck_157
                ·
                  by_cases h159 : mi < 159
                  ·
                    obtain rfl : mi = 158 := by omega
                    exact ck_158
                  ·
                    obtain rfl : mi = 159 := by omega
                    exact ck_159
  ·
    by_cases h240 : mi < 240
    ·
      by_cases h200 : mi < 200
      ·
        by_cases h180 : mi < 180
        ·
          by_cases h170 : mi < 170
          ·
            by_cases h165 : mi < 165
            ·
              by_cases h162 : mi < 162
              ·
                by_cases h161 : mi < 161
                ·
                  obtain rfl : mi = 160 := by omega
                  exact ck_160
                ·
                  obtain rfl : mi = 161 := by omega
                  exact ck_161
              ·
                by_cases h163 : mi < 163
                ·
                  obtain rfl : mi = 162 := by omega
                  exact ck_162
                ·
                  by_cases h164 : mi < 164
                  ·
                    obtain rfl : mi = 163 := by omega
                    exact ck_163
                  ·
                    obtain rfl : mi = 164 := by omega
                    exact ck_164
            ·
              by_cases h167 : mi < 167
              ·
                by_cases h166 : mi < 166
                ·
                  obtain rfl : mi = 165 := by omega
                  exact ck_165
                ·
                  obtain rfl : mi = 166 := by omega
                  exact ck_166
              ·
                by_cases h168 : mi < 168
                ·
                  obtain rfl : mi = 167 := by omega
                  exact ck_167
                ·
                  by_cases h169 : mi < 169
                  ·
                    obtain rfl : mi = 168 := by omega
                    exact ck_168
                  ·
                    obtain rfl : mi = 169 := by omega
                    exact ck_169
          ·
            by_cases h175 : mi < 175
            ·
              by_cases h172 : mi < 172
              ·
                by_cases h171 : mi < 171
                ·
                  obtain rfl : mi = 170 := by omega
                  exact ck_170
                ·
                  obtain rfl : mi = 171 := by omega
                  exact ck_171
              ·
                by_cases h173 : mi < 173
                ·
                  obtain rfl : mi = 172 := by omega
                  exact ck_172
                ·
                  by_cases h174 : mi < 174
                  ·
                    obtain rfl : mi = 173 := by omega
                    exact ck_173
                  ·
                    obtain rfl : mi = 174 := by omega
                    exact ck_174
            ·
              by_cases h177 : mi < 177
              ·
                by_cases h176 : mi < 176
                ·
                  obtain rfl : mi = 175 := by omega
                  exact ck_175
                ·
                  obtain rfl : mi = 176 := by omega
                  exact ck_176
              ·
                by_cases h178 : mi < 178
                ·
                  obtain rfl : mi = 177 := by omega
                  exact ck_177
                ·
                  by_cases h179 : mi < 179
                  ·
                    obtain rfl : mi = 178 := by omega
                    exact ck_178
                  ·
                    obtain rfl : mi = 179 := by omega
                    exact ck_179
        ·
          by_cases h190 : mi < 190
          ·
            by_cases h185 : mi < 185
            ·
              by_cases h182 : mi < 182
              ·
                by_cases h181 : mi < 181
                ·
                  obtain rfl : mi = 180 := by omega
                  exact ck_180
                ·
                  obtain rfl : mi = 181 := by omega
                  exact ck_181
              ·
                by_cases h183 : mi < 183
                ·
                  obtain rfl : mi = 182 := by omega
                  exact ck_182
                ·
                  by_cases h184 : mi < 184
                  ·
                    obtain rfl : mi = 183 := by omega
                    exact ck_183
                  ·
                    obtain rfl : mi = 184 := by omega
                    exact ck_184
            ·
              by_cases h187 : mi < 187
              ·
                by_cases h186 : mi < 186
                ·
                  obtain rfl : mi = 185 := by omega
                  exact ck_185
                ·
                  obtain rfl : mi = 186 := by omega
                  exact ck_186
              ·
                by_cases h188 : mi < 188
                ·
                  obtain rfl : mi = 187 := by omega
                  exact ck_187
                ·
                  by_cases h189 : mi < 189
                  ·
                    obtain rfl : mi = 188 := by omega
                    exact ck_188
                  ·
                    obtain rfl : mi = 189 := by omega
                    exact ck_189
          ·
            by_cases h195 : mi < 195
            ·
              by_cases h192 : mi < 192
              ·
                by_cases h191 : mi < 191
                ·
                  obtain rfl : mi = 190 := by omega
                  exact ck_190
                ·
                  obtain rfl : mi = 191 := by omega
                  exact ck_191
              ·
                by_cases h193 : mi < 193
                ·
                  obtain rfl : mi = 192 := by omega
                  exact ck_192
                ·
                  by_cases h194 : mi < 194
                  ·
                    obtain rfl : mi = 193 := by omega
                    exact ck_193
                  ·
                    obtain rfl : mi = 194 := by omega
                    exact ck_194
            ·
              by_cases h197 : mi < 197
              ·
                by_cases h196 : mi < 196
                ·
                  obtain rfl : mi = 195 := by omega
                  exact ck_195
                ·
                  obtain rfl : mi = 196 := by omega
                  exact ck_196
              ·
                by_cases h198 : mi < 198
                ·
                  obtain rfl : mi = 197 := by omega
                  exact ck_197
                ·
                  by_cases h199 : mi < 199
                  ·
                    obtain rfl : mi = 198 := by omega
                    exact ck_198
                  ·
                    obtain rfl : mi = 199 := by omega
                    exact ck_199
      ·
        by_cases h220 : mi < 220
        ·
          by_cases h210 : mi < 210
          ·
            by_cases h205 : mi < 205
            ·
              by_cases h202 : mi < 202
              ·
                by_cases h201 : mi < 201
                ·
                  obtain rfl : mi = 200 := by omega
                  exact ck_200
                ·
                  obtain rfl : mi = 201 := by omega
                  exact ck_201
              ·
                by_cases h203 : mi < 203
                ·
                  obtain rfl : mi = 202 := by omega
                  exact ck_202
                ·
                  by_cases h204 : mi < 204
                  ·
                    obtain rfl : mi = 203 := by omega
                    exact ck_203
                  ·
                    obtain rfl : mi = 204 := by omega
                    exact ck_204
            ·
              by_cases h207 : mi < 207
              ·
                by_cases h206 : mi < 206
                ·
                  obtain rfl : mi = 205 := by omega
                  exact ck_205
                ·
                  obtain rfl : mi = 206 := by omega
                  exact ck_206
              ·
                by_cases h208 : mi < 208
                ·
                  obtain rfl : mi = 207 := by omega
                  exact ck_207
                ·
                  by_cases h209 : mi < 209
                  ·
                    obtain rfl : mi = 208 := by omega
                    exact ck_208
                  ·
                    obtain rfl : mi = 209 := by omega
                    exact ck_209
          ·
            by_cases h215 : mi < 215
            ·
              by_cases h212 : mi < 212
              ·
                by_cases h211 : mi < 211
                ·
                  obtain rfl : mi = 210 := by omega
                  exact ck_210
                ·
                  obtain rfl : mi = 211 := by omega
                  exact ck_211
              ·
                by_cases h213 : mi < 213
                ·
                  obtain rfl : mi = 212 := by omega
                  exact ck_212
                ·
                  by_cases h214 : mi < 214
                  ·
                    obtain rfl : mi = 213 := by omega
                    exact ck_213
                  ·
                    obtain rfl : mi = 214 := by omega
                    exact ck_214
            ·
              by_cases h217 : mi < 217
              ·
                by_cases h216 : mi < 216
                ·
                  obtain rfl : mi = 215 := by omega
                  exact ck_215
                ·
                  obtain rfl : mi = 216 := by omega
                  exact ck_216
              ·
                by_cases h218 : mi < 218
                ·
                  obtain rfl : mi = 217 := by omega
                  exact ck_217
                ·
                  by_cases h219 : mi < 219
                  ·
                    obtain rfl : mi = 218 := by omega
                    exact ck_218
                  ·
                    obtain rfl : mi = 219 := by omega
                    exact ck_219
        ·
          by_cases h230 : mi < 230
          ·
            by_cases h225 : mi < 225
            ·
              by_cases h222 : mi < 222
              ·
                by_cases h221 : mi < 221
                ·
                  obtain rfl : mi = 220 := by omega
                  exact ck_220
                ·
                  obtain rfl : mi = 221 := by omega
                  exact ck_221
              ·
                by_cases h223 : mi < 223
                ·
                  obtain rfl : mi = 222 := by omega
                  exact ck_222
                ·
                  by_cases h224 : mi < 224
                  ·
                    obtain rfl : mi = 223 := by omega
                    exact ck_223
                  ·
                    obtain rfl : mi = 224 := by omega
                    exact ck_224
            ·
              by_cases h227 : mi < 227
              ·
                by_cases h226 : mi < 226
                ·
                  obtain rfl : mi = 225 := by omega
                  exact ck_225
                ·
                  obtain rfl : mi = 226 := by omega
                  exact ck_226
              ·
                by_cases h228 : mi < 228
                ·
                  obtain rfl : mi = 227 := by omega
                  exact ck_227
                ·
                  by_cases h229 : mi < 229
                  ·
                    obtain rfl : mi = 228 := by omega
                    exact ck_228
                  ·
                    obtain rfl : mi = 229 := by omega
                    exact ck_229
          ·
            by_cases h235 : mi < 235
            ·
              by_cases h232 : mi < 232
              ·
                by_cases h231 : mi < 231
                ·
                  obtain rfl : mi = 230 := by omega
                  exact ck_230
                ·
                  obtain rfl : mi = 231 := by omega
                  exact ck_231
              ·
                by_cases h233 : mi < 233
                ·
                  obtain rfl : mi = 232 := by omega
                  exact ck_232
                ·
                  by_cases h234 : mi < 234
                  ·
                    obtain rfl : mi = 233 := by omega
                    exact ck_233
                  ·
                    obtain rfl : mi = 234 := by omega
                    exact ck_234
            ·
              by_cases h237 : mi < 237
              ·
                by_cases h236 : mi < 236
                ·
                  obtain rfl : mi = 235 := by omega
                  exact ck_235
                ·
                  obtain rfl : mi = 236 := by omega
                  exact ck_236
              ·
                by_cases h238 : mi < 238
                ·
                  obtain rfl : mi = 237 := by omega
                  exact ck_237
                ·
                  by_cases h239 : mi < 239
                  ·
                    obtain rfl : mi = 238 := by omega
                    exact ck_238
                  ·
                    obtain rfl : mi = 239 := by omega
                    exact ck_239
    ·
      by_cases h280 : mi < 280
      ·
        by_cases h260 : mi < 260
        ·
          by_cases h250 : mi < 250
          ·
            by_cases h245 : mi < 245
            ·
              by_cases h242 : mi < 242
              ·
                by_cases h241 : mi < 241
                ·
                  obtain rfl : mi = 240 := by omega
                  exact ck_240
                ·
                  obtain rfl : mi = 241 := by omega
                  exact ck_241
              ·
                by_cases h243 : mi < 243
                ·
                  obtain rfl : mi = 242 := by omega
                  exact ck_242
                ·
                  by_cases h244 : mi < 244
                  ·
                    obtain rfl : mi = 243 := by omega
                    exact ck_243
                  ·
                    obtain rfl : mi = 244 := by omega
                    exact ck_244
            ·
              by_cases h247 : mi < 247
              ·
                by_cases h246 : mi < 246
                ·
                  obtain rfl : mi = 245 := by omega
                  exact ck_245
                ·
                  obtain rfl : mi = 246 := by omega
                  exact ck_246
              ·
                by_cases h248 : mi < 248
                ·
                  obtain rfl : mi = 247 := by omega
                  exact ck_247
                ·
                  by_cases h249 : mi < 249
                  ·
                    obtain rfl : mi = 248 := by omega
                    exact ck_248
                  ·
                    obtain rfl : mi = 249 := by omega
                    exact ck_249
          ·
            by_cases h255 : mi < 255
            ·
              by_cases h252 : mi < 252
              ·
                by_cases h251 : mi < 251
                ·
                  obtain rfl : mi = 250 := by omega
                  exact ck_250
                ·
                  obtain rfl : mi = 251 := by omega
                  exact ck_251
              ·
                by_cases h253 : mi < 253
                ·
                  obtain rfl : mi = 252 := by omega
                  exact ck_252
                ·
                  by_cases h254 : mi < 254
                  ·
                    obtain rfl : mi = 253 := by omega
                    exact ck_253
                  ·
                    obtain rfl : mi = 254 := by omega
                    exact ck_254
            ·
              by_cases h257 : mi < 257
              ·
                by_cases h256 : mi < 256
                ·
                  obtain rfl : mi = 255 := by omega
                  exact ck_255
                ·
                  obtain rfl : mi = 256 := by omega
                  exact ck_256
              ·
                by_cases h258 : mi < 258
                ·
                  obtain rfl : mi = 257 := by omega
                  exact ck_257
                ·
                  by_cases h259 : mi < 259
                  ·
                    obtain rfl : mi = 258 := by omega
                    exact ck_258
                  ·
                    obtain rfl : mi = 259 := by omega
                    exact ck_259
        ·
          by_cases h270 : mi < 270
          ·
            by_cases h265 : mi < 265
            ·
              by_cases h262 : mi < 262
              ·
                by_cases h261 : mi < 261
                ·
                  obtain rfl : mi = 260 := by omega
                  exact ck_260
                ·
                  obtain rfl : mi = 261 := by omega
                  exact ck_261
              ·
                by_cases h263 : mi < 263
                ·
                  obtain rfl : mi = 262 := by omega
                  exact ck_262
                ·
                  by_cases h264 : mi < 264
                  ·
                    obtain rfl : mi = 263 := by omega
                    exact ck_263
                  ·
                    obtain rfl : mi = 264 := by omega
                    exact ck_264
            ·
              by_cases h267 : mi < 267
              ·
                by_cases h266 : mi < 266
                ·
                  obtain rfl : mi = 265 := by omega
                  exact ck_265
                ·
                  obtain rfl : mi = 266 := by omega
                  exact ck_266
              ·
                by_cases h268 : mi < 268
                ·
                  obtain rfl : mi = 267 := by omega
                  exact ck_267
                ·
                  by_cases h269 : mi < 269
                  ·
                    obtain rfl : mi = 268 := by omega
                    exact ck_268
                  ·
                    obtain rfl : mi = 269 := by omega
                    exact ck_269
          ·
            by_cases h275 : mi < 275
            ·
              by_cases h272 : mi < 272
              ·
                by_cases h271 : mi < 271
                ·
                  obtain rfl : mi = 270 := by omega
                  exact ck_270
                ·
                  obtain rfl : mi = 271 := by omega
                  exact ck_271
              ·
                by_cases h273 : mi < 273
                ·
                  obtain rfl : mi = 272 := by omega
                  exact ck_272
                ·
                  by_cases h274 : mi < 274
                  ·
                    obtain rfl : mi = 273 := by omega
                    exact ck_273
                  ·
                    obtain rfl : mi = 274 := by omega
                    exact ck_274
            ·
              by_cases h277 : mi < 277
              ·
                by_cases h276 : mi < 276
                ·
                  obtain rfl : mi = 275 := by omega
                  exact ck_275
                ·
                  obtain rfl : mi = 276 := by omega
                  exact ck_276
              ·
                by_cases h278 : mi < 278
                ·
                  obtain rfl : mi = 277 := by omega
                  exact ck_277
                ·
                  by_cases h279 : mi < 279
                  ·
                    obtain rfl : mi = 278 := by omega
                    exact ck_278
                  ·
                    obtain rfl : mi = 279 := by omega
                    exact ck_279
      ·
        by_cases h300 : mi < 300
        ·
          by_cases h290 : mi < 290
          ·
            by_cases h285 : mi < 285
            ·
              by_cases h282 : mi < 282
              ·
                by_cases h281 : mi < 281
                ·
                  obtain rfl : mi = 280 := by omega
                  exact ck_280
                ·
                  obtain rfl : mi = 281 := by omega
                  exact ck_281
              ·
                by_cases h283 : mi < 283
                ·
                  obtain rfl : mi = 282 := by omega
                  exact ck_282
                ·
                  by_cases h284 : mi < 284
                  ·
                    obtain rfl : mi = 283 := by omega
                    exact ck_283
                  ·
                    obtain rfl : mi = 284 := by omega
                    exact ck_284
            ·
              by_cases h287 : mi < 287
              ·
                by_cases h286 : mi < 286
                ·
                  obtain rfl : mi = 285 := by omega
                  exact ck_285
                ·
                  obtain rfl : mi = 286 := by omega
                  exact ck_286
              ·
                by_cases h288 : mi < 288
                ·
                  obtain rfl : mi = 287 := by omega
                  exact ck_287
                ·
                  by_cases h289 : mi < 289
                  ·
                    obtain rfl : mi = 288 := by omega
                    exact ck_288
                  ·
                    obtain rfl : mi = 289 := by omega
                    exact ck_289
          ·
            by_cases h295 : mi < 295
            ·
              by_cases h292 : mi < 292
              ·
                by_cases h291 : mi < 291
                ·
                  obtain rfl : mi = 290 := by omega
                  exact ck_290
                ·
                  obtain rfl : mi = 291 := by omega
                  exact ck_291
              ·
                by_cases h293 : mi < 293
                ·
                  obtain rfl : mi = 292 := by omega
                  exact ck_292
                ·
                  by_cases h294 : mi < 294
                  ·
                    obtain rfl : mi = 293 := by omega
                    exact ck_293
                  ·
                    obtain rfl : mi = 294 := by omega
                    exact ck_294
            ·
              by_cases h297 : mi < 297
              ·
                by_cases h296 : mi < 296
                ·
                  obtain rfl : mi = 295 := by omega
                  exact ck_295
                ·
                  obtain rfl : mi = 296 := by omega
                  exact ck_296
              ·
                by_cases h298 : mi < 298
                ·
                  obtain rfl : mi = 297 := by omega
                  exact ck_297
                ·
                  by_cases h299 : mi < 299
                  ·
                    obtain rfl : mi = 298 := by omega
                    exact ck_298
                  ·
                    obtain rfl : mi = 299 := by omega
                    exact ck_299
        ·
          by_cases h310 : mi < 310
          ·
            by_cases h305 : mi < 305
            ·
              by_cases h302 : mi < 302
              ·
                by_cases h301 : mi < 301
                ·
                  obtain rfl : mi = 300 := by omega
                  exact ck_300
                ·
                  obtain rfl : mi = 301 := by omega
                  exact ck_301
              ·
                by_cases h303 : mi < 303
                ·
                  obtain rfl : mi = 302 := by omega
                  exact ck_302
                ·
                  by_cases h304 : mi < 304
                  ·
                    obtain rfl : mi = 303 := by omega
                    exact ck_303
                  ·
                    obtain rfl : mi = 304 := by omega
                    exact ck_304
            ·
              by_cases h307 : mi < 307
              ·
                by_cases h306 : mi < 306
                ·
                  obtain rfl : mi = 305 := by omega
                  exact ck_305
                ·
                  obtain rfl : mi = 306 := by omega
                  exact ck_306
              ·
                by_cases h308 : mi < 308
                ·
                  obtain rfl : mi = 307 := by omega
                  exact ck_307
                ·
                  by_cases h309 : mi < 309
                  ·
                    obtain rfl : mi = 308 := by omega
                    exact ck_308
                  ·
                    obtain rfl : mi = 309 := by omega
                    exact ck_309
          ·
            by_cases h315 : mi < 315
            ·
              by_cases h312 : mi < 312
              ·
                by_cases h311 : mi < 311
                ·
                  obtain rfl : mi = 310 := by omega
                  exact ck_310
                ·
                  obtain rfl : mi = 311 := by omega
                  exact ck_311
              ·
                by_cases h313 : mi < 313
                ·
                  obtain rfl : mi = 312 := by omega
                  exact ck_312
                ·
                  by_cases h314 : mi < 314
                  ·
                    obtain rfl : mi = 313 := by omega
                    exact ck_313
                  ·
                    obtain rfl : mi = 314 := by omega
                    exact ck_314
            ·
              by_cases h317 : mi < 317
              ·
                by_cases h316 : mi < 316
                ·
                  obtain rfl : mi = 315 := by omega
                  exact ck_315
                ·
                  obtain rfl : mi = 316 := by omega
                  exact ck_316
              ·
                by_cases h318 : mi < 318
                ·
                  obtain rfl : mi = 317 := by omega
                  exact ck_317
                ·
                  by_cases h319 : mi < 319
                  ·
                    obtain rfl : mi = 318 := by omega
                    exact ck_318
                  ·
                    obtain rfl : mi = 319 := by omega
                    exact ck_319
theorem cw_all (mi : Nat) (q : xMt) (h : mi < 320) (h0 : mi ≠ 0) (hm : MT mi = some q) : Cond.code q.1 q.2.1 q.2.2.1 q.2.2.2 ∈ lw_tbl := by
  by_cases h160 : mi < 160
  ·
    by_cases h80 : mi < 80
    ·
      by_cases h40 : mi < 40
      ·
        by_cases h20 : mi < 20
        ·
          by_cases h10 : mi < 10
          ·
            by_cases h5 : mi < 5
            ·
              by_cases h2 : mi < 2
              ·
                by_cases h1 : mi < 1
                ·
                  obtain rfl : mi = 0 := by omega
                  exact absurd rfl h0
                ·
                  obtain rfl : mi = 1 := by omega
                  have hq : q = mt_1 := (Option.some.inj hm).symm
                  rw [hq]
                  exact List.mem_of_getElem? cw_1
              ·
                by_cases h3 : mi < 3
                ·
                  obtain rfl : mi = 2 := by omega
                  have hq : q = mt_2 := (Option.some.inj hm).symm
                  rw [hq]
                  exact List.mem_of_getElem? cw_2
                ·
                  by_cases h4 : mi < 4
                  ·
                    obtain rfl : mi = 3 := by omega
                    have hq : q = mt_3 := (Option.some.inj hm).symm
                    rw [hq]
                    exact List.mem_of_getElem? cw_3
                  ·
                    obtain rfl : mi = 4 := by omega
                    have hq : q = mt_4 := (Option.some.inj hm).symm
                    rw [hq]
                    exact List.mem_of_getElem? cw_4
            ·
              by_cases h7 : mi < 7
              ·
                by_cases h6 : mi < 6
                ·
                  obtain rfl : mi = 5 := by omega
                  have hq : q = mt_5 := (Option.some.inj hm).symm
                  rw [hq]
                  exact List.mem_of_getElem? cw_5
                ·
                  obtain rfl : mi = 6 := by omega
                  have hq : q = mt_6 := (Option.some.inj hm).symm
                  rw [hq]
                  exact List.mem_of_getElem? cw_6
              ·
                by_cases h8 : mi < 8
                ·
                  obtain rfl : mi = 7 := by omega
                  have hq : q = mt_7 := (Option.some.inj hm).symm
                  rw [hq]
                  exact List.mem_of_getElem? cw_7
                ·
                  by_cases h9 : mi < 9
                  ·
                    obtain rfl : mi = 8 := by omega
                    have hq : q = mt_8 := (Option.some.inj hm).symm
                    rw [hq]
                    exact List.mem_of_getElem? cw_8
                  ·
                    obtain rfl : mi = 9 := by omega
                    have hq : q = mt_9 := (Option.some.inj hm).symm
                    rw [hq]
                    exact List.mem_of_getElem? cw_9
          ·
            by_cases h15 : mi < 15
            ·
              by_cases h12 : mi < 12
              ·
                by_cases h11 : mi < 11
                ·
                  obtain rfl : mi = 10 := by omega
                  have hq : q = mt_10 := (Option.some.inj hm).symm
                  rw [hq]
                  exact List.mem_of_getElem? cw_10
                ·
                  obtain rfl : mi = 11 := by omega
                  have hq : q = mt_11 := (Option.some.inj hm).symm
                  rw [hq]
                  exact List.mem_of_getElem? cw_11
              ·
                by_cases h13 : mi < 13
                ·
                  obtain rfl : mi = 12 := by omega
                  have hq : q = mt_12 := (Option.some.inj hm).symm
                  rw [hq]
                  exact List.mem_of_getElem? cw_12
                ·
                  by_cases h14 : mi < 14
                  ·
                    obtain rfl : mi = 13 := by omega
                    have hq : q = mt_13 := (Option.some.inj hm).symm
                    rw [hq]
                    exact List.mem_of_getElem? cw_13
                  ·
                    obtain rfl : mi = 14 := by omega
                    have hq : q = mt_14 := (Option.some.inj hm).symm
                    rw [hq]
                    exact List.mem_of_getElem? cw_14
            ·
              by_cases h17 : mi < 17
              ·
                by_cases h16 : mi < 16
                ·
                  obtain rfl : mi = 15 := by omega
                  have hq : q = mt_15 := (Option.some.inj hm).symm
                  rw [hq]
                  exact List.mem_of_getElem? cw_15
                ·
                  obtain rfl : mi = 16 := by omega
                  have hq : q = mt_16 := (Option.some.inj hm).symm
                  rw [hq]
                  exact List.mem_of_getElem? cw_16
              ·
                by_cases h18 : mi < 18
                ·
                  obtain rfl : mi = 17 := by omega
                  have hq : q = mt_17 := (Option.some.inj hm).symm
                  rw [hq]
                  exact List.mem_of_getElem? cw_17
                ·
                  by_cases h19 : mi < 19
                  ·
                    obtain rfl : mi = 18 := by omega
                    have hq : q = mt_18 := (Option.some.inj hm).symm
                    rw [hq]
                    exact List.mem_of_getElem? cw_18
                  ·
                    obtain rfl : mi = 19 := by omega
                    have hq : q = mt_19 := (Option.some.inj hm).symm
                    rw [hq]
                    exact List.mem_of_getElem? cw_19
        ·
          by_cases h30 : mi < 30
          ·
            by_cases h25 : mi < 25
            ·
              by_cases h22 : mi < 22
              ·
                by_cases h21 : mi < 21
                ·
                  obtain rfl : mi = 20 := by omega
                  have hq : q = mt_20 := (Option.some.inj hm).symm
                  rw [hq]
                  exact List.mem_of_getElem? cw_20
                ·
                  obtain rfl : mi = 21 := by omega
                  have hq : q = mt_21 := (Option.some.inj hm).symm
                  rw [hq]
                  exact List.mem_of_getElem? cw_21
              ·
                by_cases h23 : mi < 23
                ·
                  obtain rfl : mi = 22 := by omega
                  have hq : q = mt_22 := (Option.some.inj hm).symm
                  rw [hq]
                  exact List.mem_of_getElem? cw_22
                ·
                  by_cases h24 : mi < 24
                  ·
                    obtain rfl : mi = 23 := by omega
                    have hq : q = mt_23 := (Option.some.inj hm).symm
                    rw [hq]
                    exact List.mem_of_getElem? cw_23
                  ·
                    obtain rfl : mi = 24 := by omega
                    have hq : q = mt_24 := (Option.some.inj hm).symm
                    rw [hq]
                    exact List.mem_of_getElem? cw_24
            ·
              by_cases h27 : mi < 27
              ·
                by_cases h26 : mi < 26
                ·
                  obtain rfl : mi = 25 := by omega
                  have hq : q = mt_25 := (Option.some.inj hm).symm
                  rw [hq]
                  exact List.mem_of_getElem? cw_25
                ·
                  obtain rfl : mi = 26 := by omega
                  have hq : q = mt_26 := (Option.some.inj hm).symm
                  rw [hq]
                  exact List.mem_of_getElem? cw_26
              ·
                by_cases h28 : mi < 28
                ·
                  obtain rfl : mi = 27 := by omega
                  have hq : q = mt_27 := (Option.some.inj hm).symm
                  rw [hq]
                  exact List.mem_of_getElem? cw_27
                ·
                  by_cases h29 : mi < 29
                  ·
                    obtain rfl : mi = 28 := by omega
                    have hq : q = mt_28 := (Option.some.inj hm).symm
                    rw [hq]
                    exact List.mem_of_getElem? cw_28
                  ·
                    obtain rfl : mi = 29 := by omega
                    have hq : q = mt_29 := (Option.some.inj hm).symm
                    rw [hq]
                    exact List.mem_of_getElem? cw_29
          ·
            by_cases h35 : mi < 35
            ·
              by_cases h32 : mi < 32
              ·
                by_cases h31 : mi < 31
                ·
                  obtain rfl : mi = 30 := by omega
                  have hq : q = mt_30 := (Option.some.inj hm).symm
                  rw [hq]
                  exact List.mem_of_getElem? cw_30
                ·
                  obtain rfl : mi = 31 := by omega
                  have hq : q = mt_31 := (Option.some.inj hm).symm
                  rw [hq]
                  exact List.mem_of_getElem? cw_31
              ·
                by_cases h33 : mi < 33
                ·
                  obtain rfl : mi = 32 := by omega
                  have hq : q = mt_32 := (Option.some.inj hm).symm
                  rw [hq]
                  exact List.mem_of_getElem? cw_32
                ·
                  by_cases h34 : mi < 34
                  ·
                    obtain rfl : mi = 33 := by omega
                    have hq : q = mt_33 := (Option.some.inj hm).symm
                    rw [hq]
                    exact List.mem_of_getElem? cw_33
                  ·
                    obtain rfl : mi = 34 := by omega
                    have hq : q = mt_34 := (Option.some.inj hm).symm
                    rw [hq]
                    exact List.mem_of_getElem? cw_34
            ·
              by_cases h37 : mi < 37
              ·
                by_cases h36 : mi < 36
                ·
                  obtain rfl : mi = 35 := by omega
                  have hq : q = mt_35 := (Option.some.inj hm).symm
                  rw [hq]
                  exact List.mem_of_getElem? cw_35
                ·
                  obtain rfl : mi = 36 := by omega
                  have hq : q = mt_36 := (Option.some.inj hm).symm
                  rw [hq]
                  exact List.mem_of_getElem? cw_36
              ·
                by_cases h38 : mi < 38
                ·
                  obtain rfl : mi = 37 := by omega
                  have hq : q = mt_37 := (Option.some.inj hm).symm
                  rw [hq]
                  exact List.mem_of_getElem? cw_37
                ·
                  by_cases h39 : mi < 39
                  ·
                    obtain rfl : mi = 38 := by omega
                    have hq : q = mt_38 := (Option.some.inj hm).symm
                    rw [hq]
                    exact List.mem_of_getElem? cw_38
                  ·
                    obtain rfl : mi = 39 := by omega
                    have hq : q = mt_39 := (Option.some.inj hm).symm
                    rw [hq]
                    exact List.mem_of_getElem? cw_39
      ·
        by_cases h60 : mi < 60
        ·
          by_cases h50 : mi < 50
          ·
            by_cases h45 : mi < 45
            ·
              by_cases h42 : mi < 42
              ·
                by_cases h41 : mi < 41
                ·
                  obtain rfl : mi = 40 := by omega
                  have hq : q = mt_40 := (Option.some.inj hm).symm
                  rw [hq]
                  exact List.mem_of_getElem? cw_40
                ·
                  obtain rfl : mi = 41 := by omega
                  have hq : q = mt_41 := (Option.some.inj hm).symm
                  rw [hq]
                  exact List.mem_of_getElem? cw_41
              ·
                by_cases h43 : mi < 43
                ·
                  obtain rfl : mi = 42 := by omega
                  have hq : q = mt_42 := (Option.some.inj hm).symm
                  rw [hq]
                  exact List.mem_of_getElem? cw_42
                ·
                  by_cases h44 : mi < 44
                  ·
                    obtain rfl : mi = 43 := by omega
                    have hq : q = mt_43 := (Option.some.inj hm).symm
                    rw [hq]
                    exact List.mem_of_getElem? cw_43
                  ·
                    obtain rfl : mi = 44 := by omega
                    have hq : q = mt_44 := (Option.some.inj hm).symm
                    rw [hq]
                    exact List.mem_of_getElem? cw_44
            ·
              by_cases h47 : mi < 47
              ·
                by_cases h46 : mi < 46
                ·
                  obtain rfl : mi = 45 := by omega
                  have hq : q = mt_45 := (Option.some.inj hm).symm
                  rw [hq]
                  exact List.mem_of_getElem? cw_45
                ·
                  obtain rfl : mi = 46 := by omega
                  have hq : q = mt_46 := (Option.some.inj hm).symm
                  rw [hq]
                  exact List.mem_of_getElem? cw_46
              ·
                by_cases h48 : mi < 48
                ·
                  obtain rfl : mi = 47 := by omega
                  have hq : q = mt_47 := (Option.some.inj hm).symm
                  rw [hq]
                  exact List.mem_of_getElem? cw_47
                ·
                  by_cases h49 : mi < 49
                  ·
                    obtain rfl : mi = 48 := by omega
                    have hq : q = mt_48 := (Option.some.inj hm).symm
                    rw [hq]
                    exact List.mem_of_getElem? cw_48
                  ·
                    obtain rfl : mi = 49 := by omega
                    have hq : q = mt_49 := (Option.some.inj hm).symm
                    rw [hq]
                    exact List.mem_of_getElem? cw_49
          ·
            by_cases h55 : mi < 55
            ·
              by_cases h52 : mi < 52
              ·
                by_cases h51 : mi < 51
                ·
                  obtain rfl : mi = 50 := by omega
                  have hq : q = mt_50 := (Option.some.inj hm).symm
                  rw [hq]
                  exact List.mem_of_getElem? cw_50
                ·
                  obtain rfl : mi = 51 := by omega
                  have hq : q = mt_51 := (Option.some.inj hm).symm
                  rw [hq]
                  exact List.mem_of_getElem? cw_51
              ·
                by_cases h53 : mi < 53
                ·
                  obtain rfl : mi = 52 := by omega
                  have hq : q = mt_52 := (Option.some.inj hm).symm
                  rw [hq]
                  exact List.mem_of_getElem? cw_52
                ·
                  by_cases h54 : mi < 54
                  ·
                    obtain rfl : mi = 53 := by omega
                    have hq : q = mt_53 := (Option.some.inj hm).symm
                    rw [hq]
                    exact List.mem_of_getElem? cw_53
                  ·
                    obtain rfl : mi = 54 := by omega
                    have hq : q = mt_54 := (Option.some.inj hm).symm
                    rw [hq]
                    exact List.mem_of_getElem? cw_54
            ·
              by_cases h57 : mi < 57
              ·
                by_cases h56 : mi < 56
                ·
                  obtain rfl : mi = 55 := by omega
                  have hq : q = mt_55 := (Option.some.inj hm).symm
                  rw [hq]
                  exact List.mem_of_getElem? cw_55
                ·
                  obtain rfl : mi = 56 := by omega
                  have hq : q = mt_56 := (Option.some.inj hm).symm
                  rw [hq]
                  exact List.mem_of_getElem? cw_56
              ·
                by_cases h58 : mi < 58
                ·
                  obtain rfl : mi = 57 := by omega
                  have hq : q = mt_57 := (Option.some.inj hm).symm
                  rw [hq]
                  exact List.mem_of_getElem? cw_57
                ·
                  by_cases h59 : mi < 59
                  ·
                    obtain rfl : mi = 58 := by omega
                    have hq : q = mt_58 := (Option.some.inj hm).symm
                    rw [hq]
                    exact List.mem_of_getElem? cw_58
                  ·
                    obtain rfl : mi = 59 := by omega
                    have hq : q = mt_59 := (Option.some.inj hm).symm
                    rw [hq]
                    exact List.mem_of_getElem? cw_59
        ·
          by_cases h70 : mi < 70
          ·
            by_cases h65 : mi < 65
            ·
              by_cases h62 : mi < 62
              ·
                by_cases h61 : mi < 61
                ·
                  obtain rfl : mi = 60 := by omega
                  have hq : q = mt_60 := (Option.some.inj hm).symm
                  rw [hq]
                  exact List.mem_of_getElem? cw_60
                ·
                  obtain rfl : mi = 61 := by omega
                  have hq : q = mt_61 := (Option.some.inj hm).symm
                  rw [hq]
                  exact List.mem_of_getElem? cw_61
              ·
                by_cases h63 : mi < 63
                ·
                  obtain rfl : mi = 62 := by omega
                  have hq : q = mt_62 := (Option.some.inj hm).symm
                  rw [hq]
                  exact List.mem_of_getElem? cw_62
                ·
                  by_cases h64 : mi < 64
                  ·
                    obtain rfl : mi = 63 := by omega
                    have hq : q = mt_63 := (Option.some.inj hm).symm
                    rw [hq]
                    exact List.mem_of_getElem? cw_63
                  ·
                    obtain rfl : mi = 64 := by omega
                    have hq : q = mt_64 := (Option.some.inj hm).symm
                    rw [hq]
                    exact List.mem_of_getElem? cw_64
            ·
              by_cases h67 : mi < 67
              ·
                by_cases h66 : mi < 66
                ·
                  obtain rfl : mi = 65 := by omega
                  have hq : q = mt_65 := (Option.some.inj hm).symm
                  rw [hq]
                  exact List.mem_of_getElem? cw_65
                ·
                  obtain rfl : mi = 66 := by omega
                  have hq : q = mt_66 := (Option.some.inj hm).symm
                  rw [hq]
                  exact List.mem_of_getElem? cw_66
              ·
                by_cases h68 : mi < 68
                ·
                  obtain rfl : mi = 67 := by omega
                  have hq : q = mt_67 := (Option.some.inj hm).symm
                  rw [hq]
                  exact List.mem_of_getElem? cw_67
                ·
                  by_cases h69 : mi < 69
                  ·
                    obtain rfl : mi = 68 := by omega
                    have hq : q = mt_68 := (Option.some.inj hm).symm
                    rw [hq]
                    exact List.mem_of_getElem? cw_68
                  ·
                    obtain rfl : mi = 69 := by omega
                    have hq : q = mt_69 := (Option.some.inj hm).symm
                    rw [hq]
                    exact List.mem_of_getElem? cw_69
          ·
            by_cases h75 : mi < 75
            ·
              by_cases h72 : mi < 72
              ·
                by_cases h71 : mi < 71
                ·
                  obtain rfl : mi = 70 := by omega
                  have hq : q = mt_70 := (Option.some.inj hm).symm
                  rw [hq]
                  exact List.mem_of_getElem? cw_70
                ·
                  obtain rfl : mi = 71 := by omega
                  have hq : q = mt_71 := (Option.some.inj hm).symm
                  rw [hq]
                  exact List.mem_of_getElem? cw_71
              ·
                by_cases h73 : mi < 73
                ·
                  obtain rfl : mi = 72 := by omega
                  have hq : q = mt_72 := (Option.some.inj hm).symm
                  rw [hq]
                  exact List.mem_of_getElem? cw_72
                ·
                  by_cases h74 : mi < 74
                  ·
                    obtain rfl : mi = 73 := by omega
                    have hq : q = mt_73 := (Option.some.inj hm).symm
                    rw [hq]
                    exact List.mem_of_getElem? cw_73
                  ·
                    obtain rfl : mi = 74 := by omega
                    have hq : q = mt_74 := (Option.some.inj hm).symm
                    rw [hq]
                    exact List.mem_of_getElem? cw_74
            ·
              by_cases h77 : mi < 77
              ·
                by_cases h76 : mi < 76
                ·
                  obtain rfl : mi = 75 := by omega
                  have hq : q = mt_75 := (Option.some.inj hm).symm
                  rw [hq]
                  exact List.mem_of_getElem? cw_75
                ·
                  obtain rfl : mi = 76 := by omega
                  have hq : q = mt_76 := (Option.some.inj hm).symm
                  rw [hq]
                  exact List.mem_of_getElem? cw_76
              ·
                by_cases h78 : mi < 78
                ·
                  obtain rfl : mi = 77 := by omega
                  have hq : q = mt_77 := (Option.some.inj hm).symm
                  rw [hq]
                  exact List.mem_of_getElem? cw_77
                ·
                  by_cases h79 : mi < 79
                  ·
                    obtain rfl : mi = 78 := by omega
                    have hq : q = mt_78 := (Option.some.inj hm).symm
                    rw [hq]
                    exact List.mem_of_getElem? cw_78
                  ·
                    obtain rfl : mi = 79 := by omega
                    have hq : q = mt_79 := (Option.some.inj hm).symm
                    rw [hq]
                    exact List.mem_of_getElem? cw_79
    ·
      by_cases h120 : mi < 120
      ·
        by_cases h100 : mi < 100
        ·
          by_cases h90 : mi < 90
          ·
            by_cases h85 : mi < 85
            ·
              by_cases h82 : mi < 82
              ·
                by_cases h81 : mi < 81
                ·
                  obtain rfl : mi = 80 := by omega
                  have hq : q = mt_80 := (Option.some.inj hm).symm
                  rw [hq]
                  exact List.mem_of_getElem? cw_80
                ·
                  obtain rfl : mi = 81 := by omega
                  have hq : q = mt_81 := (Option.some.inj hm).symm
                  rw [hq]
                  exact List.mem_of_getElem? cw_81
              ·
                by_cases h83 : mi < 83
                ·
                  obtain rfl : mi = 82 := by omega
                  have hq : q = mt_82 := (Option.some.inj hm).symm
                  rw [hq]
                  exact List.mem_of_getElem? cw_82
                ·
                  by_cases h84 : mi < 84
                  ·
                    obtain rfl : mi = 83 := by omega
                    have hq : q = mt_83 := (Option.some.inj hm).symm
                    rw [hq]
                    exact List.mem_of_getElem? cw_83
                  ·
                    obtain rfl : mi = 84 := by omega
                    have hq : q = mt_84 := (Option.some.inj hm).symm
                    rw [hq]
                    exact List.mem_of_getElem? cw_84
            ·
              by_cases h87 : mi < 87
              ·
                by_cases h86 : mi < 86
                ·
                  obtain rfl : mi = 85 := by omega
                  have hq : q = mt_85 := (Option.some.inj hm).symm
                  rw [hq]
                  exact List.mem_of_getElem? cw_85
                ·
                  obtain rfl : mi = 86 := by omega
                  have hq : q = mt_86 := (Option.some.inj hm).symm
                  rw [hq]
                  exact List.mem_of_getElem? cw_86
              ·
                by_cases h88 : mi < 88
                ·
                  obtain rfl : mi = 87 := by omega
                  have hq : q = mt_87 := (Option.some.inj hm).symm
                  rw [hq]
                  exact List.mem_of_getElem? cw_87
                ·
                  by_cases h89 : mi < 89
                  ·
                    obtain rfl : mi = 88 := by omega
                    have hq : q = mt_88 := (Option.some.inj hm).symm
                    rw [hq]
                    exact List.mem_of_getElem? cw_88
                  ·
                    obtain rfl : mi = 89 := by omega
                    have hq : q = mt_89 := (Option.some.inj hm).symm
                    rw [hq]
                    exact List.mem_of_getElem? cw_89
          ·
            by_cases h95 : mi < 95
            ·
              by_cases h92 : mi < 92
              ·
                by_cases h91 : mi < 91
                ·
                  obtain rfl : mi = 90 := by omega
                  have hq : q = mt_90 := (Option.some.inj hm).symm
                  rw [hq]
                  exact List.mem_of_getElem? cw_90
                ·
                  obtain rfl : mi = 91 := by omega
                  have hq : q = mt_91 := (Option.some.inj hm).symm
                  rw [hq]
                  exact List.mem_of_getElem? cw_91
              ·
                by_cases h93 : mi < 93
                ·
                  obtain rfl : mi = 92 := by omega
                  have hq : q = mt_92 := (Option.some.inj hm).symm
                  rw [hq]
                  exact List.mem_of_getElem? cw_92
                ·
                  by_cases h94 : mi < 94
                  ·
                    obtain rfl : mi = 93 := by omega
                    have hq : q = mt_93 := (Option.some.inj hm).symm
                    rw [hq]
                    exact List.mem_of_getElem? cw_93
                  ·
                    obtain rfl : mi = 94 := by omega
                    have hq : q = mt_94 := (Option.some.inj hm).symm
                    rw [hq]
                    exact List.mem_of_getElem? cw_94
            ·
              by_cases h97 : mi < 97
              ·
                by_cases h96 : mi < 96
                ·
                  obtain rfl : mi = 95 := by omega
                  have hq : q = mt_95 := (Option.some.inj hm).symm
                  rw [hq]
                  exact List.mem_of_getElem? cw_95
                ·
                  obtain rfl : mi = 96 := by omega
                  have hq : q = mt_96 := (Option.some.inj hm).symm
                  rw [hq]
                  exact List.mem_of_getElem? cw_96
              ·
                by_cases h98 : mi < 98
                ·
                  obtain rfl : mi = 97 := by omega
                  have hq : q = mt_97 := (Option.some.inj hm).symm
                  rw [hq]
                  exact List.mem_of_getElem? cw_97
                ·
                  by_cases h99 : mi < 99
                  ·
                    obtain rfl : mi = 98 := by omega
                    have hq : q = mt_98 := (Option.some.inj hm).symm
                    rw [hq]
                    exact List.mem_of_getElem? cw_98
                  ·
                    obtain rfl : mi = 99 := by omega
                    have hq : q = mt_99 := (Option.some.inj hm).symm
                    rw [hq]
                    exact List.mem_of_getElem? cw_99
        ·
          by_cases h110 : mi < 110
          ·
            by_cases h105 : mi < 105
            ·
              by_cases h102 : mi < 102
              ·
                by_cases h101 : mi < 101
                ·
                  obtain rfl : mi = 100 := by omega
                  have hq : q = mt_100 := (Option.some.inj hm).symm
                  rw [hq]
                  exact List.mem_of_getElem? cw_100
                ·
                  obtain rfl : mi = 101 := by omega
                  have hq : q = mt_101 := (Option.some.inj hm).symm
                  rw [hq]
                  exact List.mem_of_getElem? cw_101
              ·
                by_cases h103 : mi < 103
                ·
                  obtain rfl : mi = 102 := by omega
                  have hq : q = mt_102 := (Option.some.inj hm).symm
                  rw [hq]
                  exact List.mem_of_getElem? cw_102
                ·
                  by_cases h104 : mi < 104
                  ·
                    obtain rfl : mi = 103 := by omega
                    have hq : q = mt_103 := (Option.some.inj hm).symm
                    rw [hq]
                    exact List.mem_of_getElem? cw_103
                  ·
                    obtain rfl : mi = 104 := by omega
                    have hq : q = mt_104 := (Option.some.inj hm).symm
                    rw [hq]
                    exact List.mem_of_getElem? cw_104
            ·
              by_cases h107 : mi < 107
              ·
                by_cases h106 : mi < 106
                ·
                  obtain rfl : mi = 105 := by omega
                  have hq : q = mt_105 := (Option.some.inj hm).symm
                  rw [hq]
                  exact List.mem_of_getElem? cw_105
                ·
                  obtain rfl : mi = 106 := by omega
                  have hq : q = mt_106 := (Option.some.inj hm).symm
                  rw [hq]
                  exact List.mem_of_getElem? cw_106
              ·
                by_cases h108 : mi < 108
                ·
                  obtain rfl : mi = 107 := by omega
                  have hq : q = mt_107 := (Option.some.inj hm).symm
                  rw [hq]
                  exact List.mem_of_getElem? cw_107
                ·
                  by_cases h109 : mi < 109
                  ·
                    obtain rfl : mi = 108 := by omega
                    have hq : q = mt_108 := (Option.some.inj hm).symm
                    rw [hq]
                    exact List.mem_of_getElem? cw_108
                  ·
                    obtain rfl : mi = 109 := by omega
                    have hq : q = mt_109 := (Option.some.inj hm).symm
                    rw [hq]
                    exact List.mem_of_getElem? cw_109
          ·
            by_cases h115 : mi < 115
            ·
              by_cases h112 : mi < 112
              ·
                by_cases h111 : mi < 111
                ·
                  obtain rfl : mi = 110 := by omega
                  have hq : q = mt_110 := (Option.some.inj hm).symm
                  rw [hq]
                  exact List.mem_of_getElem? cw_110
                ·
                  obtain rfl : mi = 111 := by omega
                  have hq : q = mt_111 := (Option.some.inj hm).symm
                  rw [hq]
                  exact List.mem_of_getElem? cw_111
              ·
                by_cases h113 : mi < 113
                ·
                  obtain rfl : mi = 112 := by omega
                  have hq : q = mt_112 := (Option.some.inj hm).symm
                  rw [hq]
                  exact List.mem_of_getElem? cw_112
                ·
                  by_cases h114 : mi < 114
                  ·
                    obtain rfl : mi = 113 := by omega
                    have hq : q = mt_113 := (Option.some.inj hm).symm
                    rw [hq]
                    exact List.mem_of_getElem? cw_113
                  ·
                    obtain rfl : mi = 114 := by omega
                    have hq : q = mt_114 := (Option.some.inj hm).symm
                    rw [hq]
                    exact List.mem_of_getElem? cw_114
            ·
              by_cases h117 : mi < 117
              ·
                by_cases h116 : mi < 116
                ·
                  obtain rfl : mi = 115 := by omega
                  have hq : q = mt_115 := (Option.some.inj hm).symm
                  rw [hq]
                  exact List.mem_of_getElem? cw_115
                ·
                  obtain rfl : mi = 116 := by omega
                  have hq : q = mt_116 := (Option.some.inj hm).symm
                  rw [hq]
                  exact List.mem_of_getElem? cw_116
              ·
                by_cases h118 : mi < 118
                ·
                  obtain rfl : mi = 117 := by omega
                  have hq : q = mt_117 := (Option.some.inj hm).symm
                  rw [hq]
                  exact List.mem_of_getElem? cw_117
                ·
                  by_cases h119 : mi < 119
                  ·
                    obtain rfl : mi = 118 := by omega
                    have hq : q = mt_118 := (Option.some.inj hm).symm
                    rw [hq]
                    exact List.mem_of_getElem? cw_118
                  ·
                    obtain rfl : mi = 119 := by omega
                    have hq : q = mt_119 := (Option.some.inj hm).symm
                    rw [hq]
                    exact List.mem_of_getElem? cw_119
      ·
        by_cases h140 : mi < 140
        ·
          by_cases h130 : mi < 130
          ·
            by_cases h125 : mi < 125
            ·
              by_cases h122 : mi < 122
              ·
                by_cases h121 : mi < 121
                ·
                  obtain rfl : mi = 120 := by omega
                  have hq : q = mt_120 := (Option.some.inj hm).symm
                  rw [hq]
                  exact List.mem_of_getElem? cw_120
                ·
                  obtain rfl : mi = 121 := by omega
                  have hq : q = mt_121 := (Option.some.inj hm).symm
                  rw [hq]
                  exact List.mem_of_getElem? cw_121
              ·
                by_cases h123 : mi < 123
                ·
                  obtain rfl : mi = 122 := by omega
                  have hq : q = mt_122 := (Option.some.inj hm).symm
                  rw [hq]
                  exact List.mem_of_getElem? cw_122
                ·
                  by_cases h124 : mi < 124
                  ·
                    obtain rfl : mi = 123 := by omega
                    have hq : q = mt_123 := (Option.some.inj hm).symm
                    rw [hq]
                    exact List.mem_of_getElem? cw_123
                  ·
                    obtain rfl : mi = 124 := by omega
                    have hq : q = mt_124 := (Option.some.inj hm).symm
                    rw [hq]
                    exact List.mem_of_getElem? cw_124
            ·
              by_cases h127 : mi < 127
              ·
                by_cases h126 : mi < 126
                ·
                  obtain rfl : mi = 125 := by omega
                  have hq : q = mt_125 := (Option.some.inj hm).symm
                  rw [hq]
                  exact List.mem_of_getElem? cw_125
                ·
                  obtain rfl : mi = 126 := by omega
                  have hq : q = mt_126 := (Option.some.inj hm).symm
                  rw [hq]
                  exact List.mem_of_getElem? cw_126
              ·
                by_cases h128 : mi < 128
                ·
                  obtain rfl : mi = 127 := by omega
                  have hq : q = mt_127 := (Option.some.inj hm).symm
                  rw [hq]
                  exact List.mem_of_getElem? cw_127
                ·
                  by_cases h129 : mi < 129
                  ·
                    obtain rfl : mi = 128 := by omega
                    have hq : q = mt_128 := (Option.some.inj hm).symm
                    rw [hq]
                    exact List.mem_of_getElem? cw_128
                  ·
                    obtain rfl : mi = 129 := by omega
                    have hq : q = mt_129 := (Option.some.inj hm).symm
                    rw [hq]
                    exact List.mem_of_getElem? cw_129
          ·
            by_cases h135 : mi < 135
            ·
              by_cases h132 : mi < 132
              ·
                by_cases h131 : mi < 131
                ·
                  obtain rfl : mi = 130 := by omega
                  have hq : q = mt_130 := (Option.some.inj hm).symm
                  rw [hq]
                  exact List.mem_of_getElem? cw_130
                ·
                  obtain rfl : mi = 131 := by omega
                  have hq : q = mt_131 := (Option.some.inj hm).symm
                  rw [hq]
                  exact List.mem_of_getElem? cw_131
              ·
                by_cases h133 : mi < 133
                ·
                  obtain rfl : mi = 132 := by omega
                  have hq : q = mt_132 := (Option.some.inj hm).symm
                  rw [hq]
                  exact List.mem_of_getElem? cw_132
                ·
                  by_cases h134 : mi < 134
                  ·
                    obtain rfl : mi = 133 := by omega
                    have hq : q = mt_133 := (Option.some.inj hm).symm
                    rw [hq]
                    exact List.mem_of_getElem? cw_133
                  ·
                    obtain rfl : mi = 134 := by omega
                    have hq : q = mt_134 := (Option.some.inj hm).symm
                    rw [hq]
                    exact List.mem_of_getElem? cw_134
            ·
              by_cases h137 : mi < 137
              ·
                by_cases h136 : mi < 136
                ·
                  obtain rfl : mi = 135 := by omega
                  have hq : q = mt_135 := (Option.some.inj hm).symm
                  rw [hq]
                  exact List.mem_of_getElem? cw_135
                ·
                  obtain rfl : mi = 136 := by omega
                  have hq : q = mt_136 := (Option.some.inj hm).symm
                  rw [hq]
                  exact List.mem_of_getElem? cw_136
              ·
                by_cases h138 : mi < 138
                ·
                  obtain rfl : mi = 137 := by omega
                  have hq : q = mt_137 := (Option.some.inj hm).symm
                  rw [hq]
                  exact List.mem_of_getElem? cw_137
                ·
                  by_cases h139 : mi < 139
                  ·
                    obtain rfl : mi = 138 := by omega
                    have hq : q = mt_138 := (Option.some.inj hm).symm
                    rw [hq]
                    exact List.mem_of_getElem? cw_138
                  ·
                    obtain rfl : mi = 139 := by omega
                    have hq : q = mt_139 := (Option.some.inj hm).symm
                    rw [hq]
                    exact List.mem_of_getElem? cw_139
        ·
          by_cases h150 : mi < 150
          ·
            by_cases h145 : mi < 145
            ·
              by_cases h142 : mi < 142
              ·
                by_cases h141 : mi < 141
                ·
                  obtain rfl : mi = 140 := by omega
                  have hq : q = mt_140 := (Option.some.inj hm).symm
                  rw [hq]
                  exact List.mem_of_getElem? cw_140
                ·
                  obtain rfl : mi = 141 := by omega
                  have hq : q = mt_141 := (Option.some.inj hm).symm
                  rw [hq]
                  exact List.mem_of_getElem? cw_141
              ·
                by_cases h143 : mi < 143
                ·
                  obtain rfl : mi = 142 := by omega
                  have hq : q = mt_142 := (Option.some.inj hm).symm
                  rw [hq]
                  exact List.mem_of_getElem? cw_142
                ·
                  by_cases h144 : mi < 144
                  ·
                    obtain rfl : mi = 143 := by omega
                    have hq : q = mt_143 := (Option.some.inj hm).symm
                    rw [hq]
                    exact List.mem_of_getElem? cw_143
                  ·
                    obtain rfl : mi = 144 := by omega
                    have hq : q = mt_144 := (Option.some.inj hm).symm
                    rw [hq]
                    exact List.mem_of_getElem? cw_144
            ·
              by_cases h147 : mi < 147
              ·
                by_cases h146 : mi < 146
                ·
                  obtain rfl : mi = 145 := by omega
                  have hq : q = mt_145 := (Option.some.inj hm).symm
                  rw [hq]
                  exact List.mem_of_getElem? cw_145
                ·
                  obtain rfl : mi = 146 := by omega
                  have hq : q = mt_146 := (Option.some.inj hm).symm
                  rw [hq]
                  exact List.mem_of_getElem? cw_146
              ·
                by_cases h148 : mi < 148
                ·
                  obtain rfl : mi = 147 := by omega
                  have hq : q = mt_147 := (Option.some.inj hm).symm
                  rw [hq]
                  exact List.mem_of_getElem? cw_147
                ·
                  by_cases h149 : mi < 149
                  ·
                    obtain rfl : mi = 148 := by omega
                    have hq : q = mt_148 := (Option.some.inj hm).symm
                    rw [hq]
                    exact List.mem_of_getElem? cw_148
                  ·
                    obtain rfl : mi = 149 := by omega
                    have hq : q = mt_149 := (Option.some.inj hm).symm
                    rw [hq]
                    exact List.mem_of_getElem? cw_149
          ·
            by_cases h155 : mi < 155
            ·
              by_cases h152 : mi < 152
              ·
                by_cases h151 : mi < 151
                ·
                  obtain rfl : mi = 150 := by omega
                  have hq : q = mt_150 := (Option.some.inj hm).symm
                  rw [hq]
                  exact List.mem_of_getElem? cw_150
                ·
                  obtain rfl : mi = 151 := by omega
                  have hq : q = mt_151 := (Option.some.inj hm).symm
                  rw [hq]
                  exact List.mem_of_getElem? cw_151
              ·
                by_cases h153 : mi < 153
                ·
                  obtain rfl : mi = 152 := by omega
                  have hq : q = mt_152 := (Option.some.inj hm).symm
                  rw [hq]
                  exact List.mem_of_getElem? cw_152
                ·
                  by_cases h154 : mi < 154
                  ·
                    obtain rfl : mi = 153 := by omega
                    have hq : q = mt_153 := (Option.some.inj hm).symm
                    rw [hq]
                    exact List.mem_of_getElem? cw_153
                  ·
                    obtain rfl : mi = 154 := by omega
                    have hq : q = mt_154 := (Option.some.inj hm).symm
                    rw [hq]
                    exact List.mem_of_getElem? cw_154
            ·
              by_cases h157 : mi < 157
              ·
                by_cases h156 : mi < 156
                ·
                  obtain rfl : mi = 155 := by omega
                  have hq : q = mt_155 := (Option.some.inj hm).symm
                  rw [hq]
                  exact List.mem_of_getElem? cw_155
                ·
                  obtain rfl : mi = 156 := by omega
                  have hq : q = mt_156 := (Option.some.inj hm).symm
                  rw [hq]
                  exact List.mem_of_getElem? cw_156
              ·
                by_cases h158 : mi < 158
                ·
                  obtain rfl : mi = 157 := by omega
                  have hq : q = mt_157 := (Option.some.inj hm).symm
                  rw [hq]
                  exact List.mem_of_getElem? cw_157
                ·
                  by_cases h159 : mi < 159
                  ·
                    obtain rfl : mi = 158 := by omega
                    have hq : q = mt_158 := (Option.some.inj hm).symm
                    rw [hq]
                    exact List.mem_of_getElem? cw_158
                  ·
                    obtain rfl : mi = 159 := by omega
                    have hq : q = mt_159 := (Option.some.inj hm).symm
                    rw [hq]
                    exact List.mem_of_getElem? cw_159
  ·
    by_cases h240 : mi < 240
    ·
      by_cases h200 : mi < 200
      ·
        by_cases h180 : mi < 180
        ·
          by_cases h170 : mi < 170
          ·
            by_cases h165 : mi < 165
            ·
              by_cases h162 : mi < 162
              ·
                by_cases h161 : mi < 161
                ·
                  obtain rfl : mi = 160 := by omega
                  have hq : q = mt_160 := (Option.some.inj hm).symm
                  rw [hq]
                  exact List.mem_of_getElem? cw_160
                ·
                  obtain rfl : mi = 161 := by omega
                  have hq : q = mt_161 := (Option.some.inj hm).symm
                  rw [hq]
                  exact List.mem_of_getElem? cw_161
              ·
                by_cases h163 : mi < 163
                ·
                  obtain rfl : mi = 162 := by omega
                  have hq : q = mt_162 := (Option.some.inj hm).symm
                  rw [hq]
                  exact List.mem_of_getElem? cw_162
                ·
                  by_cases h164 : mi < 164
                  ·
                    obtain rfl : mi = 163 := by omega
                    have hq : q = mt_163 := (Option.some.inj hm).symm
                    rw [hq]
                    exact List.mem_of_getElem? cw_163
                  ·
                    obtain rfl : mi = 164 := by omega
                    have hq : q = mt_164 := (Option.some.inj hm).symm
                    rw [hq]
                    exact List.mem_of_getElem? cw_164
            ·
              by_cases h167 : mi < 167
              ·
                by_cases h166 : mi < 166
                ·
                  obtain rfl : mi = 165 := by omega
                  have hq : q = mt_165 := (Option.some.inj hm).symm
                  rw [hq]
                  exact List.mem_of_getElem? cw_165
                ·
                  obtain rfl : mi = 166 := by omega
                  have hq : q = mt_166 := (Option.some.inj hm).symm
                  rw [hq]
                  exact List.mem_of_getElem? cw_166
              ·
                by_cases h168 : mi < 168
                ·
                  obtain rfl : mi = 167 := by omega
                  have hq : q = mt_167 := (Option.some.inj hm).symm
                  rw [hq]
                  exact List.mem_of_getElem? cw_167
                ·
                  by_cases h169 : mi < 169
                  ·
                    obtain rfl : mi = 168 := by omega
                    have hq : q = mt_168 := (Option.some.inj hm).symm
                    rw [hq]
                    exact List.mem_of_getElem? cw_168
                  ·
                    obtain rfl : mi = 169 := by omega
                    have hq : q = mt_169 := (Option.some.inj hm).symm
                    rw [hq]
                    exact List.mem_of_getElem? cw_169
          ·
            by_cases h175 : mi < 175
            ·
              by_cases h172 : mi < 172
              ·
                by_cases h171 : mi < 171
                ·
                  obtain rfl : mi = 170 := by omega
                  have hq : q = mt_170 := (Option.some.inj hm).symm
                  rw [hq]
                  exact List.mem_of_getElem? cw_170
                ·
                  obtain rfl : mi = 171 := by omega
                  have hq : q = mt_171 := (Option.some.inj hm).symm
                  rw [hq]
                  exact List.mem_of_getElem? cw_171
              ·
                by_cases h173 : mi < 173
                ·
                  obtain rfl : mi = 172 := by omega
                  have hq : q = mt_172 := (Option.some.inj hm).symm
                  rw [hq]
                  exact List.mem_of_getElem? cw_172
                ·
                  by_cases h174 : mi < 174
                  ·
                    obtain rfl : mi = 173 := by omega
                    have hq : q = mt_173 := (Option.some.inj hm).symm
                    rw [hq]
                    exact List.mem_of_getElem? cw_173
                  ·
                    obtain rfl : mi = 174 := by omega
                    have hq : q = mt_174 := (Option.some.inj hm).symm
                    rw [hq]
                    exact List.mem_of_getElem? cw_174
            ·
              by_cases h177 : mi < 177
              ·
                by_cases h176 : mi < 176
                ·
                  obtain rfl : mi = 175 := by omega
                  have hq : q = mt_175 := (Option.some.inj hm).symm
                  rw [hq]
                  exact List.mem_of_getElem? cw_175
                ·
                  obtain rfl : mi = 176 := by omega
                  have hq : q = mt_176 := (Option.some.inj hm).symm
                  rw [hq]
                  exact List.mem_of_getElem? cw_176
              ·
                by_cases h178 : mi < 178
                ·
                  obtain rfl : mi = 177 := by omega
                  have hq : q = mt_177 := (Option.some.inj hm).symm
                  rw [hq]
                  exact List.mem_of_getElem? cw_177
                ·
                  by_cases h179 : mi < 179
                  ·
                    obtain rfl : mi = 178 := by omega
                    have hq : q = mt_178 := (Option.some.inj hm).symm
                    rw [hq]
                    exact List.mem_of_getElem? cw_178
                  ·
                    obtain rfl : mi = 179 := by omega
                    have hq : q = mt_179 := (Option.some.inj hm).symm
                    rw [hq]
                    exact List.mem_of_getElem? cw_179
        ·
          by_cases h190 : mi < 190
          ·
            by_cases h185 : mi < 185
            ·
              by_cases h182 : mi < 182
              ·
                by_cases h181 : mi < 181
                ·
                  obtain rfl : mi = 180 := by omega
                  have hq : q = mt_180 := (Option.some.inj hm).symm
                  rw [hq]
                  exact List.mem_of_getElem? cw_180
                ·
                  obtain rfl : mi = 181 := by omega
                  have hq : q = mt_181 := (Option.some.inj hm).symm
                  rw [hq]
                  exact List.mem_of_getElem? cw_181
              ·
                by_cases h183 : mi < 183
                ·
                  obtain rfl : mi = 182 := by omega
                  have hq : q = mt_182 := (Option.some.inj hm).symm
                  rw [hq]
                  exact List.mem_of_getElem? cw_182
                ·
                  by_cases h184 : mi < 184
                  ·
                    obtain rfl : mi = 183 := by omega
                    have hq : q = mt_183 := (Option.some.inj hm).symm
                    rw [hq]
                    exact List.mem_of_getElem? cw_183
                  ·
                    obtain rfl : mi = 184 := by omega
                    have hq : q = mt_184 := (Option.some.inj hm).symm
                    rw [hq]
                    exact List.mem_of_getElem? cw_184
            ·
              by_cases h187 : mi < 187
              ·
                by_cases h186 : mi < 186
                ·
                  obtain rfl : mi = 185 := by omega
                  have hq : q = mt_185 := (Option.some.inj hm).symm
                  rw [hq]
                  exact List.mem_of_getElem? cw_185
                ·
                  obtain rfl : mi = 186 := by omega
                  have hq : q = mt_186 := (Option.some.inj hm).symm
                  rw [hq]
                  exact List.mem_of_getElem? cw_186
              ·
                by_cases h188 : mi < 188
                ·
                  obtain rfl : mi = 187 := by omega
                  have hq : q = mt_187 := (Option.some.inj hm).symm
                  rw [hq]
                  exact List.mem_of_getElem? cw_187
                ·
                  by_cases h189 : mi < 189
                  ·
                    obtain rfl : mi = 188 := by omega
                    have hq : q = mt_188 := (Option.some.inj hm).symm
                    rw [hq]
                    exact List.mem_of_getElem? cw_188
                  ·
                    obtain rfl : mi = 189 := by omega
                    have hq : q = mt_189 := (Option.some.inj hm).symm
                    rw [hq]
                    exact List.mem_of_getElem? cw_189
          ·
            by_cases h195 : mi < 195
            ·
              by_cases h192 : mi < 192
              ·
                by_cases h191 : mi < 191
                ·
                  obtain rfl : mi = 190 := by omega
                  have hq : q = mt_190 := (Option.some.inj hm).symm
                  rw [hq]
                  exact List.mem_of_getElem? cw_190
                ·
                  obtain rfl : mi = 191 := by omega
                  have hq : q = mt_191 := (Option.some.inj hm).symm
                  rw [hq]
                  exact List.mem_of_getElem? cw_191
              ·
                by_cases h193 : mi < 193
                ·
                  obtain rfl : mi = 192 := by omega
                  have hq : q = mt_192 := (Option.some.inj hm).symm
                  rw [hq]
                  exact List.mem_of_getElem? cw_192
                ·
                  by_cases h194 : mi < 194
                  ·
                    obtain rfl : mi = 193 := by omega
                    have hq : q = mt_193 := (Option.some.inj hm).symm
                    rw [hq]
                    exact List.mem_of_getElem? cw_193
                  ·
                    obtain rfl : mi = 194 := by omega
                    have hq : q = mt_194 := (Option.some.inj hm).symm
                    rw [hq]
                    exact List.mem_of_getElem? cw_194
            ·
              by_cases h197 : mi < 197
              ·
                by_cases h196 : mi < 196
                ·
                  obtain rfl : mi = 195 := by omega
                  have hq : q = mt_195 := (Option.some.inj hm).symm
                  rw [hq]
                  exact List.mem_of_getElem? cw_195
                ·
                  obtain rfl : mi = 196 := by omega
                  have hq : q = mt_196 := (Option.some.inj hm).symm
                  rw [hq]
                  exact List.mem_of_getElem? cw_196
              ·
                by_cases h198 : mi < 198
                ·
                  obtain rfl : mi = 197 := by omega
                  have hq : q = mt_197 := (Option.some.inj hm).symm
                  rw [hq]
                  exact List.mem_of_getElem? cw_197
                ·
                  by_cases h199 : mi < 199
                  ·
                    obtain rfl : mi = 198 := by omega
                    have hq : q = mt_198 := (Option.some.inj hm).symm
                    rw [hq]
                    exact List.mem_of_getElem? cw_198
                  ·
                    obtain rfl : mi = 199 := by omega
                    have hq : q = mt_199 := (Option.some.inj hm).symm
                    rw [hq]
                    exact List.mem_of_getElem? cw_199
      ·
        by_cases h220 : mi < 220
        ·
          by_cases h210 : mi < 210
          ·
            by_cases h205 : mi < 205
            ·
              by_cases h202 : mi < 202
              ·
                by_cases h201 : mi < 201
                ·
                  obtain rfl : mi = 200 := by omega
                  have hq : q = mt_200 := (Option.some.inj hm).symm
                  rw [hq]
                  exact List.mem_of_getElem? cw_200
                ·
                  obtain rfl : mi = 201 := by omega
                  have hq : q = mt_201 := (Option.some.inj hm).symm
                  rw [hq]
                  exact List.mem_of_getElem? cw_201
              ·
                by_cases h203 : mi < 203
                ·
                  obtain rfl : mi = 202 := by omega
                  have hq : q = mt_202 := (Option.some.inj hm).symm
                  rw [hq]
                  exact List.mem_of_getElem? cw_202
                ·
                  by_cases h204 : mi < 204
                  ·
                    obtain rfl : mi = 203 := by omega
                    have hq : q = mt_203 := (Option.some.inj hm).symm
                    rw [hq]
                    exact List.mem_of_getElem? cw_203
                  ·
                    obtain rfl : mi = 204 := by omega
                    have hq : q = mt_204 := (Option.some.inj hm).symm
                    rw [hq]
                    exact List.mem_of_getElem? cw_204
            ·
              by_cases h207 : mi < 207
              ·
                by_cases h206 : mi < 206
                ·
                  obtain rfl : mi = 205 := by omega
                  have hq : q = mt_205 := (Option.some.inj hm).symm
                  rw [hq]
                  exact List.mem_of_getElem? cw_205
                ·
                  obtain rfl : mi = 206 := by omega
                  have hq : q = mt_206 := (Option.some.inj hm).symm
                  rw [hq]
                  exact List.mem_of_getElem? cw_206
              ·
                by_cases h208 : mi < 208
                ·
                  obtain rfl : mi = 207 := by omega
                  have hq : q = mt_207 := (Option.some.inj hm).symm
                  rw [hq]
                  exact List.mem_of_getElem? cw_207
                ·
                  by_cases h209 : mi < 209
                  ·
                    obtain rfl : mi = 208 := by omega
                    have hq : q = mt_208 := (Option.some.inj hm).symm
                    rw [hq]
                    exact List.mem_of_getElem? cw_208
                  ·
                    obtain rfl : mi = 209 := by omega
                    have hq : q = mt_209 := (Option.some.inj hm).symm
                    rw [hq]
                    exact List.mem_of_getElem? cw_209
          ·
            by_cases h215 : mi < 215
            ·
              by_cases h212 : mi < 212
              ·
                by_cases h211 : mi < 211
                ·
                  obtain rfl : mi = 210 := by omega
                  have hq : q = mt_210 := (Option.some.inj hm).symm
                  rw [hq]
                  exact List.mem_of_getElem? cw_210
                ·
                  obtain rfl : mi = 211 := by omega
                  have hq : q = mt_211 := (Option.some.inj hm).symm
                  rw [hq]
                  exact List.mem_of_getElem? cw_211
              ·
                by_cases h213 : mi < 213
                ·
                  obtain rfl : mi = 212 := by omega
                  have hq : q = mt_212 := (Option.some.inj hm).symm
                  rw [hq]
                  exact List.mem_of_getElem? cw_212
                ·
                  by_cases h214 : mi < 214
                  ·
                    obtain rfl : mi = 213 := by omega
                    have hq : q = mt_213 := (Option.some.inj hm).symm
                    rw [hq]
                    exact List.mem_of_getElem? cw_213
                  ·
                    obtain rfl : mi = 214 := by omega
                    have hq : q = mt_214 := (Option.some.inj hm).symm
                    rw [hq]
                    exact List.mem_of_getElem? cw_214
            ·
              by_cases h217 : mi < 217
              ·
                by_cases h216 : mi < 216
                ·
                  obtain rfl : mi = 215 := by omega
                  have hq : q = mt_215 := (Option.some.inj hm).symm
                  rw [hq]
                  exact List.mem_of_getElem? cw_215
                ·
                  obtain rfl : mi = 216 := by omega
                  have hq : q = mt_216 := (Option.some.inj hm).symm
                  rw [hq]
                  exact List.mem_of_getElem? cw_216
              ·
                by_cases h218 : mi < 218
                ·
                  obtain rfl : mi = 217 := by omega
                  have hq : q = mt_217 := (Option.some.inj hm).symm
                  rw [hq]
                  exact List.mem_of_getElem? cw_217
                ·
                  by_cases h219 : mi < 219
                  ·
                    obtain rfl : mi = 218 := by omega
                    have hq : q = mt_218 := (Option.some.inj hm).symm
                    rw [hq]
                    exact List.mem_of_getElem? cw_218
                  ·
                    obtain rfl : mi = 219 := by omega
                    have hq : q = mt_219 := (Option.some.inj hm).symm
                    rw [hq]
                    exact List.mem_of_getElem? cw_219
        ·
          by_cases h230 : mi < 230
          ·
            by_cases h225 : mi < 225
            ·
              by_cases h222 : mi < 222
              ·
                by_cases h221 : mi < 221
                ·
                  obtain rfl : mi = 220 := by omega
                  have hq : q = mt_220 := (Option.some.inj hm).symm
                  rw [hq]
                  exact List.mem_of_getElem? cw_220
                ·
                  obtain rfl : mi = 221 := by omega
                  have hq : q = mt_221 := (Option.some.inj hm).symm
                  rw [hq]
                  exact List.mem_of_getElem? cw_221
              ·
                by_cases h223 : mi < 223
                ·
                  obtain rfl : mi = 222 := by omega
                  have hq : q = mt_222 := (Option.some.inj hm).symm
                  rw [hq]
                  exact List.mem_of_getElem? cw_222
                ·
                  by_cases h224 : mi < 224
                  ·
                    obtain rfl : mi = 223 := by omega
                    have hq : q = mt_223 := (Option.some.inj hm).symm
                    rw [hq]
                    exact List.mem_of_getElem? cw_223
                  ·
                    obtain rfl : mi = 224 := by omega
                    have hq : q = mt_224 := (Option.some.inj hm).symm
                    rw [hq]
                    exact List.mem_of_getElem? cw_224
            ·
              by_cases h227 : mi < 227
              ·
                by_cases h226 : mi < 226
                ·
                  obtain rfl : mi = 225 := by omega
                  have hq : q = mt_225 := (Option.some.inj hm).symm
                  rw [hq]
                  exact List.mem_of_getElem? cw_225
                ·
                  obtain rfl : mi = 226 := by omega
                  have hq : q = mt_226 := (Option.some.inj hm).symm
                  rw [hq]
                  exact List.mem_of_getElem? cw_226
              ·
                by_cases h228 : mi < 228
                ·
                  obtain rfl : mi = 227 := by omega
                  have hq : q = mt_227 := (Option.some.inj hm).symm
                  rw [hq]
                  exact List.mem_of_getElem? cw_227
                ·
                  by_cases h229 : mi < 229
                  ·
                    obtain rfl : mi = 228 := by omega
                    have hq : q = mt_228 := (Option.some.inj hm).symm
                    rw [hq]
                    exact List.mem_of_getElem? cw_228
                  ·
                    obtain rfl : mi = 229 := by omega
                    have hq : q = mt_229 := (Option.some.inj hm).symm
                    rw [hq]
                    exact List.mem_of_getElem? cw_229
          ·
            by_cases h235 : mi < 235
            ·
              by_cases h232 : mi < 232
              ·
                by_cases h231 : mi < 231
                ·
                  obtain rfl : mi = 230 := by omega
                  have hq : q = mt_230 := (Option.some.inj hm).symm
                  rw [hq]
                  exact List.mem_of_getElem? cw_230
                ·
                  obtain rfl : mi = 231 := by omega
                  have hq : q = mt_231 := (Option.some.inj hm).symm
                  rw [hq]
                  exact List.mem_of_getElem? cw_231
              ·
                by_cases h233 : mi < 233
                ·
                  obtain rfl : mi = 232 := by omega
                  have hq : q = mt_232 := (Option.some.inj hm).symm
                  rw [hq]
                  exact List.mem_of_getElem? cw_232
                ·
                  by_cases h234 : mi < 234
                  ·
                    obtain rfl : mi = 233 := by omega
                    have hq : q = mt_233 := (Option.some.inj hm).symm
                    rw [hq]
                    exact List.mem_of_getElem? cw_233
                  ·
                    obtain rfl : mi = 234 := by omega
                    have hq : q = mt_234 := (Option.some.inj hm).symm
                    rw [hq]
                    exact List.mem_of_getElem? cw_234
            ·
              by_cases h237 : mi < 237
              ·
                by_cases h236 : mi < 236
                ·
                  obtain rfl : mi = 235 := by omega
                  have hq : q = mt_235 := (Option.some.inj hm).symm
                  rw [hq]
                  exact List.mem_of_getElem? cw_235
                ·
                  obtain rfl : mi = 236 := by omega
                  have hq : q = mt_236 := (Option.some.inj hm).symm
                  rw [hq]
                  exact List.mem_of_getElem? cw_236
              ·
                by_cases h238 : mi < 238
                ·
                  obtain rfl : mi = 237 := by omega
                  have hq : q = mt_237 := (Option.some.inj hm).symm
                  rw [hq]
                  exact List.mem_of_getElem? cw_237
                ·
                  by_cases h239 : mi < 239
                  ·
                    obtain rfl : mi = 238 := by omega
                    have hq : q = mt_238 := (Option.some.inj hm).symm
                    rw [hq]
                    exact List.mem_of_getElem? cw_238
                  ·
                    obtain rfl : mi = 239 := by omega
                    have hq : q = mt_239 := (Option.some.inj hm).symm
                    rw [hq]
                    exact List.mem_of_getElem? cw_239
    ·
      by_cases h280 : mi < 280
      ·
        by_cases h260 : mi < 260
        ·
          by_cases h250 : mi < 250
          ·
            by_cases h245 : mi < 245
            ·
              by_cases h242 : mi < 242
              ·
                by_cases h241 : mi < 241
                ·
                  obtain rfl : mi = 240 := by omega
                  have hq : q = mt_240 := (Option.some.inj hm).symm
                  rw [hq]
                  exact List.mem_of_getElem? cw_240
                ·
                  obtain rfl : mi = 241 := by omega
                  have hq : q = mt_241 := (Option.some.inj hm).symm
                  rw [hq]
                  exact List.mem_of_getElem? cw_241
              ·
                by_cases h243 : mi < 243
                ·
                  obtain rfl : mi = 242 := by omega
                  have hq : q = mt_242 := (Option.some.inj hm).symm
                  rw [hq]
                  exact List.mem_of_getElem? cw_242
                ·
                  by_cases h244 : mi < 244
                  ·
                    obtain rfl : mi = 243 := by omega
                    have hq : q = mt_243 := (Option.some.inj hm).symm
                    rw [hq]
                    exact List.mem_of_getElem? cw_243
                  ·
                    obtain rfl : mi = 244 := by omega
                    have hq : q = mt_244 := (Option.some.inj hm).symm
                    rw [hq]
                    exact List.mem_of_getElem? cw_244
            ·
              by_cases h247 : mi < 247
              ·
                by_cases h246 : mi < 246
                ·
                  obtain rfl : mi = 245 := by omega
                  have hq : q = mt_245 := (Option.some.inj hm).symm
                  rw [hq]
                  exact List.mem_of_getElem? cw_245
                ·
                  obtain rfl : mi = 246 := by omega
                  have hq : q = mt_246 := (Option.some.inj hm).symm
                  rw [hq]
                  exact List.mem_of_getElem? cw_246
              ·
                by_cases h248 : mi < 248
                ·
                  obtain rfl : mi = 247 := by omega
                  have hq : q = mt_247 := (Option.some.inj hm).symm
                  rw [hq]
                  exact List.mem_of_getElem? cw_247
                ·
                  by_cases h249 : mi < 249
                  ·
                    obtain rfl : mi = 248 := by omega
                    have hq : q = mt_248 := (Option.some.inj hm).symm
                    rw [hq]
                    exact List.mem_of_getElem? cw_248
                  ·
                    obtain rfl : mi = 249 := by omega
                    have hq : q = mt_249 := (Option.some.inj hm).symm
                    rw [hq]
                    exact List.mem_of_getElem? cw_249
          ·
            by_cases h255 : mi < 255
            ·
              by_cases h252 : mi < 252
              ·
                by_cases h251 : mi < 251
                ·
                  obtain rfl : mi = 250 := by omega
                  have hq : q = mt_250 := (Option.some.inj hm).symm
                  rw [hq]
                  exact List.mem_of_getElem? cw_250
                ·
                  obtain rfl : mi = 251 := by omega
                  have hq : q = mt_251 := (Option.some.inj hm).symm
                  rw [hq]
                  exact List.mem_of_getElem? cw_251
              ·
                by_cases h253 : mi < 253
                ·
                  obtain rfl : mi = 252 := by omega
                  have hq : q = mt_252 := (Option.some.inj hm).symm
                  rw [hq]
                  exact List.mem_of_getElem? cw_252
                ·
                  by_cases h254 : mi < 254
                  ·
                    obtain rfl : mi = 253 := by omega
                    have hq : q = mt_253 := (Option.some.inj hm).symm
                    rw [hq]
                    exact List.mem_of_getElem? cw_253
                  ·
                    obtain rfl : mi = 254 := by omega
                    have hq : q = mt_254 := (Option.some.inj hm).symm
                    rw [hq]
                    exact List.mem_of_getElem? cw_254
            ·
              by_cases h257 : mi < 257
              ·
                by_cases h256 : mi < 256
                ·
                  obtain rfl : mi = 255 := by omega
                  have hq : q = mt_255 := (Option.some.inj hm).symm
                  rw [hq]
                  exact List.mem_of_getElem? cw_255
                ·
                  obtain rfl : mi = 256 := by omega
                  have hq : q = mt_256 := (Option.some.inj hm).symm
                  rw [hq]
                  exact List.mem_of_getElem? cw_256
              ·
                by_cases h258 : mi < 258
                ·
                  obtain rfl : mi = 257 := by omega
                  have hq : q = mt_257 := (Option.some.inj hm).symm
                  rw [hq]
                  exact List.mem_of_getElem? cw_257
                ·
                  by_cases h259 : mi < 259
                  ·
                    obtain rfl : mi = 258 := by omega
                    have hq : q = mt_258 := (Option.some.inj hm).symm
                    rw [hq]
                    exact List.mem_of_getElem? cw_258
                  ·
                    obtain rfl : mi = 259 := by omega
                    have hq : q = mt_259 := (Option.some.inj hm).symm
                    rw [hq]
                    exact List.mem_of_getElem? cw_259
        ·
          by_cases h270 : mi < 270
          ·
            by_cases h265 : mi < 265
            ·
              by_cases h262 : mi < 262
              ·
                by_cases h261 : mi < 261
                ·
                  obtain rfl : mi = 260 := by omega
                  have hq : q = mt_260 := (Option.some.inj hm).symm
                  rw [hq]
                  exact List.mem_of_getElem? cw_260
                ·
                  obtain rfl : mi = 261 := by omega
                  have hq : q = mt_261 := (Option.some.inj hm).symm
                  rw [hq]
                  exact List.mem_of_getElem? cw_261
              ·
                by_cases h263 : mi < 263
                ·
                  obtain rfl : mi = 262 := by omega
                  have hq : q = mt_262 := (Option.some.inj hm).symm
                  rw [hq]
                  exact List.mem_of_getElem? cw_262
                ·
                  by_cases h264 : mi < 264
                  ·
                    obtain rfl : mi = 263 := by omega
                    have hq : q = mt_263 := (Option.some.inj hm).symm
                    rw [hq]
                    exact List.mem_of_getElem? cw_263
                  ·
                    obtain rfl : mi = 264 := by omega
                    have hq : q = mt_264 := (Option.some.inj hm).symm
                    rw [hq]
                    exact List.mem_of_getElem? cw_264
            ·
              by_cases h267 : mi < 267
              ·
                by_cases h266 : mi < 266
                ·
                  obtain rfl : mi = 265 := by omega
                  have hq : q = mt_265 := (Option.some.inj hm).symm
                  rw [hq]
                  exact List.mem_of_getElem? cw_265
                ·
                  obtain rfl : mi = 266 := by omega
                  have hq : q = mt_266 := (Option.some.inj hm).symm
                  rw [hq]
                  exact List.mem_of_getElem? cw_266
              ·
                by_cases h268 : mi < 268
                ·
                  obtain rfl : mi = 267 := by omega
                  have hq : q = mt_267 := (Option.some.inj hm).symm
                  rw [hq]
                  exact List.mem_of_getElem? cw_267
                ·
                  by_cases h269 : mi < 269
                  ·
                    obtain rfl : mi = 268 := by omega
                    have hq : q = mt_268 := (Option.some.inj hm).symm
                    rw [hq]
                    exact List.mem_of_getElem? cw_268
                  ·
                    obtain rfl : mi = 269 := by omega
                    have hq : q = mt_269 := (Option.some.inj hm).symm
                    rw [hq]
                    exact List.mem_of_getElem? cw_269
          ·
            by_cases h275 : mi < 275
            ·
              by_cases h272 : mi < 272
              ·
                by_cases h271 : mi < 271
                ·
                  obtain rfl : mi = 270 := by omega
                  have hq : q = mt_270 := (Option.some.inj hm).symm
                  rw [hq]
                  exact List.mem_of_getElem? cw_270
                ·
                  obtain rfl : mi = 271 := by omega
                  have hq : q = mt_271 := (Option.some.inj hm).symm
                  rw [hq]
                  exact List.mem_of_getElem? cw_271
              ·
                by_cases h273 : mi < 273
                ·
                  obtain rfl : mi = 272 := by omega
                  have hq : q = mt_272 := (Option.some.inj hm).symm
                  rw [hq]
                  exact List.mem_of_getElem? cw_272
                ·
                  by_cases h274 : mi < 274
                  ·
                    obtain rfl : mi = 273 := by omega
                    have hq : q = mt_273 := (Option.some.inj hm).symm
                    rw [hq]
                    exact List.mem_of_getElem? cw_273
                  ·
                    obtain rfl : mi = 274 := by omega
                    have hq : q = mt_274 := (Option.some.inj hm).symm
                    rw [hq]
                    exact List.mem_of_getElem? cw_274
            ·
              by_cases h277 : mi < 277
              ·
                by_cases h276 : mi < 276
                ·
                  obtain rfl : mi = 275 := by omega
                  have hq : q = mt_275 := (Option.some.inj hm).symm
                  rw [hq]
                  exact List.mem_of_getElem? cw_275
                ·
                  obtain rfl : mi = 276 := by omega
                  have hq : q = mt_276 := (Option.some.inj hm).symm
                  rw [hq]
                  exact List.mem_of_getElem? cw_276
              ·
                by_cases h278 : mi < 278
                ·
                  obtain rfl : mi = 277 := by omega
                  have hq : q = mt_277 := (Option.some.inj hm).symm
                  rw [hq]
                  exact List.mem_of_getElem? cw_277
                ·
                  by_cases h279 : mi < 279
                  ·
                    obtain rfl : mi = 278 := by omega
                    have hq : q = mt_278 := (Option.some.inj hm).symm
                    rw [hq]
                    exact List.mem_of_getElem? cw_278
                  ·
                    obtain rfl : mi = 279 := by omega
                    have hq : q = mt_279 := (Option.some.inj hm).symm
                    rw [hq]
                    exact List.mem_of_getElem? cw_279
      ·
        by_cases h300 : mi < 300
        ·
          by_cases h290 : mi < 290
          ·
            by_cases h285 : mi < 285
            ·
              by_cases h282 : mi < 282
              ·
                by_cases h281 : mi < 281
                ·
                  obtain rfl : mi = 280 := by omega
                  have hq : q = mt_280 := (Option.some.inj hm).symm
                  rw [hq]
                  exact List.mem_of_getElem? cw_280
                ·
                  obtain rfl : mi = 281 := by omega
                  have hq : q = mt_281 := (Option.some.inj hm).symm
                  rw [hq]
                  exact List.mem_of_getElem? cw_281
              ·
                by_cases h283 : mi < 283
                ·
                  obtain rfl : mi = 282 := by omega
                  have hq : q = mt_282 := (Option.some.inj hm).symm
                  rw [hq]
                  exact List.mem_of_getElem? cw_282
                ·
                  by_cases h284 : mi < 284
                  ·
                    obtain rfl : mi = 283 := by omega
                    have hq : q = mt_283 := (Option.some.inj hm).symm
                    rw [hq]
                    exact List.mem_of_getElem? cw_283
                  ·
                    obtain rfl : mi = 284 := by omega
                    have hq : q = mt_284 := (Option.some.inj hm).symm
                    rw [hq]
                    exact List.mem_of_getElem? cw_284
            ·
              by_cases h287 : mi < 287
              ·
                by_cases h286 : mi < 286
                ·
                  obtain rfl : mi = 285 := by omega
                  have hq : q = mt_285 := (Option.some.inj hm).symm
                  rw [hq]
                  exact List.mem_of_getElem? cw_285
                ·
                  obtain rfl : mi = 286 := by omega
                  have hq : q = mt_286 := (Option.some.inj hm).symm
                  rw [hq]
                  exact List.mem_of_getElem? cw_286
              ·
                by_cases h288 : mi < 288
                ·
                  obtain rfl : mi = 287 := by omega
                  have hq : q = mt_287 := (Option.some.inj hm).symm
                  rw [hq]
                  exact List.mem_of_getElem? cw_287
                ·
                  by_cases h289 : mi < 289
                  ·
                    obtain rfl : mi = 288 := by omega
                    have hq : q = mt_288 := (Option.some.inj hm).symm
                    rw [hq]
                    exact List.mem_of_getElem? cw_288
                  ·
                    obtain rfl : mi = 289 := by omega
                    have hq : q = mt_289 := (Option.some.inj hm).symm
                    rw [hq]
                    exact List.mem_of_getElem? cw_289
          ·
            by_cases h295 : mi < 295
            ·
              by_cases h292 : mi < 292
              ·
                by_cases h291 : mi < 291
                ·
                  obtain rfl : mi = 290 := by omega
                  have hq : q = mt_290 := (Option.some.inj hm).symm
                  rw [hq]
                  exact List.mem_of_getElem? cw_290
                ·
                  obtain rfl : mi = 291 := by omega
                  have hq : q = mt_291 := (Option.some.inj hm).symm
                  rw [hq]
                  exact List.mem_of_getElem? cw_291
              ·
                by_cases h293 : mi < 293
                ·
                  obtain rfl : mi = 292 := by omega
                  have hq : q = mt_292 := (Option.some.inj hm).symm
                  rw [hq]
                  exact List.mem_of_getElem? cw_292
                ·
                  by_cases h294 : mi < 294
                  ·
                    obtain rfl : mi = 293 := by omega
                    have hq : q = mt_293 := (Option.some.inj hm).symm
                    rw [hq]
                    exact List.mem_of_getElem? cw_293
                  ·
                    obtain rfl : mi = 294 := by omega
                    have hq : q = mt_294 := (Option.some.inj hm).symm
                    rw [hq]
                    exact List.mem_of_getElem? cw_294
            ·
              by_cases h297 : mi < 297
              ·
                by_cases h296 : mi < 296
                ·
                  obtain rfl : mi = 295 := by omega
                  have hq : q = mt_295 := (Option.some.inj hm).symm
                  rw [hq]
                  exact List.mem_of_getElem? cw_295
                ·
                  obtain rfl : mi = 296 := by omega
                  have hq : q = mt_296 := (Option.some.inj hm).symm
                  rw [hq]
                  exact List.mem_of_getElem? cw_296
              ·
                by_cases h298 : mi < 298
                ·
                  obtain rfl : mi = 297 := by omega
                  have hq : q = mt_297 := (Option.some.inj hm).symm
                  rw [hq]
                  exact List.mem_of_getElem? cw_297
                ·
                  by_cases h299 : mi < 299
                  ·
                    obtain rfl : mi = 298 := by omega
                    have hq : q = mt_298 := (Option.some.inj hm).symm
                    rw [hq]
                    exact List.mem_of_getElem? cw_298
                  ·
                    obtain rfl : mi = 299 := by omega
                    have hq : q = mt_299 := (Option.some.inj hm).symm
                    rw [hq]
                    exact List.mem_of_getElem? cw_299
        ·
          by_cases h310 : mi < 310
          ·
            by_cases h305 : mi < 305
            ·
              by_cases h302 : mi < 302
              ·
                by_cases h301 : mi < 301
                ·
                  obtain rfl : mi = 300 := by omega
                  have hq : q = mt_300 := (Option.some.inj hm).symm
                  rw [hq]
                  exact List.mem_of_getElem? cw_300
                ·
                  obtain rfl : mi = 301 := by omega
                  have hq : q = mt_301 := (Option.some.inj hm).symm
                  rw [hq]
                  exact List.mem_of_getElem? cw_301
              ·
                by_cases h303 : mi < 303
                ·
                  obtain rfl : mi = 302 := by omega
                  have hq : q = mt_302 := (Option.some.inj hm).symm
                  rw [hq]
                  exact List.mem_of_getElem? cw_302
                ·
                  by_cases h304 : mi < 304
                  ·
                    obtain rfl : mi = 303 := by omega
                    have hq : q = mt_303 := (Option.some.inj hm).symm
                    rw [hq]
                    exact List.mem_of_getElem? cw_303
                  ·
                    obtain rfl : mi = 304 := by omega
                    have hq : q = mt_304 := (Option.some.inj hm).symm
                    rw [hq]
                    exact List.mem_of_getElem? cw_304
            ·
              by_cases h307 : mi < 307
              ·
                by_cases h306 : mi < 306
                ·
                  obtain rfl : mi = 305 := by omega
                  have hq : q = mt_305 := (Option.some.inj hm).symm
                  rw [hq]
                  exact List.mem_of_getElem? cw_305
                ·
                  obtain rfl : mi = 306 := by omega
                  have hq : q = mt_306 := (Option.some.inj hm).symm
                  rw [hq]
                  exact List.mem_of_getElem? cw_306
              ·
                by_cases h308 : mi < 308
                ·
                  obtain rfl : mi = 307 := by omega
                  have hq : q = mt_307 := (Option.some.inj hm).symm
                  rw [hq]
                  exact List.mem_of_getElem? cw_307
                ·
                  by_cases h309 : mi < 309
                  ·
                    obtain rfl : mi = 308 := by omega
                    have hq : q = mt_308 := (Option.some.inj hm).symm
                    rw [hq]
                    exact List.mem_of_getElem? cw_308
                  ·
                    obtain rfl : mi = 309 := by omega
                    have hq : q = mt_309 := (Option.some.inj hm).symm
                    rw [hq]
                    exact List.mem_of_getElem? cw_309
          ·
            by_cases h315 : mi < 315
            ·
              by_cases h312 : mi < 312
              ·
                by_cases h311 : mi < 311
                ·
                  obtain rfl : mi = 310 := by omega
                  have hq : q = mt_310 := (Option.some.inj hm).symm
                  rw [hq]
                  exact List.mem_of_getElem? cw_310
                ·
                  obtain rfl : mi = 311 := by omega
                  have hq : q = mt_311 := (Option.some.inj hm).symm
                  rw [hq]
                  exact List.mem_of_getElem? cw_311
              ·
                by_cases h313 : mi < 313
                ·
                  obtain rfl : mi = 312 := by omega
                  have hq : q = mt_312 := (Option.some.inj hm).symm
                  rw [hq]
                  exact List.mem_of_getElem? cw_312
                ·
                  by_cases h314 : mi < 314
                  ·
                    obtain rfl : mi = 313 := by omega
                    have hq : q = mt_313 := (Option.some.inj hm).symm
                    rw [hq]
                    exact List.mem_of_getElem? cw_313
                  ·
                    obtain rfl : mi = 314 := by omega
                    have hq : q = mt_314 := (Option.some.inj hm).symm
                    rw [hq]
                    exact List.mem_of_getElem? cw_314
            ·
              by_cases h317 : mi < 317
              ·
                by_cases h316 : mi < 316
                ·
                  obtain rfl : mi = 315 := by omega
                  have hq : q = mt_315 := (Option.some.inj hm).symm
                  rw [hq]
                  exact List.mem_of_getElem? cw_315
                ·
                  obtain rfl : mi = 316 := by omega
                  have hq : q = mt_316 := (Option.some.inj hm).symm
                  rw [hq]
                  exact List.mem_of_getElem? cw_316
              ·
                by_cases h318 : mi < 318
                ·
                  obtain rfl : mi = 317 := by omega
                  have hq : q = mt_317 := (Option.some.inj hm).symm
                  rw [hq]
                  exact List.mem_of_getElem? cw_317
                ·
                  by_cases h319 : mi < 319
                  ·
                    obtain rfl : mi = 318 := by omega
                    have hq : q = mt_318 := (Option.some.inj hm).symm
                    rw [hq]
                    exact List.mem_of_getElem? cw_318
                  ·
                    obtain rfl : mi = 319 := by omega
                    have hq : q = mt_319 := (Option.some.inj hm).symm
                    rw [hq]
                    exact List.mem_of_getElem? cw_319
theorem x_gl : xGl := ⟨fun mi pc q ht => (by
    by_cases h : mi < 320
    · exact x_all mi h pc q ht
    · rw [x_tbout (by omega)] at ht
      cases ht), fun mi q h0 hm => (by
    by_cases h : mi < 320
    · exact ⟨cw_all mi q h h0 hm, xmok_all mi h h0⟩
    · rw [x_mtout (by omega)] at hm
      cases hm), x_oi, x_mai, fun ci h => ⟨List.mem_of_getElem? (x_cii ci h).1, List.mem_of_getElem? (x_cii ci h).2⟩⟩
