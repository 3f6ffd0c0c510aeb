/-! THE LAW: its cases, by wip/whole/law.py -/
theorem kml_L_21 : Cond.methodLink RL 21 yX11_house ∈ Tg := mT 185 (by decide +kernel) (by decide +kernel)
theorem kim_X11_house : Cond.instanceMethod yX11_house ∈ Tg := mT 186 (by decide +kernel) (by decide +kernel)
theorem kse_X11_house : Cond.selects RX11 yX11_house yX11_house ∈ Tg := mT 187 (by decide +kernel) (by decide +kernel)
theorem kcd_X11_house : Cond.code yX11_house cX11_house 7 (some .int) ∈ Tg := mT 188 (by decide +kernel) (by decide +kernel)
theorem ds_X11_house : dsc yX11_house.cls yX11_house.desc 1 := ⟨by decide +kernel, by decide +kernel, by decide +kernel⟩
theorem kml_L_25 : Cond.methodLink RL 25 yX12_house ∈ Tg := mT 1121 (by decide +kernel) (by decide +kernel)
theorem kim_X12_house : Cond.instanceMethod yX12_house ∈ Tg := mT 1122 (by decide +kernel) (by decide +kernel)
theorem kse_X12_house : Cond.selects RX12 yX12_house yX12_house ∈ Tg := mT 1123 (by decide +kernel) (by decide +kernel)
theorem kcd_X12_house : Cond.code yX12_house cX12_house 8 (some .int) ∈ Tg := mT 1124 (by decide +kernel) (by decide +kernel)
theorem ds_X12_house : dsc yX12_house.cls yX12_house.desc 1 := ⟨by decide +kernel, by decide +kernel, by decide +kernel⟩
theorem kml_L_26 : Cond.methodLink RL 26 yX11_guest ∈ Tg := mT 530 (by decide +kernel) (by decide +kernel)
theorem kim_X11_guest : Cond.instanceMethod yX11_guest ∈ Tg := mT 531 (by decide +kernel) (by decide +kernel)
theorem kse_X11_guest : Cond.selects RX11 yX11_guest yX11_guest ∈ Tg := mT 532 (by decide +kernel) (by decide +kernel)
theorem kcd_X11_guest : Cond.code yX11_guest cX11_guest 3 (some .int) ∈ Tg := mT 533 (by decide +kernel) (by decide +kernel)
theorem ds_X11_guest : dsc yX11_guest.cls yX11_guest.desc 2 := ⟨by decide +kernel, by decide +kernel, by decide +kernel⟩
theorem kml_L_30 : Cond.methodLink RL 30 yX12_guest ∈ Tg := mT 1210 (by decide +kernel) (by decide +kernel)
theorem kim_X12_guest : Cond.instanceMethod yX12_guest ∈ Tg := mT 1211 (by decide +kernel) (by decide +kernel)
theorem kse_X12_guest : Cond.selects RX12 yX12_guest yX12_guest ∈ Tg := mT 1212 (by decide +kernel) (by decide +kernel)
theorem kcd_X12_guest : Cond.code yX12_guest cX12_guest 3 (some .int) ∈ Tg := mT 1213 (by decide +kernel) (by decide +kernel)
theorem ds_X12_guest : dsc yX12_guest.cls yX12_guest.desc 2 := ⟨by decide +kernel, by decide +kernel, by decide +kernel⟩
theorem kml_L_31 : Cond.methodLink RL 31 yX11_comes ∈ Tg := mT 541 (by decide +kernel) (by decide +kernel)
theorem kim_X11_comes : Cond.instanceMethod yX11_comes ∈ Tg := mT 542 (by decide +kernel) (by decide +kernel)
theorem kse_X11_comes : Cond.selects RX11 yX11_comes yX11_comes ∈ Tg := mT 543 (by decide +kernel) (by decide +kernel)
theorem kcd_X11_comes : Cond.code yX11_comes cX11_comes 4 (some .int) ∈ Tg := mT 544 (by decide +kernel) (by decide +kernel)
theorem ds_X11_comes : dsc yX11_comes.cls yX11_comes.desc 2 := ⟨by decide +kernel, by decide +kernel, by decide +kernel⟩
theorem kml_L_34 : Cond.methodLink RL 34 yX12_comes ∈ Tg := mT 1217 (by decide +kernel) (by decide +kernel)
theorem kim_X12_comes : Cond.instanceMethod yX12_comes ∈ Tg := mT 1218 (by decide +kernel) (by decide +kernel)
theorem kse_X12_comes : Cond.selects RX12 yX12_comes yX12_comes ∈ Tg := mT 1219 (by decide +kernel) (by decide +kernel)
theorem kcd_X12_comes : Cond.code yX12_comes cX12_comes 4 (some .int) ∈ Tg := mT 1220 (by decide +kernel) (by decide +kernel)
theorem ds_X12_comes : dsc yX12_comes.cls yX12_comes.desc 2 := ⟨by decide +kernel, by decide +kernel, by decide +kernel⟩
theorem kml_L_35 : Cond.methodLink RL 35 yX11_tells ∈ Tg := mT 554 (by decide +kernel) (by decide +kernel)
theorem kim_X11_tells : Cond.instanceMethod yX11_tells ∈ Tg := mT 555 (by decide +kernel) (by decide +kernel)
theorem kse_X11_tells : Cond.selects RX11 yX11_tells yX11_tells ∈ Tg := mT 556 (by decide +kernel) (by decide +kernel)
theorem kcd_X11_tells : Cond.code yX11_tells cX11_tells 2 (some .int) ∈ Tg := mT 557 (by decide +kernel) (by decide +kernel)
theorem ds_X11_tells : dsc yX11_tells.cls yX11_tells.desc 1 := ⟨by decide +kernel, by decide +kernel, by decide +kernel⟩
theorem kml_L_38 : Cond.methodLink RL 38 yX12_tells ∈ Tg := mT 1225 (by decide +kernel) (by decide +kernel)
theorem kim_X12_tells : Cond.instanceMethod yX12_tells ∈ Tg := mT 1226 (by decide +kernel) (by decide +kernel)
theorem kse_X12_tells : Cond.selects RX12 yX12_tells yX12_tells ∈ Tg := mT 1227 (by decide +kernel) (by decide +kernel)
theorem kcd_X12_tells : Cond.code yX12_tells cX12_tells 2 (some .int) ∈ Tg := mT 1228 (by decide +kernel) (by decide +kernel)
theorem ds_X12_tells : dsc yX12_tells.cls yX12_tells.desc 1 := ⟨by decide +kernel, by decide +kernel, by decide +kernel⟩
theorem kml_L_39 : Cond.methodLink RL 39 yX11_lends ∈ Tg := mT 560 (by decide +kernel) (by decide +kernel)
theorem kim_X11_lends : Cond.instanceMethod yX11_lends ∈ Tg := mT 561 (by decide +kernel) (by decide +kernel)
theorem kse_X11_lends : Cond.selects RX11 yX11_lends yX11_lends ∈ Tg := mT 562 (by decide +kernel) (by decide +kernel)
theorem kcd_X11_lends : Cond.code yX11_lends cX11_lends 4 (some .int) ∈ Tg := mT 563 (by decide +kernel) (by decide +kernel)
theorem ds_X11_lends : dsc yX11_lends.cls yX11_lends.desc 3 := ⟨by decide +kernel, by decide +kernel, by decide +kernel⟩
theorem kml_L_43 : Cond.methodLink RL 43 yX12_lends ∈ Tg := mT 1229 (by decide +kernel) (by decide +kernel)
theorem kim_X12_lends : Cond.instanceMethod yX12_lends ∈ Tg := mT 1230 (by decide +kernel) (by decide +kernel)
theorem kse_X12_lends : Cond.selects RX12 yX12_lends yX12_lends ∈ Tg := mT 1231 (by decide +kernel) (by decide +kernel)
theorem kcd_X12_lends : Cond.code yX12_lends cX12_lends 4 (some .int) ∈ Tg := mT 1232 (by decide +kernel) (by decide +kernel)
theorem ds_X12_lends : dsc yX12_lends.cls yX12_lends.desc 3 := ⟨by decide +kernel, by decide +kernel, by decide +kernel⟩
theorem kml_L_44 : Cond.methodLink RL 44 yX11_table ∈ Tg := mT 570 (by decide +kernel) (by decide +kernel)
theorem kim_X11_table : Cond.instanceMethod yX11_table ∈ Tg := mT 571 (by decide +kernel) (by decide +kernel)
theorem kse_X11_table : Cond.selects RX11 yX11_table yX11_table ∈ Tg := mT 572 (by decide +kernel) (by decide +kernel)
theorem kcd_X11_table : Cond.code yX11_table cX11_table 4 (some .int) ∈ Tg := mT 573 (by decide +kernel) (by decide +kernel)
theorem ds_X11_table : dsc yX11_table.cls yX11_table.desc 2 := ⟨by decide +kernel, by decide +kernel, by decide +kernel⟩
theorem kml_L_47 : Cond.methodLink RL 47 yX12_table ∈ Tg := mT 1233 (by decide +kernel) (by decide +kernel)
theorem kim_X12_table : Cond.instanceMethod yX12_table ∈ Tg := mT 1234 (by decide +kernel) (by decide +kernel)
theorem kse_X12_table : Cond.selects RX12 yX12_table yX12_table ∈ Tg := mT 1235 (by decide +kernel) (by decide +kernel)
theorem kcd_X12_table : Cond.code yX12_table cX12_table 4 (some .int) ∈ Tg := mT 1236 (by decide +kernel) (by decide +kernel)
theorem ds_X12_table : dsc yX12_table.cls yX12_table.desc 2 := ⟨by decide +kernel, by decide +kernel, by decide +kernel⟩
theorem kml_L_48 : Cond.methodLink RL 48 yX11_weighs ∈ Tg := mT 575 (by decide +kernel) (by decide +kernel)
theorem kim_X11_weighs : Cond.instanceMethod yX11_weighs ∈ Tg := mT 576 (by decide +kernel) (by decide +kernel)
theorem kse_X11_weighs : Cond.selects RX11 yX11_weighs yX11_weighs ∈ Tg := mT 577 (by decide +kernel) (by decide +kernel)
theorem kcd_X11_weighs : Cond.code yX11_weighs cX11_weighs 4 (some .int) ∈ Tg := mT 578 (by decide +kernel) (by decide +kernel)
theorem ds_X11_weighs : dsc yX11_weighs.cls yX11_weighs.desc 2 := ⟨by decide +kernel, by decide +kernel, by decide +kernel⟩
theorem kml_L_51 : Cond.methodLink RL 51 yX12_weighs ∈ Tg := mT 1237 (by decide +kernel) (by decide +kernel)
theorem kim_X12_weighs : Cond.instanceMethod yX12_weighs ∈ Tg := mT 1238 (by decide +kernel) (by decide +kernel)
theorem kse_X12_weighs : Cond.selects RX12 yX12_weighs yX12_weighs ∈ Tg := mT 1239 (by decide +kernel) (by decide +kernel)
theorem kcd_X12_weighs : Cond.code yX12_weighs cX12_weighs 4 (some .int) ∈ Tg := mT 1240 (by decide +kernel) (by decide +kernel)
theorem ds_X12_weighs : dsc yX12_weighs.cls yX12_weighs.desc 2 := ⟨by decide +kernel, by decide +kernel, by decide +kernel⟩
theorem kml_L_52 : Cond.methodLink RL 52 yX11_days ∈ Tg := mT 579 (by decide +kernel) (by decide +kernel)
theorem kim_X11_days : Cond.instanceMethod yX11_days ∈ Tg := mT 580 (by decide +kernel) (by decide +kernel)
theorem kse_X11_days : Cond.selects RX11 yX11_days yX11_days ∈ Tg := mT 581 (by decide +kernel) (by decide +kernel)
theorem kcd_X11_days : Cond.code yX11_days cX11_days 2 (some .int) ∈ Tg := mT 582 (by decide +kernel) (by decide +kernel)
theorem ds_X11_days : dsc yX11_days.cls yX11_days.desc 1 := ⟨by decide +kernel, by decide +kernel, by decide +kernel⟩
theorem kml_L_55 : Cond.methodLink RL 55 yX12_days ∈ Tg := mT 1241 (by decide +kernel) (by decide +kernel)
theorem kim_X12_days : Cond.instanceMethod yX12_days ∈ Tg := mT 1242 (by decide +kernel) (by decide +kernel)
theorem kse_X12_days : Cond.selects RX12 yX12_days yX12_days ∈ Tg := mT 1243 (by decide +kernel) (by decide +kernel)
theorem kcd_X12_days : Cond.code yX12_days cX12_days 2 (some .int) ∈ Tg := mT 1244 (by decide +kernel) (by decide +kernel)
theorem ds_X12_days : dsc yX12_days.cls yX12_days.desc 1 := ⟨by decide +kernel, by decide +kernel, by decide +kernel⟩
theorem kml_L_56 : Cond.methodLink RL 56 yX11_weightThen ∈ Tg := mT 584 (by decide +kernel) (by decide +kernel)
theorem kim_X11_weightThen : Cond.instanceMethod yX11_weightThen ∈ Tg := mT 585 (by decide +kernel) (by decide +kernel)
theorem kse_X11_weightThen : Cond.selects RX11 yX11_weightThen yX11_weightThen ∈ Tg := mT 586 (by decide +kernel) (by decide +kernel)
theorem kcd_X11_weightThen : Cond.code yX11_weightThen cX11_weightThen 3 (some .int) ∈ Tg := mT 587 (by decide +kernel) (by decide +kernel)
theorem ds_X11_weightThen : dsc yX11_weightThen.cls yX11_weightThen.desc 2 := ⟨by decide +kernel, by decide +kernel, by decide +kernel⟩
theorem kml_L_59 : Cond.methodLink RL 59 yX12_weightThen ∈ Tg := mT 1245 (by decide +kernel) (by decide +kernel)
theorem kim_X12_weightThen : Cond.instanceMethod yX12_weightThen ∈ Tg := mT 1246 (by decide +kernel) (by decide +kernel)
theorem kse_X12_weightThen : Cond.selects RX12 yX12_weightThen yX12_weightThen ∈ Tg := mT 1247 (by decide +kernel) (by decide +kernel)
theorem kcd_X12_weightThen : Cond.code yX12_weightThen cX12_weightThen 3 (some .int) ∈ Tg := mT 1248 (by decide +kernel) (by decide +kernel)
theorem ds_X12_weightThen : dsc yX12_weightThen.cls yX12_weightThen.desc 2 := ⟨by decide +kernel, by decide +kernel, by decide +kernel⟩
theorem kml_L_60 : Cond.methodLink RL 60 yX11_then ∈ Tg := mT 591 (by decide +kernel) (by decide +kernel)
theorem kim_X11_then : Cond.instanceMethod yX11_then ∈ Tg := mT 592 (by decide +kernel) (by decide +kernel)
theorem kse_X11_then : Cond.selects RX11 yX11_then yX11_then ∈ Tg := mT 593 (by decide +kernel) (by decide +kernel)
theorem kcd_X11_then : Cond.code yX11_then cX11_then 3 (some .int) ∈ Tg := mT 594 (by decide +kernel) (by decide +kernel)
theorem ds_X11_then : dsc yX11_then.cls yX11_then.desc 2 := ⟨by decide +kernel, by decide +kernel, by decide +kernel⟩
theorem kml_L_63 : Cond.methodLink RL 63 yX12_then ∈ Tg := mT 1256 (by decide +kernel) (by decide +kernel)
theorem kim_X12_then : Cond.instanceMethod yX12_then ∈ Tg := mT 1257 (by decide +kernel) (by decide +kernel)
theorem kse_X12_then : Cond.selects RX12 yX12_then yX12_then ∈ Tg := mT 1258 (by decide +kernel) (by decide +kernel)
theorem kcd_X12_then : Cond.code yX12_then cX12_then 3 (some .int) ∈ Tg := mT 1259 (by decide +kernel) (by decide +kernel)
theorem ds_X12_then : dsc yX12_then.cls yX12_then.desc 2 := ⟨by decide +kernel, by decide +kernel, by decide +kernel⟩
theorem kml_L_64 : Cond.methodLink RL 64 yX11_leaves ∈ Tg := mT 599 (by decide +kernel) (by decide +kernel)
theorem kim_X11_leaves : Cond.instanceMethod yX11_leaves ∈ Tg := mT 600 (by decide +kernel) (by decide +kernel)
theorem kse_X11_leaves : Cond.selects RX11 yX11_leaves yX11_leaves ∈ Tg := mT 601 (by decide +kernel) (by decide +kernel)
theorem kcd_X11_leaves : Cond.code yX11_leaves cX11_leaves 3 (some .int) ∈ Tg := mT 602 (by decide +kernel) (by decide +kernel)
theorem ds_X11_leaves : dsc yX11_leaves.cls yX11_leaves.desc 1 := ⟨by decide +kernel, by decide +kernel, by decide +kernel⟩
theorem kml_L_67 : Cond.methodLink RL 67 yX12_leaves ∈ Tg := mT 1266 (by decide +kernel) (by decide +kernel)
theorem kim_X12_leaves : Cond.instanceMethod yX12_leaves ∈ Tg := mT 1267 (by decide +kernel) (by decide +kernel)
theorem kse_X12_leaves : Cond.selects RX12 yX12_leaves yX12_leaves ∈ Tg := mT 1268 (by decide +kernel) (by decide +kernel)
theorem kcd_X12_leaves : Cond.code yX12_leaves cX12_leaves 2 (some .int) ∈ Tg := mT 1269 (by decide +kernel) (by decide +kernel)
theorem ds_X12_leaves : dsc yX12_leaves.cls yX12_leaves.desc 1 := ⟨by decide +kernel, by decide +kernel, by decide +kernel⟩
theorem kml_L_68 : Cond.methodLink RL 68 yX11_order ∈ Tg := mT 619 (by decide +kernel) (by decide +kernel)
theorem kim_X11_order : Cond.instanceMethod yX11_order ∈ Tg := mT 620 (by decide +kernel) (by decide +kernel)
theorem kse_X11_order : Cond.selects RX11 yX11_order yX11_order ∈ Tg := mT 621 (by decide +kernel) (by decide +kernel)
theorem kcd_X11_order : Cond.code yX11_order cX11_order 2 (some .int) ∈ Tg := mT 622 (by decide +kernel) (by decide +kernel)
theorem ds_X11_order : dsc yX11_order.cls yX11_order.desc 1 := ⟨by decide +kernel, by decide +kernel, by decide +kernel⟩
theorem kml_L_71 : Cond.methodLink RL 71 yX12_order ∈ Tg := mT 1279 (by decide +kernel) (by decide +kernel)
theorem kim_X12_order : Cond.instanceMethod yX12_order ∈ Tg := mT 1280 (by decide +kernel) (by decide +kernel)
theorem kse_X12_order : Cond.selects RX12 yX12_order yX12_order ∈ Tg := mT 1281 (by decide +kernel) (by decide +kernel)
theorem kcd_X12_order : Cond.code yX12_order cX12_order 4 (some .int) ∈ Tg := mT 1282 (by decide +kernel) (by decide +kernel)
theorem ds_X12_order : dsc yX12_order.cls yX12_order.desc 1 := ⟨by decide +kernel, by decide +kernel, by decide +kernel⟩
theorem kml_L_72 : Cond.methodLink RL 72 yX11_feed ∈ Tg := mT 635 (by decide +kernel) (by decide +kernel)
theorem kim_X11_feed : Cond.instanceMethod yX11_feed ∈ Tg := mT 636 (by decide +kernel) (by decide +kernel)
theorem kse_X11_feed : Cond.selects RX11 yX11_feed yX11_feed ∈ Tg := mT 637 (by decide +kernel) (by decide +kernel)
theorem kcd_X11_feed : Cond.code yX11_feed cX11_feed 6 (some .int) ∈ Tg := mT 638 (by decide +kernel) (by decide +kernel)
theorem ds_X11_feed : dsc yX11_feed.cls yX11_feed.desc 2 := ⟨by decide +kernel, by decide +kernel, by decide +kernel⟩
theorem kml_L_75 : Cond.methodLink RL 75 yX12_feed ∈ Tg := mT 1287 (by decide +kernel) (by decide +kernel)
theorem kim_X12_feed : Cond.instanceMethod yX12_feed ∈ Tg := mT 1288 (by decide +kernel) (by decide +kernel)
theorem kse_X12_feed : Cond.selects RX12 yX12_feed yX12_feed ∈ Tg := mT 1289 (by decide +kernel) (by decide +kernel)
theorem kcd_X12_feed : Cond.code yX12_feed cX12_feed 6 (some .int) ∈ Tg := mT 1290 (by decide +kernel) (by decide +kernel)
theorem ds_X12_feed : dsc yX12_feed.cls yX12_feed.desc 2 := ⟨by decide +kernel, by decide +kernel, by decide +kernel⟩
theorem kml_L_76 : Cond.methodLink RL 76 yX11_empty ∈ Tg := mT 639 (by decide +kernel) (by decide +kernel)
theorem kim_X11_empty : Cond.instanceMethod yX11_empty ∈ Tg := mT 640 (by decide +kernel) (by decide +kernel)
theorem kse_X11_empty : Cond.selects RX11 yX11_empty yX11_empty ∈ Tg := mT 641 (by decide +kernel) (by decide +kernel)
theorem kcd_X11_empty : Cond.code yX11_empty cX11_empty 3 (some .int) ∈ Tg := mT 642 (by decide +kernel) (by decide +kernel)
theorem ds_X11_empty : dsc yX11_empty.cls yX11_empty.desc 1 := ⟨by decide +kernel, by decide +kernel, by decide +kernel⟩
theorem kml_L_79 : Cond.methodLink RL 79 yX12_empty ∈ Tg := mT 1291 (by decide +kernel) (by decide +kernel)
theorem kim_X12_empty : Cond.instanceMethod yX12_empty ∈ Tg := mT 1292 (by decide +kernel) (by decide +kernel)
theorem kse_X12_empty : Cond.selects RX12 yX12_empty yX12_empty ∈ Tg := mT 1293 (by decide +kernel) (by decide +kernel)
theorem kcd_X12_empty : Cond.code yX12_empty cX12_empty 3 (some .int) ∈ Tg := mT 1294 (by decide +kernel) (by decide +kernel)
theorem ds_X12_empty : dsc yX12_empty.cls yX12_empty.desc 1 := ⟨by decide +kernel, by decide +kernel, by decide +kernel⟩
theorem kml_L_80 : Cond.methodLink RL 80 yX11_tell ∈ Tg := mT 643 (by decide +kernel) (by decide +kernel)
theorem kim_X11_tell : Cond.instanceMethod yX11_tell ∈ Tg := mT 644 (by decide +kernel) (by decide +kernel)
theorem kse_X11_tell : Cond.selects RX11 yX11_tell yX11_tell ∈ Tg := mT 645 (by decide +kernel) (by decide +kernel)
theorem kcd_X11_tell : Cond.code yX11_tell cX11_tell 4 (some .int) ∈ Tg := mT 646 (by decide +kernel) (by decide +kernel)
theorem ds_X11_tell : dsc yX11_tell.cls yX11_tell.desc 1 := ⟨by decide +kernel, by decide +kernel, by decide +kernel⟩
theorem kml_L_83 : Cond.methodLink RL 83 yX12_tell ∈ Tg := mT 1295 (by decide +kernel) (by decide +kernel)
theorem kim_X12_tell : Cond.instanceMethod yX12_tell ∈ Tg := mT 1296 (by decide +kernel) (by decide +kernel)
theorem kse_X12_tell : Cond.selects RX12 yX12_tell yX12_tell ∈ Tg := mT 1297 (by decide +kernel) (by decide +kernel)
theorem kcd_X12_tell : Cond.code yX12_tell cX12_tell 4 (some .int) ∈ Tg := mT 1298 (by decide +kernel) (by decide +kernel)
theorem ds_X12_tell : dsc yX12_tell.cls yX12_tell.desc 1 := ⟨by decide +kernel, by decide +kernel, by decide +kernel⟩
theorem kml_L_84 : Cond.methodLink RL 84 yX11_loan ∈ Tg := mT 651 (by decide +kernel) (by decide +kernel)
theorem kim_X11_loan : Cond.instanceMethod yX11_loan ∈ Tg := mT 652 (by decide +kernel) (by decide +kernel)
theorem kse_X11_loan : Cond.selects RX11 yX11_loan yX11_loan ∈ Tg := mT 653 (by decide +kernel) (by decide +kernel)
theorem kcd_X11_loan : Cond.code yX11_loan cX11_loan 4 (some .int) ∈ Tg := mT 654 (by decide +kernel) (by decide +kernel)
theorem ds_X11_loan : dsc yX11_loan.cls yX11_loan.desc 2 := ⟨by decide +kernel, by decide +kernel, by decide +kernel⟩
theorem kml_L_87 : Cond.methodLink RL 87 yX12_loan ∈ Tg := mT 1303 (by decide +kernel) (by decide +kernel)
theorem kim_X12_loan : Cond.instanceMethod yX12_loan ∈ Tg := mT 1304 (by decide +kernel) (by decide +kernel)
theorem kse_X12_loan : Cond.selects RX12 yX12_loan yX12_loan ∈ Tg := mT 1305 (by decide +kernel) (by decide +kernel)
theorem kcd_X12_loan : Cond.code yX12_loan cX12_loan 4 (some .int) ∈ Tg := mT 1306 (by decide +kernel) (by decide +kernel)
theorem ds_X12_loan : dsc yX12_loan.cls yX12_loan.desc 2 := ⟨by decide +kernel, by decide +kernel, by decide +kernel⟩
theorem kml_L_88 : Cond.methodLink RL 88 yX11_waits ∈ Tg := mT 655 (by decide +kernel) (by decide +kernel)
theorem kim_X11_waits : Cond.instanceMethod yX11_waits ∈ Tg := mT 656 (by decide +kernel) (by decide +kernel)
theorem kse_X11_waits : Cond.selects RX11 yX11_waits yX11_waits ∈ Tg := mT 657 (by decide +kernel) (by decide +kernel)
theorem kcd_X11_waits : Cond.code yX11_waits cX11_waits 5 (some .int) ∈ Tg := mT 658 (by decide +kernel) (by decide +kernel)
theorem ds_X11_waits : dsc yX11_waits.cls yX11_waits.desc 1 := ⟨by decide +kernel, by decide +kernel, by decide +kernel⟩
theorem kml_L_91 : Cond.methodLink RL 91 yX12_waits ∈ Tg := mT 1307 (by decide +kernel) (by decide +kernel)
theorem kim_X12_waits : Cond.instanceMethod yX12_waits ∈ Tg := mT 1308 (by decide +kernel) (by decide +kernel)
theorem kse_X12_waits : Cond.selects RX12 yX12_waits yX12_waits ∈ Tg := mT 1309 (by decide +kernel) (by decide +kernel)
theorem kcd_X12_waits : Cond.code yX12_waits cX12_waits 5 (some .int) ∈ Tg := mT 1310 (by decide +kernel) (by decide +kernel)
theorem ds_X12_waits : dsc yX12_waits.cls yX12_waits.desc 1 := ⟨by decide +kernel, by decide +kernel, by decide +kernel⟩
theorem kml_L_92 : Cond.methodLink RL 92 yX11_pairs ∈ Tg := mT 659 (by decide +kernel) (by decide +kernel)
theorem kim_X11_pairs : Cond.instanceMethod yX11_pairs ∈ Tg := mT 660 (by decide +kernel) (by decide +kernel)
theorem kse_X11_pairs : Cond.selects RX11 yX11_pairs yX11_pairs ∈ Tg := mT 661 (by decide +kernel) (by decide +kernel)
theorem kcd_X11_pairs : Cond.code yX11_pairs cX11_pairs 2 (some .int) ∈ Tg := mT 662 (by decide +kernel) (by decide +kernel)
theorem ds_X11_pairs : dsc yX11_pairs.cls yX11_pairs.desc 1 := ⟨by decide +kernel, by decide +kernel, by decide +kernel⟩
theorem kml_L_95 : Cond.methodLink RL 95 yX12_pairs ∈ Tg := mT 1311 (by decide +kernel) (by decide +kernel)
theorem kim_X12_pairs : Cond.instanceMethod yX12_pairs ∈ Tg := mT 1312 (by decide +kernel) (by decide +kernel)
theorem kse_X12_pairs : Cond.selects RX12 yX12_pairs yX12_pairs ∈ Tg := mT 1313 (by decide +kernel) (by decide +kernel)
theorem kcd_X12_pairs : Cond.code yX12_pairs cX12_pairs 5 (some .int) ∈ Tg := mT 1314 (by decide +kernel) (by decide +kernel)
theorem ds_X12_pairs : dsc yX12_pairs.cls yX12_pairs.desc 1 := ⟨by decide +kernel, by decide +kernel, by decide +kernel⟩
theorem kml_L_96 : Cond.methodLink RL 96 yX11_ledger ∈ Tg := mT 696 (by decide +kernel) (by decide +kernel)
theorem kim_X11_ledger : Cond.instanceMethod yX11_ledger ∈ Tg := mT 697 (by decide +kernel) (by decide +kernel)
theorem kse_X11_ledger : Cond.selects RX11 yX11_ledger yX11_ledger ∈ Tg := mT 698 (by decide +kernel) (by decide +kernel)
theorem kcd_X11_ledger : Cond.code yX11_ledger cX11_ledger 1 (some .int) ∈ Tg := mT 699 (by decide +kernel) (by decide +kernel)
theorem ds_X11_ledger : dsc yX11_ledger.cls yX11_ledger.desc 0 := ⟨by decide +kernel, by decide +kernel, by decide +kernel⟩
theorem kml_L_100 : Cond.methodLink RL 100 yX12_ledger ∈ Tg := mT 1338 (by decide +kernel) (by decide +kernel)
theorem kim_X12_ledger : Cond.instanceMethod yX12_ledger ∈ Tg := mT 1339 (by decide +kernel) (by decide +kernel)
theorem kse_X12_ledger : Cond.selects RX12 yX12_ledger yX12_ledger ∈ Tg := mT 1340 (by decide +kernel) (by decide +kernel)
theorem kcd_X12_ledger : Cond.code yX12_ledger cX12_ledger 3 (some .int) ∈ Tg := mT 1341 (by decide +kernel) (by decide +kernel)
theorem ds_X12_ledger : dsc yX12_ledger.cls yX12_ledger.desc 0 := ⟨by decide +kernel, by decide +kernel, by decide +kernel⟩
theorem kml_L_101 : Cond.methodLink RL 101 yX11_tears ∈ Tg := mT 704 (by decide +kernel) (by decide +kernel)
theorem kim_X11_tears : Cond.instanceMethod yX11_tears ∈ Tg := mT 705 (by decide +kernel) (by decide +kernel)
theorem kse_X11_tears : Cond.selects RX11 yX11_tears yX11_tears ∈ Tg := mT 706 (by decide +kernel) (by decide +kernel)
theorem kcd_X11_tears : Cond.code yX11_tears cX11_tears 2 (some .int) ∈ Tg := mT 707 (by decide +kernel) (by decide +kernel)
theorem ds_X11_tears : dsc yX11_tears.cls yX11_tears.desc 1 := ⟨by decide +kernel, by decide +kernel, by decide +kernel⟩
theorem kml_L_104 : Cond.methodLink RL 104 yX12_tears ∈ Tg := mT 1342 (by decide +kernel) (by decide +kernel)
theorem kim_X12_tears : Cond.instanceMethod yX12_tears ∈ Tg := mT 1343 (by decide +kernel) (by decide +kernel)
theorem kse_X12_tears : Cond.selects RX12 yX12_tears yX12_tears ∈ Tg := mT 1344 (by decide +kernel) (by decide +kernel)
theorem kcd_X12_tears : Cond.code yX12_tears cX12_tears 5 (some .int) ∈ Tg := mT 1345 (by decide +kernel) (by decide +kernel)
theorem ds_X12_tears : dsc yX12_tears.cls yX12_tears.desc 1 := ⟨by decide +kernel, by decide +kernel, by decide +kernel⟩
theorem kml_L_105 : Cond.methodLink RL 105 yX11_whatIs ∈ Tg := mT 720 (by decide +kernel) (by decide +kernel)
theorem kim_X11_whatIs : Cond.instanceMethod yX11_whatIs ∈ Tg := mT 721 (by decide +kernel) (by decide +kernel)
theorem kse_X11_whatIs : Cond.selects RX11 yX11_whatIs yX11_whatIs ∈ Tg := mT 722 (by decide +kernel) (by decide +kernel)
theorem kcd_X11_whatIs : Cond.code yX11_whatIs cX11_whatIs 5 (some .int) ∈ Tg := mT 723 (by decide +kernel) (by decide +kernel)
theorem ds_X11_whatIs : dsc yX11_whatIs.cls yX11_whatIs.desc 3 := ⟨by decide +kernel, by decide +kernel, by decide +kernel⟩
theorem kml_L_108 : Cond.methodLink RL 108 yX12_whatIs ∈ Tg := mT 1350 (by decide +kernel) (by decide +kernel)
theorem kim_X12_whatIs : Cond.instanceMethod yX12_whatIs ∈ Tg := mT 1351 (by decide +kernel) (by decide +kernel)
theorem kse_X12_whatIs : Cond.selects RX12 yX12_whatIs yX12_whatIs ∈ Tg := mT 1352 (by decide +kernel) (by decide +kernel)
theorem kcd_X12_whatIs : Cond.code yX12_whatIs cX12_whatIs 9 (some .int) ∈ Tg := mT 1353 (by decide +kernel) (by decide +kernel)
theorem ds_X12_whatIs : dsc yX12_whatIs.cls yX12_whatIs.desc 3 := ⟨by decide +kernel, by decide +kernel, by decide +kernel⟩
theorem kml_L_109 : Cond.methodLink RL 109 yX11_cameWith ∈ Tg := mT 744 (by decide +kernel) (by decide +kernel)
theorem kim_X11_cameWith : Cond.instanceMethod yX11_cameWith ∈ Tg := mT 745 (by decide +kernel) (by decide +kernel)
theorem kse_X11_cameWith : Cond.selects RX11 yX11_cameWith yX11_cameWith ∈ Tg := mT 746 (by decide +kernel) (by decide +kernel)
theorem kcd_X11_cameWith : Cond.code yX11_cameWith cX11_cameWith 5 (some .int) ∈ Tg := mT 747 (by decide +kernel) (by decide +kernel)
theorem ds_X11_cameWith : dsc yX11_cameWith.cls yX11_cameWith.desc 3 := ⟨by decide +kernel, by decide +kernel, by decide +kernel⟩
theorem kml_L_112 : Cond.methodLink RL 112 yX12_cameWith ∈ Tg := mT 1362 (by decide +kernel) (by decide +kernel)
theorem kim_X12_cameWith : Cond.instanceMethod yX12_cameWith ∈ Tg := mT 1363 (by decide +kernel) (by decide +kernel)
theorem kse_X12_cameWith : Cond.selects RX12 yX12_cameWith yX12_cameWith ∈ Tg := mT 1364 (by decide +kernel) (by decide +kernel)
theorem kcd_X12_cameWith : Cond.code yX12_cameWith cX12_cameWith 9 (some .int) ∈ Tg := mT 1365 (by decide +kernel) (by decide +kernel)
theorem ds_X12_cameWith : dsc yX12_cameWith.cls yX12_cameWith.desc 3 := ⟨by decide +kernel, by decide +kernel, by decide +kernel⟩
theorem kml_L_113 : Cond.methodLink RL 113 yX11_two ∈ Tg := mT 754 (by decide +kernel) (by decide +kernel)
theorem kim_X11_two : Cond.instanceMethod yX11_two ∈ Tg := mT 755 (by decide +kernel) (by decide +kernel)
theorem kse_X11_two : Cond.selects RX11 yX11_two yX11_two ∈ Tg := mT 756 (by decide +kernel) (by decide +kernel)
theorem kcd_X11_two : Cond.code yX11_two cX11_two 10 (some .int) ∈ Tg := mT 757 (by decide +kernel) (by decide +kernel)
theorem ds_X11_two : dsc yX11_two.cls yX11_two.desc 3 := ⟨by decide +kernel, by decide +kernel, by decide +kernel⟩
theorem kml_L_116 : Cond.methodLink RL 116 yX12_two ∈ Tg := mT 1370 (by decide +kernel) (by decide +kernel)
theorem kim_X12_two : Cond.instanceMethod yX12_two ∈ Tg := mT 1371 (by decide +kernel) (by decide +kernel)
theorem kse_X12_two : Cond.selects RX12 yX12_two yX12_two ∈ Tg := mT 1372 (by decide +kernel) (by decide +kernel)
theorem kcd_X12_two : Cond.code yX12_two cX12_two 7 (some .int) ∈ Tg := mT 1373 (by decide +kernel) (by decide +kernel)
theorem ds_X12_two : dsc yX12_two.cls yX12_two.desc 3 := ⟨by decide +kernel, by decide +kernel, by decide +kernel⟩
theorem kml_L_117 : Cond.methodLink RL 117 yX11_feasts ∈ Tg := mT 764 (by decide +kernel) (by decide +kernel)
theorem kim_X11_feasts : Cond.instanceMethod yX11_feasts ∈ Tg := mT 765 (by decide +kernel) (by decide +kernel)
theorem kse_X11_feasts : Cond.selects RX11 yX11_feasts yX11_feasts ∈ Tg := mT 766 (by decide +kernel) (by decide +kernel)
theorem kcd_X11_feasts : Cond.code yX11_feasts cX11_feasts 8 (some .long) ∈ Tg := mT 767 (by decide +kernel) (by decide +kernel)
theorem ds_X11_feasts : dsc yX11_feasts.cls yX11_feasts.desc 4 := ⟨by decide +kernel, by decide +kernel, by decide +kernel⟩
theorem kml_L_121 : Cond.methodLink RL 121 yX12_feasts ∈ Tg := mT 1378 (by decide +kernel) (by decide +kernel)
theorem kim_X12_feasts : Cond.instanceMethod yX12_feasts ∈ Tg := mT 1379 (by decide +kernel) (by decide +kernel)
theorem kse_X12_feasts : Cond.selects RX12 yX12_feasts yX12_feasts ∈ Tg := mT 1380 (by decide +kernel) (by decide +kernel)
theorem kcd_X12_feasts : Cond.code yX12_feasts cX12_feasts 13 (some .long) ∈ Tg := mT 1381 (by decide +kernel) (by decide +kernel)
theorem ds_X12_feasts : dsc yX12_feasts.cls yX12_feasts.desc 4 := ⟨by decide +kernel, by decide +kernel, by decide +kernel⟩
theorem kml_L_122 : Cond.methodLink RL 122 yX11_mean ∈ Tg := mT 788 (by decide +kernel) (by decide +kernel)
theorem kim_X11_mean : Cond.instanceMethod yX11_mean ∈ Tg := mT 789 (by decide +kernel) (by decide +kernel)
theorem kse_X11_mean : Cond.selects RX11 yX11_mean yX11_mean ∈ Tg := mT 790 (by decide +kernel) (by decide +kernel)
theorem kcd_X11_mean : Cond.code yX11_mean cX11_mean 5 (some .long) ∈ Tg := mT 791 (by decide +kernel) (by decide +kernel)
theorem ds_X11_mean : dsc yX11_mean.cls yX11_mean.desc 1 := ⟨by decide +kernel, by decide +kernel, by decide +kernel⟩
theorem kml_L_126 : Cond.methodLink RL 126 yX12_mean ∈ Tg := mT 1389 (by decide +kernel) (by decide +kernel)
theorem kim_X12_mean : Cond.instanceMethod yX12_mean ∈ Tg := mT 1390 (by decide +kernel) (by decide +kernel)
theorem kse_X12_mean : Cond.selects RX12 yX12_mean yX12_mean ∈ Tg := mT 1391 (by decide +kernel) (by decide +kernel)
theorem kcd_X12_mean : Cond.code yX12_mean cX12_mean 6 (some .long) ∈ Tg := mT 1392 (by decide +kernel) (by decide +kernel)
theorem ds_X12_mean : dsc yX12_mean.cls yX12_mean.desc 1 := ⟨by decide +kernel, by decide +kernel, by decide +kernel⟩
theorem kml_L_127 : Cond.methodLink RL 127 yX11_forged ∈ Tg := mT 792 (by decide +kernel) (by decide +kernel)
theorem kim_X11_forged : Cond.instanceMethod yX11_forged ∈ Tg := mT 793 (by decide +kernel) (by decide +kernel)
theorem kse_X11_forged : Cond.selects RX11 yX11_forged yX11_forged ∈ Tg := mT 794 (by decide +kernel) (by decide +kernel)
theorem kcd_X11_forged : Cond.code yX11_forged cX11_forged 4 (some .int) ∈ Tg := mT 795 (by decide +kernel) (by decide +kernel)
theorem ds_X11_forged : dsc yX11_forged.cls yX11_forged.desc 1 := ⟨by decide +kernel, by decide +kernel, by decide +kernel⟩
theorem kml_L_130 : Cond.methodLink RL 130 yX12_forged ∈ Tg := mT 1393 (by decide +kernel) (by decide +kernel)
theorem kim_X12_forged : Cond.instanceMethod yX12_forged ∈ Tg := mT 1394 (by decide +kernel) (by decide +kernel)
theorem kse_X12_forged : Cond.selects RX12 yX12_forged yX12_forged ∈ Tg := mT 1395 (by decide +kernel) (by decide +kernel)
theorem kcd_X12_forged : Cond.code yX12_forged cX12_forged 4 (some .int) ∈ Tg := mT 1396 (by decide +kernel) (by decide +kernel)
theorem ds_X12_forged : dsc yX12_forged.cls yX12_forged.desc 1 := ⟨by decide +kernel, by decide +kernel, by decide +kernel⟩
theorem kml_L_131 : Cond.methodLink RL 131 yX11_judge ∈ Tg := mT 796 (by decide +kernel) (by decide +kernel)
theorem kim_X11_judge : Cond.instanceMethod yX11_judge ∈ Tg := mT 797 (by decide +kernel) (by decide +kernel)
theorem kse_X11_judge : Cond.selects RX11 yX11_judge yX11_judge ∈ Tg := mT 798 (by decide +kernel) (by decide +kernel)
theorem kcd_X11_judge : Cond.code yX11_judge cX11_judge 4 (some .int) ∈ Tg := mT 799 (by decide +kernel) (by decide +kernel)
theorem ds_X11_judge : dsc yX11_judge.cls yX11_judge.desc 1 := ⟨by decide +kernel, by decide +kernel, by decide +kernel⟩
theorem kml_L_134 : Cond.methodLink RL 134 yX12_judge ∈ Tg := mT 1397 (by decide +kernel) (by decide +kernel)
theorem kim_X12_judge : Cond.instanceMethod yX12_judge ∈ Tg := mT 1398 (by decide +kernel) (by decide +kernel)
theorem kse_X12_judge : Cond.selects RX12 yX12_judge yX12_judge ∈ Tg := mT 1399 (by decide +kernel) (by decide +kernel)
theorem kcd_X12_judge : Cond.code yX12_judge cX12_judge 4 (some .int) ∈ Tg := mT 1400 (by decide +kernel) (by decide +kernel)
theorem ds_X12_judge : dsc yX12_judge.cls yX12_judge.desc 1 := ⟨by decide +kernel, by decide +kernel, by decide +kernel⟩
theorem kml_L_135 : Cond.methodLink RL 135 yX11_seasons ∈ Tg := mT 800 (by decide +kernel) (by decide +kernel)
theorem kim_X11_seasons : Cond.instanceMethod yX11_seasons ∈ Tg := mT 801 (by decide +kernel) (by decide +kernel)
theorem kse_X11_seasons : Cond.selects RX11 yX11_seasons yX11_seasons ∈ Tg := mT 802 (by decide +kernel) (by decide +kernel)
theorem kcd_X11_seasons : Cond.code yX11_seasons cX11_seasons 9 (some .int) ∈ Tg := mT 803 (by decide +kernel) (by decide +kernel)
theorem ds_X11_seasons : dsc yX11_seasons.cls yX11_seasons.desc 3 := ⟨by decide +kernel, by decide +kernel, by decide +kernel⟩
theorem kml_L_138 : Cond.methodLink RL 138 yX12_seasons ∈ Tg := mT 1401 (by decide +kernel) (by decide +kernel)
theorem kim_X12_seasons : Cond.instanceMethod yX12_seasons ∈ Tg := mT 1402 (by decide +kernel) (by decide +kernel)
theorem kse_X12_seasons : Cond.selects RX12 yX12_seasons yX12_seasons ∈ Tg := mT 1403 (by decide +kernel) (by decide +kernel)
theorem kcd_X12_seasons : Cond.code yX12_seasons cX12_seasons 7 (some .int) ∈ Tg := mT 1404 (by decide +kernel) (by decide +kernel)
theorem ds_X12_seasons : dsc yX12_seasons.cls yX12_seasons.desc 3 := ⟨by decide +kernel, by decide +kernel, by decide +kernel⟩
theorem kml_L_139 : Cond.methodLink RL 139 yX11_image ∈ Tg := mT 813 (by decide +kernel) (by decide +kernel)
theorem kim_X11_image : Cond.instanceMethod yX11_image ∈ Tg := mT 814 (by decide +kernel) (by decide +kernel)
theorem kse_X11_image : Cond.selects RX11 yX11_image yX11_image ∈ Tg := mT 815 (by decide +kernel) (by decide +kernel)
theorem kcd_X11_image : Cond.code yX11_image cX11_image 1 (some .int) ∈ Tg := mT 816 (by decide +kernel) (by decide +kernel)
theorem ds_X11_image : dsc yX11_image.cls yX11_image.desc 0 := ⟨by decide +kernel, by decide +kernel, by decide +kernel⟩
theorem kml_L_142 : Cond.methodLink RL 142 yX12_image ∈ Tg := mT 1415 (by decide +kernel) (by decide +kernel)
theorem kim_X12_image : Cond.instanceMethod yX12_image ∈ Tg := mT 1416 (by decide +kernel) (by decide +kernel)
theorem kse_X12_image : Cond.selects RX12 yX12_image yX12_image ∈ Tg := mT 1417 (by decide +kernel) (by decide +kernel)
theorem kcd_X12_image : Cond.code yX12_image cX12_image 1 (some .int) ∈ Tg := mT 1418 (by decide +kernel) (by decide +kernel)
theorem ds_X12_image : dsc yX12_image.cls yX12_image.desc 0 := ⟨by decide +kernel, by decide +kernel, by decide +kernel⟩
theorem kml_L_143 : Cond.methodLink RL 143 yX11_restore ∈ Tg := mT 817 (by decide +kernel) (by decide +kernel)
theorem kim_X11_restore : Cond.instanceMethod yX11_restore ∈ Tg := mT 818 (by decide +kernel) (by decide +kernel)
theorem kse_X11_restore : Cond.selects RX11 yX11_restore yX11_restore ∈ Tg := mT 819 (by decide +kernel) (by decide +kernel)
theorem kcd_X11_restore : Cond.code yX11_restore cX11_restore 1 (some .int) ∈ Tg := mT 820 (by decide +kernel) (by decide +kernel)
theorem ds_X11_restore : dsc yX11_restore.cls yX11_restore.desc 0 := ⟨by decide +kernel, by decide +kernel, by decide +kernel⟩
theorem kml_L_146 : Cond.methodLink RL 146 yX12_restore ∈ Tg := mT 1419 (by decide +kernel) (by decide +kernel)
theorem kim_X12_restore : Cond.instanceMethod yX12_restore ∈ Tg := mT 1420 (by decide +kernel) (by decide +kernel)
theorem kse_X12_restore : Cond.selects RX12 yX12_restore yX12_restore ∈ Tg := mT 1421 (by decide +kernel) (by decide +kernel)
theorem kcd_X12_restore : Cond.code yX12_restore cX12_restore 1 (some .int) ∈ Tg := mT 1422 (by decide +kernel) (by decide +kernel)
theorem ds_X12_restore : dsc yX12_restore.cls yX12_restore.desc 0 := ⟨by decide +kernel, by decide +kernel, by decide +kernel⟩
theorem kml_L_147 : Cond.methodLink RL 147 yX11_count ∈ Tg := mT 821 (by decide +kernel) (by decide +kernel)
theorem kim_X11_count : Cond.instanceMethod yX11_count ∈ Tg := mT 822 (by decide +kernel) (by decide +kernel)
theorem kse_X11_count : Cond.selects RX11 yX11_count yX11_count ∈ Tg := mT 823 (by decide +kernel) (by decide +kernel)
theorem kcd_X11_count : Cond.code yX11_count cX11_count 2 (some .int) ∈ Tg := mT 824 (by decide +kernel) (by decide +kernel)
theorem ds_X11_count : dsc yX11_count.cls yX11_count.desc 1 := ⟨by decide +kernel, by decide +kernel, by decide +kernel⟩
theorem kml_L_150 : Cond.methodLink RL 150 yX12_count ∈ Tg := mT 1423 (by decide +kernel) (by decide +kernel)
theorem kim_X12_count : Cond.instanceMethod yX12_count ∈ Tg := mT 1424 (by decide +kernel) (by decide +kernel)
theorem kse_X12_count : Cond.selects RX12 yX12_count yX12_count ∈ Tg := mT 1425 (by decide +kernel) (by decide +kernel)
theorem kcd_X12_count : Cond.code yX12_count cX12_count 2 (some .int) ∈ Tg := mT 1426 (by decide +kernel) (by decide +kernel)
theorem ds_X12_count : dsc yX12_count.cls yX12_count.desc 1 := ⟨by decide +kernel, by decide +kernel, by decide +kernel⟩
theorem kml_L_151 : Cond.methodLink RL 151 yX11_keep ∈ Tg := mT 825 (by decide +kernel) (by decide +kernel)
theorem kim_X11_keep : Cond.instanceMethod yX11_keep ∈ Tg := mT 826 (by decide +kernel) (by decide +kernel)
theorem kse_X11_keep : Cond.selects RX11 yX11_keep yX11_keep ∈ Tg := mT 827 (by decide +kernel) (by decide +kernel)
theorem kcd_X11_keep : Cond.code yX11_keep cX11_keep 5 (some .int) ∈ Tg := mT 828 (by decide +kernel) (by decide +kernel)
theorem ds_X11_keep : dsc yX11_keep.cls yX11_keep.desc 4 := ⟨by decide +kernel, by decide +kernel, by decide +kernel⟩
theorem kml_L_155 : Cond.methodLink RL 155 yX12_keep ∈ Tg := mT 1431 (by decide +kernel) (by decide +kernel)
theorem kim_X12_keep : Cond.instanceMethod yX12_keep ∈ Tg := mT 1432 (by decide +kernel) (by decide +kernel)
theorem kse_X12_keep : Cond.selects RX12 yX12_keep yX12_keep ∈ Tg := mT 1433 (by decide +kernel) (by decide +kernel)
theorem kcd_X12_keep : Cond.code yX12_keep cX12_keep 5 (some .int) ∈ Tg := mT 1434 (by decide +kernel) (by decide +kernel)
theorem ds_X12_keep : dsc yX12_keep.cls yX12_keep.desc 4 := ⟨by decide +kernel, by decide +kernel, by decide +kernel⟩
theorem kml_L_156 : Cond.methodLink RL 156 yX11_row ∈ Tg := mT 829 (by decide +kernel) (by decide +kernel)
theorem kim_X11_row : Cond.instanceMethod yX11_row ∈ Tg := mT 830 (by decide +kernel) (by decide +kernel)
theorem kse_X11_row : Cond.selects RX11 yX11_row yX11_row ∈ Tg := mT 831 (by decide +kernel) (by decide +kernel)
theorem kcd_X11_row : Cond.code yX11_row cX11_row 4 (some .int) ∈ Tg := mT 832 (by decide +kernel) (by decide +kernel)
theorem ds_X11_row : dsc yX11_row.cls yX11_row.desc 3 := ⟨by decide +kernel, by decide +kernel, by decide +kernel⟩
theorem kml_L_159 : Cond.methodLink RL 159 yX12_row ∈ Tg := mT 1435 (by decide +kernel) (by decide +kernel)
theorem kim_X12_row : Cond.instanceMethod yX12_row ∈ Tg := mT 1436 (by decide +kernel) (by decide +kernel)
theorem kse_X12_row : Cond.selects RX12 yX12_row yX12_row ∈ Tg := mT 1437 (by decide +kernel) (by decide +kernel)
theorem kcd_X12_row : Cond.code yX12_row cX12_row 5 (some .int) ∈ Tg := mT 1438 (by decide +kernel) (by decide +kernel)
theorem ds_X12_row : dsc yX12_row.cls yX12_row.desc 3 := ⟨by decide +kernel, by decide +kernel, by decide +kernel⟩
theorem kml_L_160 : Cond.methodLink RL 160 yX11_put ∈ Tg := mT 847 (by decide +kernel) (by decide +kernel)
theorem kim_X11_put : Cond.instanceMethod yX11_put ∈ Tg := mT 848 (by decide +kernel) (by decide +kernel)
theorem kse_X11_put : Cond.selects RX11 yX11_put yX11_put ∈ Tg := mT 849 (by decide +kernel) (by decide +kernel)
theorem kcd_X11_put : Cond.code yX11_put cX11_put 5 (some .int) ∈ Tg := mT 850 (by decide +kernel) (by decide +kernel)
theorem ds_X11_put : dsc yX11_put.cls yX11_put.desc 3 := ⟨by decide +kernel, by decide +kernel, by decide +kernel⟩
theorem kml_L_163 : Cond.methodLink RL 163 yX12_put ∈ Tg := mT 1439 (by decide +kernel) (by decide +kernel)
theorem kim_X12_put : Cond.instanceMethod yX12_put ∈ Tg := mT 1440 (by decide +kernel) (by decide +kernel)
theorem kse_X12_put : Cond.selects RX12 yX12_put yX12_put ∈ Tg := mT 1441 (by decide +kernel) (by decide +kernel)
theorem kcd_X12_put : Cond.code yX12_put cX12_put 5 (some .int) ∈ Tg := mT 1442 (by decide +kernel) (by decide +kernel)
theorem ds_X12_put : dsc yX12_put.cls yX12_put.desc 3 := ⟨by decide +kernel, by decide +kernel, by decide +kernel⟩
theorem kml_L_164 : Cond.methodLink RL 164 yL_element ∈ Tg := mT 1043 (by decide +kernel) (by decide +kernel)
theorem kest_L_element : Cond.static yL_element ∈ Tg := mT 1044 (by decide +kernel) (by decide +kernel)
theorem kii_L : Cond.initialized yL_element.cls ∈ Tg := mT 46 (by decide +kernel) (by decide +kernel)
theorem ds_L_element : dsc yL_element.cls yL_element.desc 4 := ⟨by decide +kernel, by decide +kernel, by decide +kernel⟩
theorem kml_L_169 : Cond.methodLink RL 169 yX12_element ∈ Tg := mT 1443 (by decide +kernel) (by decide +kernel)
theorem kim_X12_element : Cond.instanceMethod yX12_element ∈ Tg := mT 1444 (by decide +kernel) (by decide +kernel)
theorem kse_X12_element : Cond.selects RX12 yX12_element yX12_element ∈ Tg := mT 1445 (by decide +kernel) (by decide +kernel)
theorem kcd_X12_element : Cond.code yX12_element cX12_element 3 (some .long) ∈ Tg := mT 1446 (by decide +kernel) (by decide +kernel)
theorem ds_X12_element : dsc yX12_element.cls yX12_element.desc 2 := ⟨by decide +kernel, by decide +kernel, by decide +kernel⟩
theorem kml_L_170 : Cond.methodLink RL 170 yX12_thrown ∈ Tg := mT 1427 (by decide +kernel) (by decide +kernel)
theorem kim_X12_thrown : Cond.instanceMethod yX12_thrown ∈ Tg := mT 1428 (by decide +kernel) (by decide +kernel)
theorem kse_X12_thrown : Cond.selects RX12 yX12_thrown yX12_thrown ∈ Tg := mT 1429 (by decide +kernel) (by decide +kernel)
theorem kcd_X12_thrown : Cond.code yX12_thrown cX12_thrown 1 (some .int) ∈ Tg := mT 1430 (by decide +kernel) (by decide +kernel)
theorem ds_X12_thrown : dsc yX12_thrown.cls yX12_thrown.desc 0 := ⟨by decide +kernel, by decide +kernel, by decide +kernel⟩
theorem kml_L_173 : Cond.methodLink RL 173 yX11_copy ∈ Tg := mT 860 (by decide +kernel) (by decide +kernel)
theorem kim_X11_copy : Cond.instanceMethod yX11_copy ∈ Tg := mT 861 (by decide +kernel) (by decide +kernel)
theorem kse_X11_copy : Cond.selects RX11 yX11_copy yX11_copy ∈ Tg := mT 862 (by decide +kernel) (by decide +kernel)
theorem kcd_X11_copy : Cond.code yX11_copy cX11_copy 8 (some .int) ∈ Tg := mT 863 (by decide +kernel) (by decide +kernel)
theorem ds_X11_copy : dsc yX11_copy.cls yX11_copy.desc 5 := ⟨by decide +kernel, by decide +kernel, by decide +kernel⟩
theorem kml_L_177 : Cond.methodLink RL 177 yX12_copy ∈ Tg := mT 1447 (by decide +kernel) (by decide +kernel)
theorem kim_X12_copy : Cond.instanceMethod yX12_copy ∈ Tg := mT 1448 (by decide +kernel) (by decide +kernel)
theorem kse_X12_copy : Cond.selects RX12 yX12_copy yX12_copy ∈ Tg := mT 1449 (by decide +kernel) (by decide +kernel)
theorem kcd_X12_copy : Cond.code yX12_copy cX12_copy 8 (some .int) ∈ Tg := mT 1450 (by decide +kernel) (by decide +kernel)
theorem ds_X12_copy : dsc yX12_copy.cls yX12_copy.desc 5 := ⟨by decide +kernel, by decide +kernel, by decide +kernel⟩
theorem kml_L_178 : Cond.methodLink RL 178 yX11_cost ∈ Tg := mT 880 (by decide +kernel) (by decide +kernel)
theorem kim_X11_cost : Cond.instanceMethod yX11_cost ∈ Tg := mT 881 (by decide +kernel) (by decide +kernel)
theorem kse_X11_cost : Cond.selects RX11 yX11_cost yX11_cost ∈ Tg := mT 882 (by decide +kernel) (by decide +kernel)
theorem kcd_X11_cost : Cond.code yX11_cost cX11_cost 3 (some .int) ∈ Tg := mT 883 (by decide +kernel) (by decide +kernel)
theorem ds_X11_cost : dsc yX11_cost.cls yX11_cost.desc 1 := ⟨by decide +kernel, by decide +kernel, by decide +kernel⟩
theorem kml_L_181 : Cond.methodLink RL 181 yX12_cost ∈ Tg := mT 1451 (by decide +kernel) (by decide +kernel)
theorem kim_X12_cost : Cond.instanceMethod yX12_cost ∈ Tg := mT 1452 (by decide +kernel) (by decide +kernel)
theorem kse_X12_cost : Cond.selects RX12 yX12_cost yX12_cost ∈ Tg := mT 1453 (by decide +kernel) (by decide +kernel)
theorem kcd_X12_cost : Cond.code yX12_cost cX12_cost 3 (some .int) ∈ Tg := mT 1454 (by decide +kernel) (by decide +kernel)
theorem ds_X12_cost : dsc yX12_cost.cls yX12_cost.desc 1 := ⟨by decide +kernel, by decide +kernel, by decide +kernel⟩
theorem kml_L_182 : Cond.methodLink RL 182 yX11_toss ∈ Tg := mT 915 (by decide +kernel) (by decide +kernel)
theorem kim_X11_toss : Cond.instanceMethod yX11_toss ∈ Tg := mT 916 (by decide +kernel) (by decide +kernel)
theorem kse_X11_toss : Cond.selects RX11 yX11_toss yX11_toss ∈ Tg := mT 917 (by decide +kernel) (by decide +kernel)
theorem kcd_X11_toss : Cond.code yX11_toss cX11_toss 3 (some .int) ∈ Tg := mT 918 (by decide +kernel) (by decide +kernel)
theorem ds_X11_toss : dsc yX11_toss.cls yX11_toss.desc 1 := ⟨by decide +kernel, by decide +kernel, by decide +kernel⟩
theorem kml_L_185 : Cond.methodLink RL 185 yX12_toss ∈ Tg := mT 1458 (by decide +kernel) (by decide +kernel)
theorem kim_X12_toss : Cond.instanceMethod yX12_toss ∈ Tg := mT 1459 (by decide +kernel) (by decide +kernel)
theorem kse_X12_toss : Cond.selects RX12 yX12_toss yX12_toss ∈ Tg := mT 1460 (by decide +kernel) (by decide +kernel)
theorem kcd_X12_toss : Cond.code yX12_toss cX12_toss 5 (some .int) ∈ Tg := mT 1461 (by decide +kernel) (by decide +kernel)
theorem ds_X12_toss : dsc yX12_toss.cls yX12_toss.desc 1 := ⟨by decide +kernel, by decide +kernel, by decide +kernel⟩
abbrev p_L_law (X : GX) (h0 : AH) : PX Int32 := (X, (fun x => Sum.inl (rI x)), (9, 180, 8), h0)
def f_L_c0 (b Ls : Nat) (xs : Nat → Int32) (K : AH → Option (Int32 × AH)) (v1 v2 v3 : Option Nat) (x4 : Int32) (h : AH) : Option (Int32 × AH) :=
    (scA b Ls xs b (x4 + 1)).bind fun t1 =>
    bd (cv h v1 11 (f_X11_house v1 t1 h)) fun r3 h2 =>
    (scA b Ls xs b (x4 + 1)).bind fun t4 =>
    bd (cv h2 v2 12 (f_X12_house v2 t4 h2)) fun r6 h5 =>
    (if r3 = r6 then
    K h5
    else some (0, h5))
set_option maxRecDepth 100000 in
set_option maxHeartbeats 4000000 in
theorem s_L_c0 {mn : String} {X : GX} (hX : XOK X) {b Ls : Nat} {xs : Nat → Int32} (hs : Scr X b Ls xs) {h0 : AH} {K : AH → Option (Int32 × AH)} {v1 v2 v3 : Option Nat} {x4 : Int32} (hK : ∀ h, Gp (p_L_law X h0) RL mn cL_law (some .boolean) 1550 [(0, vV (.ref b)), (1, vR v1), (2, vR v2), (3, vR v3), (4, vI x4)] [] h (K h)) (h : AH) : Gp (p_L_law X h0) RL mn cL_law (some .boolean) 208 [(0, vV (.ref b)), (1, vR v1), (2, vR v2), (3, vR v3), (4, vI x4)] [] h (f_L_c0 b Ls xs K v1 v2 v3 x4 h) := by
  unfold f_L_c0
  refine g_aload_n 1 dL_law_208 rfl rfl ?_
  refine g_aloadV 0 dL_law_209 rfl rfl ?_
  refine g_iload 4 dL_law_210 rfl ?_
  refine g_iconst (v := 1) dL_law_212 (by decide) ?_
  refine g_iadd dL_law_213 ?_
  refine g_scA hs dL_law_214 (fun t1 => ?_)
  refine g_callVI (st := []) (ci := 11) rfl (s_X11_house hX v1 t1 h) kml_L_21 kim_X11_house kse_X11_house kii_X11 kcd_X11_house rfl ds_X11_house rfl ⟨Nat.le_of_ble_eq_true rfl, Nat.le_of_ble_eq_true rfl⟩ (Nat.le_of_ble_eq_true rfl) rfl dL_law_215 (fun r3 h2 => ?_)
  refine g_aload_n 2 dL_law_218 rfl rfl ?_
  refine g_aloadV 0 dL_law_219 rfl rfl ?_
  refine g_iload 4 dL_law_220 rfl ?_
  refine g_iconst (v := 1) dL_law_222 (by decide) ?_
  refine g_iadd dL_law_223 ?_
  refine g_scA hs dL_law_224 (fun t4 => ?_)
  refine g_callVI (st := [vI r3]) (ci := 12) rfl (s_X12_house hX v2 t4 h2) kml_L_25 kim_X12_house kse_X12_house kii_X12 kcd_X12_house rfl ds_X12_house rfl ⟨Nat.le_of_ble_eq_true rfl, Nat.le_of_ble_eq_true rfl⟩ (Nat.le_of_ble_eq_true rfl) rfl dL_law_225 (fun r6 h5 => ?_)
  refine g_icmpeq (tgt := 1550) dL_law_228 (by decide) ?_ ?_
  · exact g_sub2 [0, 1, 2, 3, 4] rfl (hK h5)
  · refine g_iconst (v := 0) dL_law_231 (by decide) ?_
    exact g_zreturn (by decide +kernel) rfl dL_law_232
def f_L_c1 (b Ls : Nat) (xs : Nat → Int32) (K : AH → Option (Int32 × AH)) (v1 v2 v3 : Option Nat) (x4 : Int32) (h : AH) : Option (Int32 × AH) :=
    (scA b Ls xs b (x4 + 1)).bind fun t7 =>
    (scA b Ls xs b (x4 + 2)).bind fun t8 =>
    bd (cv h v1 11 (f_X11_guest v1 t7 t8 h)) fun r10 h9 =>
    (scA b Ls xs b (x4 + 1)).bind fun t11 =>
    (scA b Ls xs b (x4 + 2)).bind fun t12 =>
    bd (cv h9 v2 12 (f_X12_guest v2 t11 t12 h9)) fun r14 h13 =>
    (if r10 = r14 then
    K h13
    else some (0, h13))
set_option maxRecDepth 100000 in
set_option maxHeartbeats 4000000 in
theorem s_L_c1 {mn : String} {X : GX} (hX : XOK X) {b Ls : Nat} {xs : Nat → Int32} (hs : Scr X b Ls xs) {h0 : AH} {K : AH → Option (Int32 × AH)} {v1 v2 v3 : Option Nat} {x4 : Int32} (hK : ∀ h, Gp (p_L_law X h0) RL mn cL_law (some .boolean) 1550 [(0, vV (.ref b)), (1, vR v1), (2, vR v2), (3, vR v3), (4, vI x4)] [] h (K h)) (h : AH) : Gp (p_L_law X h0) RL mn cL_law (some .boolean) 233 [(0, vV (.ref b)), (1, vR v1), (2, vR v2), (3, vR v3), (4, vI x4)] [] h (f_L_c1 b Ls xs K v1 v2 v3 x4 h) := by
  unfold f_L_c1
  refine g_aload_n 1 dL_law_233 rfl rfl ?_
  refine g_aloadV 0 dL_law_234 rfl rfl ?_
  refine g_iload 4 dL_law_235 rfl ?_
  refine g_iconst (v := 1) dL_law_237 (by decide) ?_
  refine g_iadd dL_law_238 ?_
  refine g_scA hs dL_law_239 (fun t7 => ?_)
  refine g_aloadV 0 dL_law_240 rfl rfl ?_
  refine g_iload 4 dL_law_241 rfl ?_
  refine g_iconst (v := 2) dL_law_243 (by decide) ?_
  refine g_iadd dL_law_244 ?_
  refine g_scA hs dL_law_245 (fun t8 => ?_)
  refine g_callVI (st := []) (ci := 11) rfl (s_X11_guest hX v1 t7 t8 h) kml_L_26 kim_X11_guest kse_X11_guest kii_X11 kcd_X11_guest rfl ds_X11_guest rfl ⟨Nat.le_of_ble_eq_true rfl, Nat.le_of_ble_eq_true rfl⟩ (Nat.le_of_ble_eq_true rfl) rfl dL_law_246 (fun r10 h9 => ?_)
  refine g_aload_n 2 dL_law_249 rfl rfl ?_
  refine g_aloadV 0 dL_law_250 rfl rfl ?_
  refine g_iload 4 dL_law_251 rfl ?_
  refine g_iconst (v := 1) dL_law_253 (by decide) ?_
  refine g_iadd dL_law_254 ?_
  refine g_scA hs dL_law_255 (fun t11 => ?_)
  refine g_aloadV 0 dL_law_256 rfl rfl ?_
  refine g_iload 4 dL_law_257 rfl ?_
  refine g_iconst (v := 2) dL_law_259 (by decide) ?_
  refine g_iadd dL_law_260 ?_
  refine g_scA hs dL_law_261 (fun t12 => ?_)
  refine g_callVI (st := [vI r10]) (ci := 12) rfl (s_X12_guest hX v2 t11 t12 h9) kml_L_30 kim_X12_guest kse_X12_guest kii_X12 kcd_X12_guest rfl ds_X12_guest rfl ⟨Nat.le_of_ble_eq_true rfl, Nat.le_of_ble_eq_true rfl⟩ (Nat.le_of_ble_eq_true rfl) rfl dL_law_262 (fun r14 h13 => ?_)
  refine g_icmpeq (tgt := 1550) dL_law_265 (by decide) ?_ ?_
  · exact g_sub2 [0, 1, 2, 3, 4] rfl (hK h13)
  · refine g_iconst (v := 0) dL_law_268 (by decide) ?_
    exact g_zreturn (by decide +kernel) rfl dL_law_269
def f_L_c2 (b Ls : Nat) (xs : Nat → Int32) (K : AH → Option (Int32 × AH)) (v1 v2 v3 : Option Nat) (x4 : Int32) (h : AH) : Option (Int32 × AH) :=
    (scA b Ls xs b (x4 + 1)).bind fun t15 =>
    (scA b Ls xs b (x4 + 2)).bind fun t16 =>
    bd (cv h v1 11 (f_X11_comes v1 t15 t16 h)) fun r18 h17 =>
    (scA b Ls xs b (x4 + 1)).bind fun t19 =>
    (scA b Ls xs b (x4 + 2)).bind fun t20 =>
    bd (cv h17 v2 12 (f_X12_comes v2 t19 t20 h17)) fun r22 h21 =>
    (if r18 = r22 then
    K h21
    else some (0, h21))
set_option maxRecDepth 100000 in
set_option maxHeartbeats 4000000 in
theorem s_L_c2 {mn : String} {X : GX} (hX : XOK X) {b Ls : Nat} {xs : Nat → Int32} (hs : Scr X b Ls xs) {h0 : AH} {K : AH → Option (Int32 × AH)} {v1 v2 v3 : Option Nat} {x4 : Int32} (hK : ∀ h, Gp (p_L_law X h0) RL mn cL_law (some .boolean) 1550 [(0, vV (.ref b)), (1, vR v1), (2, vR v2), (3, vR v3), (4, vI x4)] [] h (K h)) (h : AH) : Gp (p_L_law X h0) RL mn cL_law (some .boolean) 270 [(0, vV (.ref b)), (1, vR v1), (2, vR v2), (3, vR v3), (4, vI x4)] [] h (f_L_c2 b Ls xs K v1 v2 v3 x4 h) := by
  unfold f_L_c2
  refine g_aload_n 1 dL_law_270 rfl rfl ?_
  refine g_aloadV 0 dL_law_271 rfl rfl ?_
  refine g_iload 4 dL_law_272 rfl ?_
  refine g_iconst (v := 1) dL_law_274 (by decide) ?_
  refine g_iadd dL_law_275 ?_
  refine g_scA hs dL_law_276 (fun t15 => ?_)
  refine g_aloadV 0 dL_law_277 rfl rfl ?_
  refine g_iload 4 dL_law_278 rfl ?_
  refine g_iconst (v := 2) dL_law_280 (by decide) ?_
  refine g_iadd dL_law_281 ?_
  refine g_scA hs dL_law_282 (fun t16 => ?_)
  refine g_callVI (st := []) (ci := 11) rfl (s_X11_comes hX v1 t15 t16 h) kml_L_31 kim_X11_comes kse_X11_comes kii_X11 kcd_X11_comes rfl ds_X11_comes rfl ⟨Nat.le_of_ble_eq_true rfl, Nat.le_of_ble_eq_true rfl⟩ (Nat.le_of_ble_eq_true rfl) rfl dL_law_283 (fun r18 h17 => ?_)
  refine g_aload_n 2 dL_law_286 rfl rfl ?_
  refine g_aloadV 0 dL_law_287 rfl rfl ?_
  refine g_iload 4 dL_law_288 rfl ?_
  refine g_iconst (v := 1) dL_law_290 (by decide) ?_
  refine g_iadd dL_law_291 ?_
  refine g_scA hs dL_law_292 (fun t19 => ?_)
  refine g_aloadV 0 dL_law_293 rfl rfl ?_
  refine g_iload 4 dL_law_294 rfl ?_
  refine g_iconst (v := 2) dL_law_296 (by decide) ?_
  refine g_iadd dL_law_297 ?_
  refine g_scA hs dL_law_298 (fun t20 => ?_)
  refine g_callVI (st := [vI r18]) (ci := 12) rfl (s_X12_comes hX v2 t19 t20 h17) kml_L_34 kim_X12_comes kse_X12_comes kii_X12 kcd_X12_comes rfl ds_X12_comes rfl ⟨Nat.le_of_ble_eq_true rfl, Nat.le_of_ble_eq_true rfl⟩ (Nat.le_of_ble_eq_true rfl) rfl dL_law_299 (fun r22 h21 => ?_)
  refine g_icmpeq (tgt := 1550) dL_law_302 (by decide) ?_ ?_
  · exact g_sub2 [0, 1, 2, 3, 4] rfl (hK h21)
  · refine g_iconst (v := 0) dL_law_305 (by decide) ?_
    exact g_zreturn (by decide +kernel) rfl dL_law_306
def f_L_c3 (b Ls : Nat) (xs : Nat → Int32) (K : AH → Option (Int32 × AH)) (v1 v2 v3 : Option Nat) (x4 : Int32) (h : AH) : Option (Int32 × AH) :=
    (scA b Ls xs b (x4 + 1)).bind fun t23 =>
    bd (cv h v1 11 (f_X11_tells v1 t23 h)) fun r25 h24 =>
    (scA b Ls xs b (x4 + 1)).bind fun t26 =>
    bd (cv h24 v2 12 (f_X12_tells v2 t26 h24)) fun r28 h27 =>
    (if r25 = r28 then
    K h27
    else some (0, h27))
set_option maxRecDepth 100000 in
set_option maxHeartbeats 4000000 in
theorem s_L_c3 {mn : String} {X : GX} (hX : XOK X) {b Ls : Nat} {xs : Nat → Int32} (hs : Scr X b Ls xs) {h0 : AH} {K : AH → Option (Int32 × AH)} {v1 v2 v3 : Option Nat} {x4 : Int32} (hK : ∀ h, Gp (p_L_law X h0) RL mn cL_law (some .boolean) 1550 [(0, vV (.ref b)), (1, vR v1), (2, vR v2), (3, vR v3), (4, vI x4)] [] h (K h)) (h : AH) : Gp (p_L_law X h0) RL mn cL_law (some .boolean) 307 [(0, vV (.ref b)), (1, vR v1), (2, vR v2), (3, vR v3), (4, vI x4)] [] h (f_L_c3 b Ls xs K v1 v2 v3 x4 h) := by
  unfold f_L_c3
  refine g_aload_n 1 dL_law_307 rfl rfl ?_
  refine g_aloadV 0 dL_law_308 rfl rfl ?_
  refine g_iload 4 dL_law_309 rfl ?_
  refine g_iconst (v := 1) dL_law_311 (by decide) ?_
  refine g_iadd dL_law_312 ?_
  refine g_scA hs dL_law_313 (fun t23 => ?_)
  refine g_callVI (st := []) (ci := 11) rfl (s_X11_tells hX v1 t23 h) kml_L_35 kim_X11_tells kse_X11_tells kii_X11 kcd_X11_tells rfl ds_X11_tells rfl ⟨Nat.le_of_ble_eq_true rfl, Nat.le_of_ble_eq_true rfl⟩ (Nat.le_of_ble_eq_true rfl) rfl dL_law_314 (fun r25 h24 => ?_)
  refine g_aload_n 2 dL_law_317 rfl rfl ?_
  refine g_aloadV 0 dL_law_318 rfl rfl ?_
  refine g_iload 4 dL_law_319 rfl ?_
  refine g_iconst (v := 1) dL_law_321 (by decide) ?_
  refine g_iadd dL_law_322 ?_
  refine g_scA hs dL_law_323 (fun t26 => ?_)
  refine g_callVI (st := [vI r25]) (ci := 12) rfl (s_X12_tells hX v2 t26 h24) kml_L_38 kim_X12_tells kse_X12_tells kii_X12 kcd_X12_tells rfl ds_X12_tells rfl ⟨Nat.le_of_ble_eq_true rfl, Nat.le_of_ble_eq_true rfl⟩ (Nat.le_of_ble_eq_true rfl) rfl dL_law_324 (fun r28 h27 => ?_)
  refine g_icmpeq (tgt := 1550) dL_law_327 (by decide) ?_ ?_
  · exact g_sub2 [0, 1, 2, 3, 4] rfl (hK h27)
  · refine g_iconst (v := 0) dL_law_330 (by decide) ?_
    exact g_zreturn (by decide +kernel) rfl dL_law_331
def f_L_c4 (b Ls : Nat) (xs : Nat → Int32) (K : AH → Option (Int32 × AH)) (v1 v2 v3 : Option Nat) (x4 : Int32) (h : AH) : Option (Int32 × AH) :=
    (scA b Ls xs b (x4 + 1)).bind fun t29 =>
    (scA b Ls xs b (x4 + 2)).bind fun t30 =>
    (scA b Ls xs b (x4 + 3)).bind fun t31 =>
    bd (cv h v1 11 (f_X11_lends v1 t29 t30 t31 h)) fun r33 h32 =>
    (scA b Ls xs b (x4 + 1)).bind fun t34 =>
    (scA b Ls xs b (x4 + 2)).bind fun t35 =>
    (scA b Ls xs b (x4 + 3)).bind fun t36 =>
    bd (cv h32 v2 12 (f_X12_lends v2 t34 t35 t36 h32)) fun r38 h37 =>
    (if r33 = r38 then
    K h37
    else some (0, h37))
set_option maxRecDepth 100000 in
set_option maxHeartbeats 4000000 in
theorem s_L_c4 {mn : String} {X : GX} (hX : XOK X) {b Ls : Nat} {xs : Nat → Int32} (hs : Scr X b Ls xs) {h0 : AH} {K : AH → Option (Int32 × AH)} {v1 v2 v3 : Option Nat} {x4 : Int32} (hK : ∀ h, Gp (p_L_law X h0) RL mn cL_law (some .boolean) 1550 [(0, vV (.ref b)), (1, vR v1), (2, vR v2), (3, vR v3), (4, vI x4)] [] h (K h)) (h : AH) : Gp (p_L_law X h0) RL mn cL_law (some .boolean) 332 [(0, vV (.ref b)), (1, vR v1), (2, vR v2), (3, vR v3), (4, vI x4)] [] h (f_L_c4 b Ls xs K v1 v2 v3 x4 h) := by
  unfold f_L_c4
  refine g_aload_n 1 dL_law_332 rfl rfl ?_
  refine g_aloadV 0 dL_law_333 rfl rfl ?_
  refine g_iload 4 dL_law_334 rfl ?_
  refine g_iconst (v := 1) dL_law_336 (by decide) ?_
  refine g_iadd dL_law_337 ?_
  refine g_scA hs dL_law_338 (fun t29 => ?_)
  refine g_aloadV 0 dL_law_339 rfl rfl ?_
  refine g_iload 4 dL_law_340 rfl ?_
  refine g_iconst (v := 2) dL_law_342 (by decide) ?_
  refine g_iadd dL_law_343 ?_
  refine g_scA hs dL_law_344 (fun t30 => ?_)
  refine g_aloadV 0 dL_law_345 rfl rfl ?_
  refine g_iload 4 dL_law_346 rfl ?_
  refine g_iconst (v := 3) dL_law_348 (by decide) ?_
  refine g_iadd dL_law_349 ?_
  refine g_scA hs dL_law_350 (fun t31 => ?_)
  refine g_callVI (st := []) (ci := 11) rfl (s_X11_lends hX v1 t29 t30 t31 h) kml_L_39 kim_X11_lends kse_X11_lends kii_X11 kcd_X11_lends rfl ds_X11_lends rfl ⟨Nat.le_of_ble_eq_true rfl, Nat.le_of_ble_eq_true rfl⟩ (Nat.le_of_ble_eq_true rfl) rfl dL_law_351 (fun r33 h32 => ?_)
  refine g_aload_n 2 dL_law_354 rfl rfl ?_
  refine g_aloadV 0 dL_law_355 rfl rfl ?_
  refine g_iload 4 dL_law_356 rfl ?_
  refine g_iconst (v := 1) dL_law_358 (by decide) ?_
  refine g_iadd dL_law_359 ?_
  refine g_scA hs dL_law_360 (fun t34 => ?_)
  refine g_aloadV 0 dL_law_361 rfl rfl ?_
  refine g_iload 4 dL_law_362 rfl ?_
  refine g_iconst (v := 2) dL_law_364 (by decide) ?_
  refine g_iadd dL_law_365 ?_
  refine g_scA hs dL_law_366 (fun t35 => ?_)
  refine g_aloadV 0 dL_law_367 rfl rfl ?_
  refine g_iload 4 dL_law_368 rfl ?_
  refine g_iconst (v := 3) dL_law_370 (by decide) ?_
  refine g_iadd dL_law_371 ?_
  refine g_scA hs dL_law_372 (fun t36 => ?_)
  refine g_callVI (st := [vI r33]) (ci := 12) rfl (s_X12_lends hX v2 t34 t35 t36 h32) kml_L_43 kim_X12_lends kse_X12_lends kii_X12 kcd_X12_lends rfl ds_X12_lends rfl ⟨Nat.le_of_ble_eq_true rfl, Nat.le_of_ble_eq_true rfl⟩ (Nat.le_of_ble_eq_true rfl) rfl dL_law_373 (fun r38 h37 => ?_)
  refine g_icmpeq (tgt := 1550) dL_law_376 (by decide) ?_ ?_
  · exact g_sub2 [0, 1, 2, 3, 4] rfl (hK h37)
  · refine g_iconst (v := 0) dL_law_379 (by decide) ?_
    exact g_zreturn (by decide +kernel) rfl dL_law_380
def f_L_c5 (b Ls : Nat) (xs : Nat → Int32) (K : AH → Option (Int32 × AH)) (v1 v2 v3 : Option Nat) (x4 : Int32) (h : AH) : Option (Int32 × AH) :=
    (scA b Ls xs b (x4 + 1)).bind fun t39 =>
    (scA b Ls xs b (x4 + 2)).bind fun t40 =>
    bd (cv h v1 11 (f_X11_table v1 t39 t40 h)) fun r42 h41 =>
    (scA b Ls xs b (x4 + 1)).bind fun t43 =>
    (scA b Ls xs b (x4 + 2)).bind fun t44 =>
    bd (cv h41 v2 12 (f_X12_table v2 t43 t44 h41)) fun r46 h45 =>
    (if r42 = r46 then
    K h45
    else some (0, h45))
set_option maxRecDepth 100000 in
set_option maxHeartbeats 4000000 in
theorem s_L_c5 {mn : String} {X : GX} (hX : XOK X) {b Ls : Nat} {xs : Nat → Int32} (hs : Scr X b Ls xs) {h0 : AH} {K : AH → Option (Int32 × AH)} {v1 v2 v3 : Option Nat} {x4 : Int32} (hK : ∀ h, Gp (p_L_law X h0) RL mn cL_law (some .boolean) 1550 [(0, vV (.ref b)), (1, vR v1), (2, vR v2), (3, vR v3), (4, vI x4)] [] h (K h)) (h : AH) : Gp (p_L_law X h0) RL mn cL_law (some .boolean) 381 [(0, vV (.ref b)), (1, vR v1), (2, vR v2), (3, vR v3), (4, vI x4)] [] h (f_L_c5 b Ls xs K v1 v2 v3 x4 h) := by
  unfold f_L_c5
  refine g_aload_n 1 dL_law_381 rfl rfl ?_
  refine g_aloadV 0 dL_law_382 rfl rfl ?_
  refine g_iload 4 dL_law_383 rfl ?_
  refine g_iconst (v := 1) dL_law_385 (by decide) ?_
  refine g_iadd dL_law_386 ?_
  refine g_scA hs dL_law_387 (fun t39 => ?_)
  refine g_aloadV 0 dL_law_388 rfl rfl ?_
  refine g_iload 4 dL_law_389 rfl ?_
  refine g_iconst (v := 2) dL_law_391 (by decide) ?_
  refine g_iadd dL_law_392 ?_
  refine g_scA hs dL_law_393 (fun t40 => ?_)
  refine g_callVI (st := []) (ci := 11) rfl (s_X11_table hX v1 t39 t40 h) kml_L_44 kim_X11_table kse_X11_table kii_X11 kcd_X11_table rfl ds_X11_table rfl ⟨Nat.le_of_ble_eq_true rfl, Nat.le_of_ble_eq_true rfl⟩ (Nat.le_of_ble_eq_true rfl) rfl dL_law_394 (fun r42 h41 => ?_)
  refine g_aload_n 2 dL_law_397 rfl rfl ?_
  refine g_aloadV 0 dL_law_398 rfl rfl ?_
  refine g_iload 4 dL_law_399 rfl ?_
  refine g_iconst (v := 1) dL_law_401 (by decide) ?_
  refine g_iadd dL_law_402 ?_
  refine g_scA hs dL_law_403 (fun t43 => ?_)
  refine g_aloadV 0 dL_law_404 rfl rfl ?_
  refine g_iload 4 dL_law_405 rfl ?_
  refine g_iconst (v := 2) dL_law_407 (by decide) ?_
  refine g_iadd dL_law_408 ?_
  refine g_scA hs dL_law_409 (fun t44 => ?_)
  refine g_callVI (st := [vI r42]) (ci := 12) rfl (s_X12_table hX v2 t43 t44 h41) kml_L_47 kim_X12_table kse_X12_table kii_X12 kcd_X12_table rfl ds_X12_table rfl ⟨Nat.le_of_ble_eq_true rfl, Nat.le_of_ble_eq_true rfl⟩ (Nat.le_of_ble_eq_true rfl) rfl dL_law_410 (fun r46 h45 => ?_)
  refine g_icmpeq (tgt := 1550) dL_law_413 (by decide) ?_ ?_
  · exact g_sub2 [0, 1, 2, 3, 4] rfl (hK h45)
  · refine g_iconst (v := 0) dL_law_416 (by decide) ?_
    exact g_zreturn (by decide +kernel) rfl dL_law_417
def f_L_c6 (b Ls : Nat) (xs : Nat → Int32) (K : AH → Option (Int32 × AH)) (v1 v2 v3 : Option Nat) (x4 : Int32) (h : AH) : Option (Int32 × AH) :=
    (scA b Ls xs b (x4 + 1)).bind fun t47 =>
    (scA b Ls xs b (x4 + 2)).bind fun t48 =>
    bd (cv h v1 11 (f_X11_weighs v1 t47 t48 h)) fun r50 h49 =>
    (scA b Ls xs b (x4 + 1)).bind fun t51 =>
    (scA b Ls xs b (x4 + 2)).bind fun t52 =>
    bd (cv h49 v2 12 (f_X12_weighs v2 t51 t52 h49)) fun r54 h53 =>
    (if r50 = r54 then
    K h53
    else some (0, h53))
set_option maxRecDepth 100000 in
set_option maxHeartbeats 4000000 in
theorem s_L_c6 {mn : String} {X : GX} (hX : XOK X) {b Ls : Nat} {xs : Nat → Int32} (hs : Scr X b Ls xs) {h0 : AH} {K : AH → Option (Int32 × AH)} {v1 v2 v3 : Option Nat} {x4 : Int32} (hK : ∀ h, Gp (p_L_law X h0) RL mn cL_law (some .boolean) 1550 [(0, vV (.ref b)), (1, vR v1), (2, vR v2), (3, vR v3), (4, vI x4)] [] h (K h)) (h : AH) : Gp (p_L_law X h0) RL mn cL_law (some .boolean) 418 [(0, vV (.ref b)), (1, vR v1), (2, vR v2), (3, vR v3), (4, vI x4)] [] h (f_L_c6 b Ls xs K v1 v2 v3 x4 h) := by
  unfold f_L_c6
  refine g_aload_n 1 dL_law_418 rfl rfl ?_
  refine g_aloadV 0 dL_law_419 rfl rfl ?_
  refine g_iload 4 dL_law_420 rfl ?_
  refine g_iconst (v := 1) dL_law_422 (by decide) ?_
  refine g_iadd dL_law_423 ?_
  refine g_scA hs dL_law_424 (fun t47 => ?_)
  refine g_aloadV 0 dL_law_425 rfl rfl ?_
  refine g_iload 4 dL_law_426 rfl ?_
  refine g_iconst (v := 2) dL_law_428 (by decide) ?_
  refine g_iadd dL_law_429 ?_
  refine g_scA hs dL_law_430 (fun t48 => ?_)
  refine g_callVI (st := []) (ci := 11) rfl (s_X11_weighs hX v1 t47 t48 h) kml_L_48 kim_X11_weighs kse_X11_weighs kii_X11 kcd_X11_weighs rfl ds_X11_weighs rfl ⟨Nat.le_of_ble_eq_true rfl, Nat.le_of_ble_eq_true rfl⟩ (Nat.le_of_ble_eq_true rfl) rfl dL_law_431 (fun r50 h49 => ?_)
  refine g_aload_n 2 dL_law_434 rfl rfl ?_
  refine g_aloadV 0 dL_law_435 rfl rfl ?_
  refine g_iload 4 dL_law_436 rfl ?_
  refine g_iconst (v := 1) dL_law_438 (by decide) ?_
  refine g_iadd dL_law_439 ?_
  refine g_scA hs dL_law_440 (fun t51 => ?_)
  refine g_aloadV 0 dL_law_441 rfl rfl ?_
  refine g_iload 4 dL_law_442 rfl ?_
  refine g_iconst (v := 2) dL_law_444 (by decide) ?_
  refine g_iadd dL_law_445 ?_
  refine g_scA hs dL_law_446 (fun t52 => ?_)
  refine g_callVI (st := [vI r50]) (ci := 12) rfl (s_X12_weighs hX v2 t51 t52 h49) kml_L_51 kim_X12_weighs kse_X12_weighs kii_X12 kcd_X12_weighs rfl ds_X12_weighs rfl ⟨Nat.le_of_ble_eq_true rfl, Nat.le_of_ble_eq_true rfl⟩ (Nat.le_of_ble_eq_true rfl) rfl dL_law_447 (fun r54 h53 => ?_)
  refine g_icmpeq (tgt := 1550) dL_law_450 (by decide) ?_ ?_
  · exact g_sub2 [0, 1, 2, 3, 4] rfl (hK h53)
  · refine g_iconst (v := 0) dL_law_453 (by decide) ?_
    exact g_zreturn (by decide +kernel) rfl dL_law_454
def f_L_c7 (b Ls : Nat) (xs : Nat → Int32) (K : AH → Option (Int32 × AH)) (v1 v2 v3 : Option Nat) (x4 : Int32) (h : AH) : Option (Int32 × AH) :=
    (scA b Ls xs b (x4 + 1)).bind fun t55 =>
    bd (cv h v1 11 (f_X11_days v1 t55 h)) fun r57 h56 =>
    (scA b Ls xs b (x4 + 1)).bind fun t58 =>
    bd (cv h56 v2 12 (f_X12_days v2 t58 h56)) fun r60 h59 =>
    (if r57 = r60 then
    K h59
    else some (0, h59))
set_option maxRecDepth 100000 in
set_option maxHeartbeats 4000000 in
theorem s_L_c7 {mn : String} {X : GX} (hX : XOK X) {b Ls : Nat} {xs : Nat → Int32} (hs : Scr X b Ls xs) {h0 : AH} {K : AH → Option (Int32 × AH)} {v1 v2 v3 : Option Nat} {x4 : Int32} (hK : ∀ h, Gp (p_L_law X h0) RL mn cL_law (some .boolean) 1550 [(0, vV (.ref b)), (1, vR v1), (2, vR v2), (3, vR v3), (4, vI x4)] [] h (K h)) (h : AH) : Gp (p_L_law X h0) RL mn cL_law (some .boolean) 455 [(0, vV (.ref b)), (1, vR v1), (2, vR v2), (3, vR v3), (4, vI x4)] [] h (f_L_c7 b Ls xs K v1 v2 v3 x4 h) := by
  unfold f_L_c7
  refine g_aload_n 1 dL_law_455 rfl rfl ?_
  refine g_aloadV 0 dL_law_456 rfl rfl ?_
  refine g_iload 4 dL_law_457 rfl ?_
  refine g_iconst (v := 1) dL_law_459 (by decide) ?_
  refine g_iadd dL_law_460 ?_
  refine g_scA hs dL_law_461 (fun t55 => ?_)
  refine g_callVI (st := []) (ci := 11) rfl (s_X11_days hX v1 t55 h) kml_L_52 kim_X11_days kse_X11_days kii_X11 kcd_X11_days rfl ds_X11_days rfl ⟨Nat.le_of_ble_eq_true rfl, Nat.le_of_ble_eq_true rfl⟩ (Nat.le_of_ble_eq_true rfl) rfl dL_law_462 (fun r57 h56 => ?_)
  refine g_aload_n 2 dL_law_465 rfl rfl ?_
  refine g_aloadV 0 dL_law_466 rfl rfl ?_
  refine g_iload 4 dL_law_467 rfl ?_
  refine g_iconst (v := 1) dL_law_469 (by decide) ?_
  refine g_iadd dL_law_470 ?_
  refine g_scA hs dL_law_471 (fun t58 => ?_)
  refine g_callVI (st := [vI r57]) (ci := 12) rfl (s_X12_days hX v2 t58 h56) kml_L_55 kim_X12_days kse_X12_days kii_X12 kcd_X12_days rfl ds_X12_days rfl ⟨Nat.le_of_ble_eq_true rfl, Nat.le_of_ble_eq_true rfl⟩ (Nat.le_of_ble_eq_true rfl) rfl dL_law_472 (fun r60 h59 => ?_)
  refine g_icmpeq (tgt := 1550) dL_law_475 (by decide) ?_ ?_
  · exact g_sub2 [0, 1, 2, 3, 4] rfl (hK h59)
  · refine g_iconst (v := 0) dL_law_478 (by decide) ?_
    exact g_zreturn (by decide +kernel) rfl dL_law_479
def f_L_c8 (b Ls : Nat) (xs : Nat → Int32) (K : AH → Option (Int32 × AH)) (v1 v2 v3 : Option Nat) (x4 : Int32) (h : AH) : Option (Int32 × AH) :=
    (scA b Ls xs b (x4 + 1)).bind fun t61 =>
    (scA b Ls xs b (x4 + 2)).bind fun t62 =>
    bd (cv h v1 11 (f_X11_weightThen v1 t61 t62 h)) fun r64 h63 =>
    (scA b Ls xs b (x4 + 1)).bind fun t65 =>
    (scA b Ls xs b (x4 + 2)).bind fun t66 =>
    bd (cv h63 v2 12 (f_X12_weightThen v2 t65 t66 h63)) fun r68 h67 =>
    (if r64 = r68 then
    K h67
    else some (0, h67))
set_option maxRecDepth 100000 in
set_option maxHeartbeats 4000000 in
theorem s_L_c8 {mn : String} {X : GX} (hX : XOK X) {b Ls : Nat} {xs : Nat → Int32} (hs : Scr X b Ls xs) {h0 : AH} {K : AH → Option (Int32 × AH)} {v1 v2 v3 : Option Nat} {x4 : Int32} (hK : ∀ h, Gp (p_L_law X h0) RL mn cL_law (some .boolean) 1550 [(0, vV (.ref b)), (1, vR v1), (2, vR v2), (3, vR v3), (4, vI x4)] [] h (K h)) (h : AH) : Gp (p_L_law X h0) RL mn cL_law (some .boolean) 480 [(0, vV (.ref b)), (1, vR v1), (2, vR v2), (3, vR v3), (4, vI x4)] [] h (f_L_c8 b Ls xs K v1 v2 v3 x4 h) := by
  unfold f_L_c8
  refine g_aload_n 1 dL_law_480 rfl rfl ?_
  refine g_aloadV 0 dL_law_481 rfl rfl ?_
  refine g_iload 4 dL_law_482 rfl ?_
  refine g_iconst (v := 1) dL_law_484 (by decide) ?_
  refine g_iadd dL_law_485 ?_
  refine g_scA hs dL_law_486 (fun t61 => ?_)
  refine g_aloadV 0 dL_law_487 rfl rfl ?_
  refine g_iload 4 dL_law_488 rfl ?_
  refine g_iconst (v := 2) dL_law_490 (by decide) ?_
  refine g_iadd dL_law_491 ?_
  refine g_scA hs dL_law_492 (fun t62 => ?_)
  refine g_callVI (st := []) (ci := 11) rfl (s_X11_weightThen hX v1 t61 t62 h) kml_L_56 kim_X11_weightThen kse_X11_weightThen kii_X11 kcd_X11_weightThen rfl ds_X11_weightThen rfl ⟨Nat.le_of_ble_eq_true rfl, Nat.le_of_ble_eq_true rfl⟩ (Nat.le_of_ble_eq_true rfl) rfl dL_law_493 (fun r64 h63 => ?_)
  refine g_aload_n 2 dL_law_496 rfl rfl ?_
  refine g_aloadV 0 dL_law_497 rfl rfl ?_
  refine g_iload 4 dL_law_498 rfl ?_
  refine g_iconst (v := 1) dL_law_500 (by decide) ?_
  refine g_iadd dL_law_501 ?_
  refine g_scA hs dL_law_502 (fun t65 => ?_)
  refine g_aloadV 0 dL_law_503 rfl rfl ?_
  refine g_iload 4 dL_law_504 rfl ?_
  refine g_iconst (v := 2) dL_law_506 (by decide) ?_
  refine g_iadd dL_law_507 ?_
  refine g_scA hs dL_law_508 (fun t66 => ?_)
  refine g_callVI (st := [vI r64]) (ci := 12) rfl (s_X12_weightThen hX v2 t65 t66 h63) kml_L_59 kim_X12_weightThen kse_X12_weightThen kii_X12 kcd_X12_weightThen rfl ds_X12_weightThen rfl ⟨Nat.le_of_ble_eq_true rfl, Nat.le_of_ble_eq_true rfl⟩ (Nat.le_of_ble_eq_true rfl) rfl dL_law_509 (fun r68 h67 => ?_)
  refine g_icmpeq (tgt := 1550) dL_law_512 (by decide) ?_ ?_
  · exact g_sub2 [0, 1, 2, 3, 4] rfl (hK h67)
  · refine g_iconst (v := 0) dL_law_515 (by decide) ?_
    exact g_zreturn (by decide +kernel) rfl dL_law_516
def f_L_c9 (b Ls : Nat) (xs : Nat → Int32) (K : AH → Option (Int32 × AH)) (v1 v2 v3 : Option Nat) (x4 : Int32) (h : AH) : Option (Int32 × AH) :=
    (scA b Ls xs b (x4 + 1)).bind fun t69 =>
    (scA b Ls xs b (x4 + 2)).bind fun t70 =>
    bd (cv h v1 11 (f_X11_then v1 t69 t70 h)) fun r72 h71 =>
    (scA b Ls xs b (x4 + 1)).bind fun t73 =>
    (scA b Ls xs b (x4 + 2)).bind fun t74 =>
    bd (cv h71 v2 12 (f_X12_then v2 t73 t74 h71)) fun r76 h75 =>
    (if r72 = r76 then
    K h75
    else some (0, h75))
set_option maxRecDepth 100000 in
set_option maxHeartbeats 4000000 in
theorem s_L_c9 {mn : String} {X : GX} (hX : XOK X) {b Ls : Nat} {xs : Nat → Int32} (hs : Scr X b Ls xs) {h0 : AH} {K : AH → Option (Int32 × AH)} {v1 v2 v3 : Option Nat} {x4 : Int32} (hK : ∀ h, Gp (p_L_law X h0) RL mn cL_law (some .boolean) 1550 [(0, vV (.ref b)), (1, vR v1), (2, vR v2), (3, vR v3), (4, vI x4)] [] h (K h)) (h : AH) : Gp (p_L_law X h0) RL mn cL_law (some .boolean) 517 [(0, vV (.ref b)), (1, vR v1), (2, vR v2), (3, vR v3), (4, vI x4)] [] h (f_L_c9 b Ls xs K v1 v2 v3 x4 h) := by
  unfold f_L_c9
  refine g_aload_n 1 dL_law_517 rfl rfl ?_
  refine g_aloadV 0 dL_law_518 rfl rfl ?_
  refine g_iload 4 dL_law_519 rfl ?_
  refine g_iconst (v := 1) dL_law_521 (by decide) ?_
  refine g_iadd dL_law_522 ?_
  refine g_scA hs dL_law_523 (fun t69 => ?_)
  refine g_aloadV 0 dL_law_524 rfl rfl ?_
  refine g_iload 4 dL_law_525 rfl ?_
  refine g_iconst (v := 2) dL_law_527 (by decide) ?_
  refine g_iadd dL_law_528 ?_
  refine g_scA hs dL_law_529 (fun t70 => ?_)
  refine g_callVI (st := []) (ci := 11) rfl (s_X11_then hX v1 t69 t70 h) kml_L_60 kim_X11_then kse_X11_then kii_X11 kcd_X11_then rfl ds_X11_then rfl ⟨Nat.le_of_ble_eq_true rfl, Nat.le_of_ble_eq_true rfl⟩ (Nat.le_of_ble_eq_true rfl) rfl dL_law_530 (fun r72 h71 => ?_)
  refine g_aload_n 2 dL_law_533 rfl rfl ?_
  refine g_aloadV 0 dL_law_534 rfl rfl ?_
  refine g_iload 4 dL_law_535 rfl ?_
  refine g_iconst (v := 1) dL_law_537 (by decide) ?_
  refine g_iadd dL_law_538 ?_
  refine g_scA hs dL_law_539 (fun t73 => ?_)
  refine g_aloadV 0 dL_law_540 rfl rfl ?_
  refine g_iload 4 dL_law_541 rfl ?_
  refine g_iconst (v := 2) dL_law_543 (by decide) ?_
  refine g_iadd dL_law_544 ?_
  refine g_scA hs dL_law_545 (fun t74 => ?_)
  refine g_callVI (st := [vI r72]) (ci := 12) rfl (s_X12_then hX v2 t73 t74 h71) kml_L_63 kim_X12_then kse_X12_then kii_X12 kcd_X12_then rfl ds_X12_then rfl ⟨Nat.le_of_ble_eq_true rfl, Nat.le_of_ble_eq_true rfl⟩ (Nat.le_of_ble_eq_true rfl) rfl dL_law_546 (fun r76 h75 => ?_)
  refine g_icmpeq (tgt := 1550) dL_law_549 (by decide) ?_ ?_
  · exact g_sub2 [0, 1, 2, 3, 4] rfl (hK h75)
  · refine g_iconst (v := 0) dL_law_552 (by decide) ?_
    exact g_zreturn (by decide +kernel) rfl dL_law_553
def f_L_c10 (b Ls : Nat) (xs : Nat → Int32) (K : AH → Option (Int32 × AH)) (v1 v2 v3 : Option Nat) (x4 : Int32) (h : AH) : Option (Int32 × AH) :=
    (scA b Ls xs b (x4 + 1)).bind fun t77 =>
    bd (cv h v1 11 (f_X11_leaves v1 t77 h)) fun r79 h78 =>
    (scA b Ls xs b (x4 + 1)).bind fun t80 =>
    bd (cv h78 v2 12 (f_X12_leaves v2 t80 h78)) fun r82 h81 =>
    (if r79 = r82 then
    K h81
    else some (0, h81))
set_option maxRecDepth 100000 in
set_option maxHeartbeats 4000000 in
theorem s_L_c10 {mn : String} {X : GX} (hX : XOK X) {b Ls : Nat} {xs : Nat → Int32} (hs : Scr X b Ls xs) {h0 : AH} {K : AH → Option (Int32 × AH)} {v1 v2 v3 : Option Nat} {x4 : Int32} (hK : ∀ h, Gp (p_L_law X h0) RL mn cL_law (some .boolean) 1550 [(0, vV (.ref b)), (1, vR v1), (2, vR v2), (3, vR v3), (4, vI x4)] [] h (K h)) (h : AH) : Gp (p_L_law X h0) RL mn cL_law (some .boolean) 554 [(0, vV (.ref b)), (1, vR v1), (2, vR v2), (3, vR v3), (4, vI x4)] [] h (f_L_c10 b Ls xs K v1 v2 v3 x4 h) := by
  unfold f_L_c10
  refine g_aload_n 1 dL_law_554 rfl rfl ?_
  refine g_aloadV 0 dL_law_555 rfl rfl ?_
  refine g_iload 4 dL_law_556 rfl ?_
  refine g_iconst (v := 1) dL_law_558 (by decide) ?_
  refine g_iadd dL_law_559 ?_
  refine g_scA hs dL_law_560 (fun t77 => ?_)
  refine g_callVI (st := []) (ci := 11) rfl (s_X11_leaves hX v1 t77 h) kml_L_64 kim_X11_leaves kse_X11_leaves kii_X11 kcd_X11_leaves rfl ds_X11_leaves rfl ⟨Nat.le_of_ble_eq_true rfl, Nat.le_of_ble_eq_true rfl⟩ (Nat.le_of_ble_eq_true rfl) rfl dL_law_561 (fun r79 h78 => ?_)
  refine g_aload_n 2 dL_law_564 rfl rfl ?_
  refine g_aloadV 0 dL_law_565 rfl rfl ?_
  refine g_iload 4 dL_law_566 rfl ?_
  refine g_iconst (v := 1) dL_law_568 (by decide) ?_
  refine g_iadd dL_law_569 ?_
  refine g_scA hs dL_law_570 (fun t80 => ?_)
  refine g_callVI (st := [vI r79]) (ci := 12) rfl (s_X12_leaves hX v2 t80 h78) kml_L_67 kim_X12_leaves kse_X12_leaves kii_X12 kcd_X12_leaves rfl ds_X12_leaves rfl ⟨Nat.le_of_ble_eq_true rfl, Nat.le_of_ble_eq_true rfl⟩ (Nat.le_of_ble_eq_true rfl) rfl dL_law_571 (fun r82 h81 => ?_)
  refine g_icmpeq (tgt := 1550) dL_law_574 (by decide) ?_ ?_
  · exact g_sub2 [0, 1, 2, 3, 4] rfl (hK h81)
  · refine g_iconst (v := 0) dL_law_577 (by decide) ?_
    exact g_zreturn (by decide +kernel) rfl dL_law_578
def f_L_c11 (b Ls : Nat) (xs : Nat → Int32) (K : AH → Option (Int32 × AH)) (v1 v2 v3 : Option Nat) (x4 : Int32) (h : AH) : Option (Int32 × AH) :=
    (scA b Ls xs b (x4 + 1)).bind fun t83 =>
    bd (cv h v1 11 (f_X11_order v1 t83 h)) fun r85 h84 =>
    (scA b Ls xs b (x4 + 1)).bind fun t86 =>
    bd (cv h84 v2 12 (f_X12_order v2 t86 h84)) fun r88 h87 =>
    (if r85 = r88 then
    K h87
    else some (0, h87))
set_option maxRecDepth 100000 in
set_option maxHeartbeats 4000000 in
theorem s_L_c11 {mn : String} {X : GX} (hX : XOK X) {b Ls : Nat} {xs : Nat → Int32} (hs : Scr X b Ls xs) {h0 : AH} {K : AH → Option (Int32 × AH)} {v1 v2 v3 : Option Nat} {x4 : Int32} (hK : ∀ h, Gp (p_L_law X h0) RL mn cL_law (some .boolean) 1550 [(0, vV (.ref b)), (1, vR v1), (2, vR v2), (3, vR v3), (4, vI x4)] [] h (K h)) (h : AH) : Gp (p_L_law X h0) RL mn cL_law (some .boolean) 579 [(0, vV (.ref b)), (1, vR v1), (2, vR v2), (3, vR v3), (4, vI x4)] [] h (f_L_c11 b Ls xs K v1 v2 v3 x4 h) := by
  unfold f_L_c11
  refine g_aload_n 1 dL_law_579 rfl rfl ?_
  refine g_aloadV 0 dL_law_580 rfl rfl ?_
  refine g_iload 4 dL_law_581 rfl ?_
  refine g_iconst (v := 1) dL_law_583 (by decide) ?_
  refine g_iadd dL_law_584 ?_
  refine g_scA hs dL_law_585 (fun t83 => ?_)
  refine g_callVI (st := []) (ci := 11) rfl (s_X11_order hX v1 t83 h) kml_L_68 kim_X11_order kse_X11_order kii_X11 kcd_X11_order rfl ds_X11_order rfl ⟨Nat.le_of_ble_eq_true rfl, Nat.le_of_ble_eq_true rfl⟩ (Nat.le_of_ble_eq_true rfl) rfl dL_law_586 (fun r85 h84 => ?_)
  refine g_aload_n 2 dL_law_589 rfl rfl ?_
  refine g_aloadV 0 dL_law_590 rfl rfl ?_
  refine g_iload 4 dL_law_591 rfl ?_
  refine g_iconst (v := 1) dL_law_593 (by decide) ?_
  refine g_iadd dL_law_594 ?_
  refine g_scA hs dL_law_595 (fun t86 => ?_)
  refine g_callVI (st := [vI r85]) (ci := 12) rfl (s_X12_order hX v2 t86 h84) kml_L_71 kim_X12_order kse_X12_order kii_X12 kcd_X12_order rfl ds_X12_order rfl ⟨Nat.le_of_ble_eq_true rfl, Nat.le_of_ble_eq_true rfl⟩ (Nat.le_of_ble_eq_true rfl) rfl dL_law_596 (fun r88 h87 => ?_)
  refine g_icmpeq (tgt := 1550) dL_law_599 (by decide) ?_ ?_
  · exact g_sub2 [0, 1, 2, 3, 4] rfl (hK h87)
  · refine g_iconst (v := 0) dL_law_602 (by decide) ?_
    exact g_zreturn (by decide +kernel) rfl dL_law_603
def f_L_c12 (b Ls : Nat) (xs : Nat → Int32) (K : AH → Option (Int32 × AH)) (v1 v2 v3 : Option Nat) (x4 : Int32) (h : AH) : Option (Int32 × AH) :=
    (scA b Ls xs b (x4 + 1)).bind fun t89 =>
    (scA b Ls xs b (x4 + 2)).bind fun t90 =>
    bd (cv h v1 11 (f_X11_feed v1 t89 t90 h)) fun r92 h91 =>
    (scA b Ls xs b (x4 + 1)).bind fun t93 =>
    (scA b Ls xs b (x4 + 2)).bind fun t94 =>
    bd (cv h91 v2 12 (f_X12_feed v2 t93 t94 h91)) fun r96 h95 =>
    (if r92 = r96 then
    K h95
    else some (0, h95))
set_option maxRecDepth 100000 in
set_option maxHeartbeats 4000000 in
theorem s_L_c12 {mn : String} {X : GX} (hX : XOK X) {b Ls : Nat} {xs : Nat → Int32} (hs : Scr X b Ls xs) {h0 : AH} {K : AH → Option (Int32 × AH)} {v1 v2 v3 : Option Nat} {x4 : Int32} (hK : ∀ h, Gp (p_L_law X h0) RL mn cL_law (some .boolean) 1550 [(0, vV (.ref b)), (1, vR v1), (2, vR v2), (3, vR v3), (4, vI x4)] [] h (K h)) (h : AH) : Gp (p_L_law X h0) RL mn cL_law (some .boolean) 604 [(0, vV (.ref b)), (1, vR v1), (2, vR v2), (3, vR v3), (4, vI x4)] [] h (f_L_c12 b Ls xs K v1 v2 v3 x4 h) := by
  unfold f_L_c12
  refine g_aload_n 1 dL_law_604 rfl rfl ?_
  refine g_aloadV 0 dL_law_605 rfl rfl ?_
  refine g_iload 4 dL_law_606 rfl ?_
  refine g_iconst (v := 1) dL_law_608 (by decide) ?_
  refine g_iadd dL_law_609 ?_
  refine g_scA hs dL_law_610 (fun t89 => ?_)
  refine g_aloadV 0 dL_law_611 rfl rfl ?_
  refine g_iload 4 dL_law_612 rfl ?_
  refine g_iconst (v := 2) dL_law_614 (by decide) ?_
  refine g_iadd dL_law_615 ?_
  refine g_scA hs dL_law_616 (fun t90 => ?_)
  refine g_callVI (st := []) (ci := 11) rfl (s_X11_feed hX v1 t89 t90 h) kml_L_72 kim_X11_feed kse_X11_feed kii_X11 kcd_X11_feed rfl ds_X11_feed rfl ⟨Nat.le_of_ble_eq_true rfl, Nat.le_of_ble_eq_true rfl⟩ (Nat.le_of_ble_eq_true rfl) rfl dL_law_617 (fun r92 h91 => ?_)
  refine g_aload_n 2 dL_law_620 rfl rfl ?_
  refine g_aloadV 0 dL_law_621 rfl rfl ?_
  refine g_iload 4 dL_law_622 rfl ?_
  refine g_iconst (v := 1) dL_law_624 (by decide) ?_
  refine g_iadd dL_law_625 ?_
  refine g_scA hs dL_law_626 (fun t93 => ?_)
  refine g_aloadV 0 dL_law_627 rfl rfl ?_
  refine g_iload 4 dL_law_628 rfl ?_
  refine g_iconst (v := 2) dL_law_630 (by decide) ?_
  refine g_iadd dL_law_631 ?_
  refine g_scA hs dL_law_632 (fun t94 => ?_)
  refine g_callVI (st := [vI r92]) (ci := 12) rfl (s_X12_feed hX v2 t93 t94 h91) kml_L_75 kim_X12_feed kse_X12_feed kii_X12 kcd_X12_feed rfl ds_X12_feed rfl ⟨Nat.le_of_ble_eq_true rfl, Nat.le_of_ble_eq_true rfl⟩ (Nat.le_of_ble_eq_true rfl) rfl dL_law_633 (fun r96 h95 => ?_)
  refine g_icmpeq (tgt := 1550) dL_law_636 (by decide) ?_ ?_
  · exact g_sub2 [0, 1, 2, 3, 4] rfl (hK h95)
  · refine g_iconst (v := 0) dL_law_639 (by decide) ?_
    exact g_zreturn (by decide +kernel) rfl dL_law_640
def f_L_c13 (b Ls : Nat) (xs : Nat → Int32) (K : AH → Option (Int32 × AH)) (v1 v2 v3 : Option Nat) (x4 : Int32) (h : AH) : Option (Int32 × AH) :=
    (scA b Ls xs b (x4 + 1)).bind fun t97 =>
    bd (cv h v1 11 (f_X11_empty v1 t97 h)) fun r99 h98 =>
    (scA b Ls xs b (x4 + 1)).bind fun t100 =>
    bd (cv h98 v2 12 (f_X12_empty v2 t100 h98)) fun r102 h101 =>
    (if r99 = r102 then
    K h101
    else some (0, h101))
set_option maxRecDepth 100000 in
set_option maxHeartbeats 4000000 in
theorem s_L_c13 {mn : String} {X : GX} (hX : XOK X) {b Ls : Nat} {xs : Nat → Int32} (hs : Scr X b Ls xs) {h0 : AH} {K : AH → Option (Int32 × AH)} {v1 v2 v3 : Option Nat} {x4 : Int32} (hK : ∀ h, Gp (p_L_law X h0) RL mn cL_law (some .boolean) 1550 [(0, vV (.ref b)), (1, vR v1), (2, vR v2), (3, vR v3), (4, vI x4)] [] h (K h)) (h : AH) : Gp (p_L_law X h0) RL mn cL_law (some .boolean) 641 [(0, vV (.ref b)), (1, vR v1), (2, vR v2), (3, vR v3), (4, vI x4)] [] h (f_L_c13 b Ls xs K v1 v2 v3 x4 h) := by
  unfold f_L_c13
  refine g_aload_n 1 dL_law_641 rfl rfl ?_
  refine g_aloadV 0 dL_law_642 rfl rfl ?_
  refine g_iload 4 dL_law_643 rfl ?_
  refine g_iconst (v := 1) dL_law_645 (by decide) ?_
  refine g_iadd dL_law_646 ?_
  refine g_scA hs dL_law_647 (fun t97 => ?_)
  refine g_callVI (st := []) (ci := 11) rfl (s_X11_empty hX v1 t97 h) kml_L_76 kim_X11_empty kse_X11_empty kii_X11 kcd_X11_empty rfl ds_X11_empty rfl ⟨Nat.le_of_ble_eq_true rfl, Nat.le_of_ble_eq_true rfl⟩ (Nat.le_of_ble_eq_true rfl) rfl dL_law_648 (fun r99 h98 => ?_)
  refine g_aload_n 2 dL_law_651 rfl rfl ?_
  refine g_aloadV 0 dL_law_652 rfl rfl ?_
  refine g_iload 4 dL_law_653 rfl ?_
  refine g_iconst (v := 1) dL_law_655 (by decide) ?_
  refine g_iadd dL_law_656 ?_
  refine g_scA hs dL_law_657 (fun t100 => ?_)
  refine g_callVI (st := [vI r99]) (ci := 12) rfl (s_X12_empty hX v2 t100 h98) kml_L_79 kim_X12_empty kse_X12_empty kii_X12 kcd_X12_empty rfl ds_X12_empty rfl ⟨Nat.le_of_ble_eq_true rfl, Nat.le_of_ble_eq_true rfl⟩ (Nat.le_of_ble_eq_true rfl) rfl dL_law_658 (fun r102 h101 => ?_)
  refine g_icmpeq (tgt := 1550) dL_law_661 (by decide) ?_ ?_
  · exact g_sub2 [0, 1, 2, 3, 4] rfl (hK h101)
  · refine g_iconst (v := 0) dL_law_664 (by decide) ?_
    exact g_zreturn (by decide +kernel) rfl dL_law_665
def f_L_c14 (b Ls : Nat) (xs : Nat → Int32) (K : AH → Option (Int32 × AH)) (v1 v2 v3 : Option Nat) (x4 : Int32) (h : AH) : Option (Int32 × AH) :=
    (scA b Ls xs b (x4 + 1)).bind fun t103 =>
    bd (cv h v1 11 (f_X11_tell v1 t103 h)) fun r105 h104 =>
    (scA b Ls xs b (x4 + 1)).bind fun t106 =>
    bd (cv h104 v2 12 (f_X12_tell v2 t106 h104)) fun r108 h107 =>
    (if r105 = r108 then
    K h107
    else some (0, h107))
set_option maxRecDepth 100000 in
set_option maxHeartbeats 4000000 in
theorem s_L_c14 {mn : String} {X : GX} (hX : XOK X) {b Ls : Nat} {xs : Nat → Int32} (hs : Scr X b Ls xs) {h0 : AH} {K : AH → Option (Int32 × AH)} {v1 v2 v3 : Option Nat} {x4 : Int32} (hK : ∀ h, Gp (p_L_law X h0) RL mn cL_law (some .boolean) 1550 [(0, vV (.ref b)), (1, vR v1), (2, vR v2), (3, vR v3), (4, vI x4)] [] h (K h)) (h : AH) : Gp (p_L_law X h0) RL mn cL_law (some .boolean) 666 [(0, vV (.ref b)), (1, vR v1), (2, vR v2), (3, vR v3), (4, vI x4)] [] h (f_L_c14 b Ls xs K v1 v2 v3 x4 h) := by
  unfold f_L_c14
  refine g_aload_n 1 dL_law_666 rfl rfl ?_
  refine g_aloadV 0 dL_law_667 rfl rfl ?_
  refine g_iload 4 dL_law_668 rfl ?_
  refine g_iconst (v := 1) dL_law_670 (by decide) ?_
  refine g_iadd dL_law_671 ?_
  refine g_scA hs dL_law_672 (fun t103 => ?_)
  refine g_callVI (st := []) (ci := 11) rfl (s_X11_tell hX v1 t103 h) kml_L_80 kim_X11_tell kse_X11_tell kii_X11 kcd_X11_tell rfl ds_X11_tell rfl ⟨Nat.le_of_ble_eq_true rfl, Nat.le_of_ble_eq_true rfl⟩ (Nat.le_of_ble_eq_true rfl) rfl dL_law_673 (fun r105 h104 => ?_)
  refine g_aload_n 2 dL_law_676 rfl rfl ?_
  refine g_aloadV 0 dL_law_677 rfl rfl ?_
  refine g_iload 4 dL_law_678 rfl ?_
  refine g_iconst (v := 1) dL_law_680 (by decide) ?_
  refine g_iadd dL_law_681 ?_
  refine g_scA hs dL_law_682 (fun t106 => ?_)
  refine g_callVI (st := [vI r105]) (ci := 12) rfl (s_X12_tell hX v2 t106 h104) kml_L_83 kim_X12_tell kse_X12_tell kii_X12 kcd_X12_tell rfl ds_X12_tell rfl ⟨Nat.le_of_ble_eq_true rfl, Nat.le_of_ble_eq_true rfl⟩ (Nat.le_of_ble_eq_true rfl) rfl dL_law_683 (fun r108 h107 => ?_)
  refine g_icmpeq (tgt := 1550) dL_law_686 (by decide) ?_ ?_
  · exact g_sub2 [0, 1, 2, 3, 4] rfl (hK h107)
  · refine g_iconst (v := 0) dL_law_689 (by decide) ?_
    exact g_zreturn (by decide +kernel) rfl dL_law_690
def f_L_c15 (b Ls : Nat) (xs : Nat → Int32) (K : AH → Option (Int32 × AH)) (v1 v2 v3 : Option Nat) (x4 : Int32) (h : AH) : Option (Int32 × AH) :=
    (scA b Ls xs b (x4 + 1)).bind fun t109 =>
    (scA b Ls xs b (x4 + 2)).bind fun t110 =>
    bd (cv h v1 11 (f_X11_loan v1 t109 t110 h)) fun r112 h111 =>
    (scA b Ls xs b (x4 + 1)).bind fun t113 =>
    (scA b Ls xs b (x4 + 2)).bind fun t114 =>
    bd (cv h111 v2 12 (f_X12_loan v2 t113 t114 h111)) fun r116 h115 =>
    (if r112 = r116 then
    K h115
    else some (0, h115))
set_option maxRecDepth 100000 in
set_option maxHeartbeats 4000000 in
theorem s_L_c15 {mn : String} {X : GX} (hX : XOK X) {b Ls : Nat} {xs : Nat → Int32} (hs : Scr X b Ls xs) {h0 : AH} {K : AH → Option (Int32 × AH)} {v1 v2 v3 : Option Nat} {x4 : Int32} (hK : ∀ h, Gp (p_L_law X h0) RL mn cL_law (some .boolean) 1550 [(0, vV (.ref b)), (1, vR v1), (2, vR v2), (3, vR v3), (4, vI x4)] [] h (K h)) (h : AH) : Gp (p_L_law X h0) RL mn cL_law (some .boolean) 691 [(0, vV (.ref b)), (1, vR v1), (2, vR v2), (3, vR v3), (4, vI x4)] [] h (f_L_c15 b Ls xs K v1 v2 v3 x4 h) := by
  unfold f_L_c15
  refine g_aload_n 1 dL_law_691 rfl rfl ?_
  refine g_aloadV 0 dL_law_692 rfl rfl ?_
  refine g_iload 4 dL_law_693 rfl ?_
  refine g_iconst (v := 1) dL_law_695 (by decide) ?_
  refine g_iadd dL_law_696 ?_
  refine g_scA hs dL_law_697 (fun t109 => ?_)
  refine g_aloadV 0 dL_law_698 rfl rfl ?_
  refine g_iload 4 dL_law_699 rfl ?_
  refine g_iconst (v := 2) dL_law_701 (by decide) ?_
  refine g_iadd dL_law_702 ?_
  refine g_scA hs dL_law_703 (fun t110 => ?_)
  refine g_callVI (st := []) (ci := 11) rfl (s_X11_loan hX v1 t109 t110 h) kml_L_84 kim_X11_loan kse_X11_loan kii_X11 kcd_X11_loan rfl ds_X11_loan rfl ⟨Nat.le_of_ble_eq_true rfl, Nat.le_of_ble_eq_true rfl⟩ (Nat.le_of_ble_eq_true rfl) rfl dL_law_704 (fun r112 h111 => ?_)
  refine g_aload_n 2 dL_law_707 rfl rfl ?_
  refine g_aloadV 0 dL_law_708 rfl rfl ?_
  refine g_iload 4 dL_law_709 rfl ?_
  refine g_iconst (v := 1) dL_law_711 (by decide) ?_
  refine g_iadd dL_law_712 ?_
  refine g_scA hs dL_law_713 (fun t113 => ?_)
  refine g_aloadV 0 dL_law_714 rfl rfl ?_
  refine g_iload 4 dL_law_715 rfl ?_
  refine g_iconst (v := 2) dL_law_717 (by decide) ?_
  refine g_iadd dL_law_718 ?_
  refine g_scA hs dL_law_719 (fun t114 => ?_)
  refine g_callVI (st := [vI r112]) (ci := 12) rfl (s_X12_loan hX v2 t113 t114 h111) kml_L_87 kim_X12_loan kse_X12_loan kii_X12 kcd_X12_loan rfl ds_X12_loan rfl ⟨Nat.le_of_ble_eq_true rfl, Nat.le_of_ble_eq_true rfl⟩ (Nat.le_of_ble_eq_true rfl) rfl dL_law_720 (fun r116 h115 => ?_)
  refine g_icmpeq (tgt := 1550) dL_law_723 (by decide) ?_ ?_
  · exact g_sub2 [0, 1, 2, 3, 4] rfl (hK h115)
  · refine g_iconst (v := 0) dL_law_726 (by decide) ?_
    exact g_zreturn (by decide +kernel) rfl dL_law_727
def f_L_c16 (b Ls : Nat) (xs : Nat → Int32) (K : AH → Option (Int32 × AH)) (v1 v2 v3 : Option Nat) (x4 : Int32) (h : AH) : Option (Int32 × AH) :=
    (scA b Ls xs b (x4 + 1)).bind fun t117 =>
    bd (cv h v1 11 (f_X11_waits v1 t117 h)) fun r119 h118 =>
    (scA b Ls xs b (x4 + 1)).bind fun t120 =>
    bd (cv h118 v2 12 (f_X12_waits v2 t120 h118)) fun r122 h121 =>
    (if r119 = r122 then
    K h121
    else some (0, h121))
set_option maxRecDepth 100000 in
set_option maxHeartbeats 4000000 in
theorem s_L_c16 {mn : String} {X : GX} (hX : XOK X) {b Ls : Nat} {xs : Nat → Int32} (hs : Scr X b Ls xs) {h0 : AH} {K : AH → Option (Int32 × AH)} {v1 v2 v3 : Option Nat} {x4 : Int32} (hK : ∀ h, Gp (p_L_law X h0) RL mn cL_law (some .boolean) 1550 [(0, vV (.ref b)), (1, vR v1), (2, vR v2), (3, vR v3), (4, vI x4)] [] h (K h)) (h : AH) : Gp (p_L_law X h0) RL mn cL_law (some .boolean) 728 [(0, vV (.ref b)), (1, vR v1), (2, vR v2), (3, vR v3), (4, vI x4)] [] h (f_L_c16 b Ls xs K v1 v2 v3 x4 h) := by
  unfold f_L_c16
  refine g_aload_n 1 dL_law_728 rfl rfl ?_
  refine g_aloadV 0 dL_law_729 rfl rfl ?_
  refine g_iload 4 dL_law_730 rfl ?_
  refine g_iconst (v := 1) dL_law_732 (by decide) ?_
  refine g_iadd dL_law_733 ?_
  refine g_scA hs dL_law_734 (fun t117 => ?_)
  refine g_callVI (st := []) (ci := 11) rfl (s_X11_waits hX v1 t117 h) kml_L_88 kim_X11_waits kse_X11_waits kii_X11 kcd_X11_waits rfl ds_X11_waits rfl ⟨Nat.le_of_ble_eq_true rfl, Nat.le_of_ble_eq_true rfl⟩ (Nat.le_of_ble_eq_true rfl) rfl dL_law_735 (fun r119 h118 => ?_)
  refine g_aload_n 2 dL_law_738 rfl rfl ?_
  refine g_aloadV 0 dL_law_739 rfl rfl ?_
  refine g_iload 4 dL_law_740 rfl ?_
  refine g_iconst (v := 1) dL_law_742 (by decide) ?_
  refine g_iadd dL_law_743 ?_
  refine g_scA hs dL_law_744 (fun t120 => ?_)
  refine g_callVI (st := [vI r119]) (ci := 12) rfl (s_X12_waits hX v2 t120 h118) kml_L_91 kim_X12_waits kse_X12_waits kii_X12 kcd_X12_waits rfl ds_X12_waits rfl ⟨Nat.le_of_ble_eq_true rfl, Nat.le_of_ble_eq_true rfl⟩ (Nat.le_of_ble_eq_true rfl) rfl dL_law_745 (fun r122 h121 => ?_)
  refine g_icmpeq (tgt := 1550) dL_law_748 (by decide) ?_ ?_
  · exact g_sub2 [0, 1, 2, 3, 4] rfl (hK h121)
  · refine g_iconst (v := 0) dL_law_751 (by decide) ?_
    exact g_zreturn (by decide +kernel) rfl dL_law_752
def f_L_c17 (b Ls : Nat) (xs : Nat → Int32) (K : AH → Option (Int32 × AH)) (v1 v2 v3 : Option Nat) (x4 : Int32) (h : AH) : Option (Int32 × AH) :=
    (scA b Ls xs b (x4 + 1)).bind fun t123 =>
    bd (cv h v1 11 (f_X11_pairs v1 t123 h)) fun r125 h124 =>
    (scA b Ls xs b (x4 + 1)).bind fun t126 =>
    bd (cv h124 v2 12 (f_X12_pairs v2 t126 h124)) fun r128 h127 =>
    (if r125 = r128 then
    K h127
    else some (0, h127))
set_option maxRecDepth 100000 in
set_option maxHeartbeats 4000000 in
theorem s_L_c17 {mn : String} {X : GX} (hX : XOK X) {b Ls : Nat} {xs : Nat → Int32} (hs : Scr X b Ls xs) {h0 : AH} {K : AH → Option (Int32 × AH)} {v1 v2 v3 : Option Nat} {x4 : Int32} (hK : ∀ h, Gp (p_L_law X h0) RL mn cL_law (some .boolean) 1550 [(0, vV (.ref b)), (1, vR v1), (2, vR v2), (3, vR v3), (4, vI x4)] [] h (K h)) (h : AH) : Gp (p_L_law X h0) RL mn cL_law (some .boolean) 753 [(0, vV (.ref b)), (1, vR v1), (2, vR v2), (3, vR v3), (4, vI x4)] [] h (f_L_c17 b Ls xs K v1 v2 v3 x4 h) := by
  unfold f_L_c17
  refine g_aload_n 1 dL_law_753 rfl rfl ?_
  refine g_aloadV 0 dL_law_754 rfl rfl ?_
  refine g_iload 4 dL_law_755 rfl ?_
  refine g_iconst (v := 1) dL_law_757 (by decide) ?_
  refine g_iadd dL_law_758 ?_
  refine g_scA hs dL_law_759 (fun t123 => ?_)
  refine g_callVI (st := []) (ci := 11) rfl (s_X11_pairs hX v1 t123 h) kml_L_92 kim_X11_pairs kse_X11_pairs kii_X11 kcd_X11_pairs rfl ds_X11_pairs rfl ⟨Nat.le_of_ble_eq_true rfl, Nat.le_of_ble_eq_true rfl⟩ (Nat.le_of_ble_eq_true rfl) rfl dL_law_760 (fun r125 h124 => ?_)
  refine g_aload_n 2 dL_law_763 rfl rfl ?_
  refine g_aloadV 0 dL_law_764 rfl rfl ?_
  refine g_iload 4 dL_law_765 rfl ?_
  refine g_iconst (v := 1) dL_law_767 (by decide) ?_
  refine g_iadd dL_law_768 ?_
  refine g_scA hs dL_law_769 (fun t126 => ?_)
  refine g_callVI (st := [vI r125]) (ci := 12) rfl (s_X12_pairs hX v2 t126 h124) kml_L_95 kim_X12_pairs kse_X12_pairs kii_X12 kcd_X12_pairs rfl ds_X12_pairs rfl ⟨Nat.le_of_ble_eq_true rfl, Nat.le_of_ble_eq_true rfl⟩ (Nat.le_of_ble_eq_true rfl) rfl dL_law_770 (fun r128 h127 => ?_)
  refine g_icmpeq (tgt := 1550) dL_law_773 (by decide) ?_ ?_
  · exact g_sub2 [0, 1, 2, 3, 4] rfl (hK h127)
  · refine g_iconst (v := 0) dL_law_776 (by decide) ?_
    exact g_zreturn (by decide +kernel) rfl dL_law_777
def f_L_c18 (b Ls : Nat) (xs : Nat → Int32) (K : AH → Option (Int32 × AH)) (v1 v2 v3 : Option Nat) (x4 : Int32) (h : AH) : Option (Int32 × AH) :=
    bd (cv h v1 11 (f_X11_ledger v1 h)) fun r130 h129 =>
    bd (cv h129 v2 12 (f_X12_ledger v2 h129)) fun r132 h131 =>
    (if r130 = r132 then
    K h131
    else some (0, h131))
set_option maxRecDepth 100000 in
set_option maxHeartbeats 4000000 in
theorem s_L_c18 {mn : String} {X : GX} (hX : XOK X) {b Ls : Nat} {xs : Nat → Int32} (hs : Scr X b Ls xs) {h0 : AH} {K : AH → Option (Int32 × AH)} {v1 v2 v3 : Option Nat} {x4 : Int32} (hK : ∀ h, Gp (p_L_law X h0) RL mn cL_law (some .boolean) 1550 [(0, vV (.ref b)), (1, vR v1), (2, vR v2), (3, vR v3), (4, vI x4)] [] h (K h)) (h : AH) : Gp (p_L_law X h0) RL mn cL_law (some .boolean) 778 [(0, vV (.ref b)), (1, vR v1), (2, vR v2), (3, vR v3), (4, vI x4)] [] h (f_L_c18 b Ls xs K v1 v2 v3 x4 h) := by
  unfold f_L_c18
  refine g_aload_n 1 dL_law_778 rfl rfl ?_
  refine g_callVI (st := []) (ci := 11) rfl (s_X11_ledger hX v1 h) kml_L_96 kim_X11_ledger kse_X11_ledger kii_X11 kcd_X11_ledger rfl ds_X11_ledger rfl ⟨Nat.le_of_ble_eq_true rfl, Nat.le_of_ble_eq_true rfl⟩ (Nat.le_of_ble_eq_true rfl) rfl dL_law_779 (fun r130 h129 => ?_)
  refine g_aload_n 2 dL_law_782 rfl rfl ?_
  refine g_callVI (st := [vI r130]) (ci := 12) rfl (s_X12_ledger hX v2 h129) kml_L_100 kim_X12_ledger kse_X12_ledger kii_X12 kcd_X12_ledger rfl ds_X12_ledger rfl ⟨Nat.le_of_ble_eq_true rfl, Nat.le_of_ble_eq_true rfl⟩ (Nat.le_of_ble_eq_true rfl) rfl dL_law_783 (fun r132 h131 => ?_)
  refine g_icmpeq (tgt := 1550) dL_law_786 (by decide) ?_ ?_
  · exact g_sub2 [0, 1, 2, 3, 4] rfl (hK h131)
  · refine g_iconst (v := 0) dL_law_789 (by decide) ?_
    exact g_zreturn (by decide +kernel) rfl dL_law_790
def f_L_c19 (b Ls : Nat) (xs : Nat → Int32) (K : AH → Option (Int32 × AH)) (v1 v2 v3 : Option Nat) (x4 : Int32) (h : AH) : Option (Int32 × AH) :=
    (scA b Ls xs b (x4 + 1)).bind fun t133 =>
    bd (cv h v1 11 (f_X11_tears v1 t133 h)) fun r135 h134 =>
    (scA b Ls xs b (x4 + 1)).bind fun t136 =>
    bd (cv h134 v2 12 (f_X12_tears v2 t136 h134)) fun r138 h137 =>
    (if r135 = r138 then
    K h137
    else some (0, h137))
set_option maxRecDepth 100000 in
set_option maxHeartbeats 4000000 in
theorem s_L_c19 {mn : String} {X : GX} (hX : XOK X) {b Ls : Nat} {xs : Nat → Int32} (hs : Scr X b Ls xs) {h0 : AH} {K : AH → Option (Int32 × AH)} {v1 v2 v3 : Option Nat} {x4 : Int32} (hK : ∀ h, Gp (p_L_law X h0) RL mn cL_law (some .boolean) 1550 [(0, vV (.ref b)), (1, vR v1), (2, vR v2), (3, vR v3), (4, vI x4)] [] h (K h)) (h : AH) : Gp (p_L_law X h0) RL mn cL_law (some .boolean) 791 [(0, vV (.ref b)), (1, vR v1), (2, vR v2), (3, vR v3), (4, vI x4)] [] h (f_L_c19 b Ls xs K v1 v2 v3 x4 h) := by
  unfold f_L_c19
  refine g_aload_n 1 dL_law_791 rfl rfl ?_
  refine g_aloadV 0 dL_law_792 rfl rfl ?_
  refine g_iload 4 dL_law_793 rfl ?_
  refine g_iconst (v := 1) dL_law_795 (by decide) ?_
  refine g_iadd dL_law_796 ?_
  refine g_scA hs dL_law_797 (fun t133 => ?_)
  refine g_callVI (st := []) (ci := 11) rfl (s_X11_tears hX v1 t133 h) kml_L_101 kim_X11_tears kse_X11_tears kii_X11 kcd_X11_tears rfl ds_X11_tears rfl ⟨Nat.le_of_ble_eq_true rfl, Nat.le_of_ble_eq_true rfl⟩ (Nat.le_of_ble_eq_true rfl) rfl dL_law_798 (fun r135 h134 => ?_)
  refine g_aload_n 2 dL_law_801 rfl rfl ?_
  refine g_aloadV 0 dL_law_802 rfl rfl ?_
  refine g_iload 4 dL_law_803 rfl ?_
  refine g_iconst (v := 1) dL_law_805 (by decide) ?_
  refine g_iadd dL_law_806 ?_
  refine g_scA hs dL_law_807 (fun t136 => ?_)
  refine g_callVI (st := [vI r135]) (ci := 12) rfl (s_X12_tears hX v2 t136 h134) kml_L_104 kim_X12_tears kse_X12_tears kii_X12 kcd_X12_tears rfl ds_X12_tears rfl ⟨Nat.le_of_ble_eq_true rfl, Nat.le_of_ble_eq_true rfl⟩ (Nat.le_of_ble_eq_true rfl) rfl dL_law_808 (fun r138 h137 => ?_)
  refine g_icmpeq (tgt := 1550) dL_law_811 (by decide) ?_ ?_
  · exact g_sub2 [0, 1, 2, 3, 4] rfl (hK h137)
  · refine g_iconst (v := 0) dL_law_814 (by decide) ?_
    exact g_zreturn (by decide +kernel) rfl dL_law_815
def f_L_c20 (b Ls : Nat) (xs : Nat → Int32) (K : AH → Option (Int32 × AH)) (v1 v2 v3 : Option Nat) (x4 : Int32) (h : AH) : Option (Int32 × AH) :=
    (scA b Ls xs b (x4 + 1)).bind fun t139 =>
    (scA b Ls xs b (x4 + 2)).bind fun t140 =>
    (scA b Ls xs b (x4 + 3)).bind fun t141 =>
    bd (cv h v1 11 (f_X11_whatIs v1 t139 t140 t141 h)) fun r143 h142 =>
    (scA b Ls xs b (x4 + 1)).bind fun t144 =>
    (scA b Ls xs b (x4 + 2)).bind fun t145 =>
    (scA b Ls xs b (x4 + 3)).bind fun t146 =>
    bd (cv h142 v2 12 (f_X12_whatIs v2 t144 t145 t146 h142)) fun r148 h147 =>
    (if r143 = r148 then
    K h147
    else some (0, h147))
set_option maxRecDepth 100000 in
set_option maxHeartbeats 4000000 in
theorem s_L_c20 {mn : String} {X : GX} (hX : XOK X) {b Ls : Nat} {xs : Nat → Int32} (hs : Scr X b Ls xs) {h0 : AH} {K : AH → Option (Int32 × AH)} {v1 v2 v3 : Option Nat} {x4 : Int32} (hK : ∀ h, Gp (p_L_law X h0) RL mn cL_law (some .boolean) 1550 [(0, vV (.ref b)), (1, vR v1), (2, vR v2), (3, vR v3), (4, vI x4)] [] h (K h)) (h : AH) : Gp (p_L_law X h0) RL mn cL_law (some .boolean) 816 [(0, vV (.ref b)), (1, vR v1), (2, vR v2), (3, vR v3), (4, vI x4)] [] h (f_L_c20 b Ls xs K v1 v2 v3 x4 h) := by
  unfold f_L_c20
  refine g_aload_n 1 dL_law_816 rfl rfl ?_
  refine g_aloadV 0 dL_law_817 rfl rfl ?_
  refine g_iload 4 dL_law_818 rfl ?_
  refine g_iconst (v := 1) dL_law_820 (by decide) ?_
  refine g_iadd dL_law_821 ?_
  refine g_scA hs dL_law_822 (fun t139 => ?_)
  refine g_aloadV 0 dL_law_823 rfl rfl ?_
  refine g_iload 4 dL_law_824 rfl ?_
  refine g_iconst (v := 2) dL_law_826 (by decide) ?_
  refine g_iadd dL_law_827 ?_
  refine g_scA hs dL_law_828 (fun t140 => ?_)
  refine g_aloadV 0 dL_law_829 rfl rfl ?_
  refine g_iload 4 dL_law_830 rfl ?_
  refine g_iconst (v := 3) dL_law_832 (by decide) ?_
  refine g_iadd dL_law_833 ?_
  refine g_scA hs dL_law_834 (fun t141 => ?_)
  refine g_callVI (st := []) (ci := 11) rfl (s_X11_whatIs hX v1 t139 t140 t141 h) kml_L_105 kim_X11_whatIs kse_X11_whatIs kii_X11 kcd_X11_whatIs rfl ds_X11_whatIs rfl ⟨Nat.le_of_ble_eq_true rfl, Nat.le_of_ble_eq_true rfl⟩ (Nat.le_of_ble_eq_true rfl) rfl dL_law_835 (fun r143 h142 => ?_)
  refine g_aload_n 2 dL_law_838 rfl rfl ?_
  refine g_aloadV 0 dL_law_839 rfl rfl ?_
  refine g_iload 4 dL_law_840 rfl ?_
  refine g_iconst (v := 1) dL_law_842 (by decide) ?_
  refine g_iadd dL_law_843 ?_
  refine g_scA hs dL_law_844 (fun t144 => ?_)
  refine g_aloadV 0 dL_law_845 rfl rfl ?_
  refine g_iload 4 dL_law_846 rfl ?_
  refine g_iconst (v := 2) dL_law_848 (by decide) ?_
  refine g_iadd dL_law_849 ?_
  refine g_scA hs dL_law_850 (fun t145 => ?_)
  refine g_aloadV 0 dL_law_851 rfl rfl ?_
  refine g_iload 4 dL_law_852 rfl ?_
  refine g_iconst (v := 3) dL_law_854 (by decide) ?_
  refine g_iadd dL_law_855 ?_
  refine g_scA hs dL_law_856 (fun t146 => ?_)
  refine g_callVI (st := [vI r143]) (ci := 12) rfl (s_X12_whatIs hX v2 t144 t145 t146 h142) kml_L_108 kim_X12_whatIs kse_X12_whatIs kii_X12 kcd_X12_whatIs rfl ds_X12_whatIs rfl ⟨Nat.le_of_ble_eq_true rfl, Nat.le_of_ble_eq_true rfl⟩ (Nat.le_of_ble_eq_true rfl) rfl dL_law_857 (fun r148 h147 => ?_)
  refine g_icmpeq (tgt := 1550) dL_law_860 (by decide) ?_ ?_
  · exact g_sub2 [0, 1, 2, 3, 4] rfl (hK h147)
  · refine g_iconst (v := 0) dL_law_863 (by decide) ?_
    exact g_zreturn (by decide +kernel) rfl dL_law_864
def f_L_c21 (b Ls : Nat) (xs : Nat → Int32) (K : AH → Option (Int32 × AH)) (v1 v2 v3 : Option Nat) (x4 : Int32) (h : AH) : Option (Int32 × AH) :=
    (scA b Ls xs b (x4 + 1)).bind fun t149 =>
    (scA b Ls xs b (x4 + 2)).bind fun t150 =>
    (scA b Ls xs b (x4 + 3)).bind fun t151 =>
    bd (cv h v1 11 (f_X11_cameWith v1 t149 t150 t151 h)) fun r153 h152 =>
    (scA b Ls xs b (x4 + 1)).bind fun t154 =>
    (scA b Ls xs b (x4 + 2)).bind fun t155 =>
    (scA b Ls xs b (x4 + 3)).bind fun t156 =>
    bd (cv h152 v2 12 (f_X12_cameWith v2 t154 t155 t156 h152)) fun r158 h157 =>
    (if r153 = r158 then
    K h157
    else some (0, h157))
set_option maxRecDepth 100000 in
set_option maxHeartbeats 4000000 in
theorem s_L_c21 {mn : String} {X : GX} (hX : XOK X) {b Ls : Nat} {xs : Nat → Int32} (hs : Scr X b Ls xs) {h0 : AH} {K : AH → Option (Int32 × AH)} {v1 v2 v3 : Option Nat} {x4 : Int32} (hK : ∀ h, Gp (p_L_law X h0) RL mn cL_law (some .boolean) 1550 [(0, vV (.ref b)), (1, vR v1), (2, vR v2), (3, vR v3), (4, vI x4)] [] h (K h)) (h : AH) : Gp (p_L_law X h0) RL mn cL_law (some .boolean) 865 [(0, vV (.ref b)), (1, vR v1), (2, vR v2), (3, vR v3), (4, vI x4)] [] h (f_L_c21 b Ls xs K v1 v2 v3 x4 h) := by
  unfold f_L_c21
  refine g_aload_n 1 dL_law_865 rfl rfl ?_
  refine g_aloadV 0 dL_law_866 rfl rfl ?_
  refine g_iload 4 dL_law_867 rfl ?_
  refine g_iconst (v := 1) dL_law_869 (by decide) ?_
  refine g_iadd dL_law_870 ?_
  refine g_scA hs dL_law_871 (fun t149 => ?_)
  refine g_aloadV 0 dL_law_872 rfl rfl ?_
  refine g_iload 4 dL_law_873 rfl ?_
  refine g_iconst (v := 2) dL_law_875 (by decide) ?_
  refine g_iadd dL_law_876 ?_
  refine g_scA hs dL_law_877 (fun t150 => ?_)
  refine g_aloadV 0 dL_law_878 rfl rfl ?_
  refine g_iload 4 dL_law_879 rfl ?_
  refine g_iconst (v := 3) dL_law_881 (by decide) ?_
  refine g_iadd dL_law_882 ?_
  refine g_scA hs dL_law_883 (fun t151 => ?_)
  refine g_callVI (st := []) (ci := 11) rfl (s_X11_cameWith hX v1 t149 t150 t151 h) kml_L_109 kim_X11_cameWith kse_X11_cameWith kii_X11 kcd_X11_cameWith rfl ds_X11_cameWith rfl ⟨Nat.le_of_ble_eq_true rfl, Nat.le_of_ble_eq_true rfl⟩ (Nat.le_of_ble_eq_true rfl) rfl dL_law_884 (fun r153 h152 => ?_)
  refine g_aload_n 2 dL_law_887 rfl rfl ?_
  refine g_aloadV 0 dL_law_888 rfl rfl ?_
  refine g_iload 4 dL_law_889 rfl ?_
  refine g_iconst (v := 1) dL_law_891 (by decide) ?_
  refine g_iadd dL_law_892 ?_
  refine g_scA hs dL_law_893 (fun t154 => ?_)
  refine g_aloadV 0 dL_law_894 rfl rfl ?_
  refine g_iload 4 dL_law_895 rfl ?_
  refine g_iconst (v := 2) dL_law_897 (by decide) ?_
  refine g_iadd dL_law_898 ?_
  refine g_scA hs dL_law_899 (fun t155 => ?_)
  refine g_aloadV 0 dL_law_900 rfl rfl ?_
  refine g_iload 4 dL_law_901 rfl ?_
  refine g_iconst (v := 3) dL_law_903 (by decide) ?_
  refine g_iadd dL_law_904 ?_
  refine g_scA hs dL_law_905 (fun t156 => ?_)
  refine g_callVI (st := [vI r153]) (ci := 12) rfl (s_X12_cameWith hX v2 t154 t155 t156 h152) kml_L_112 kim_X12_cameWith kse_X12_cameWith kii_X12 kcd_X12_cameWith rfl ds_X12_cameWith rfl ⟨Nat.le_of_ble_eq_true rfl, Nat.le_of_ble_eq_true rfl⟩ (Nat.le_of_ble_eq_true rfl) rfl dL_law_906 (fun r158 h157 => ?_)
  refine g_icmpeq (tgt := 1550) dL_law_909 (by decide) ?_ ?_
  · exact g_sub2 [0, 1, 2, 3, 4] rfl (hK h157)
  · refine g_iconst (v := 0) dL_law_912 (by decide) ?_
    exact g_zreturn (by decide +kernel) rfl dL_law_913
def f_L_c22 (b Ls : Nat) (xs : Nat → Int32) (K : AH → Option (Int32 × AH)) (v1 v2 v3 : Option Nat) (x4 : Int32) (h : AH) : Option (Int32 × AH) :=
    (scA b Ls xs b (x4 + 1)).bind fun t159 =>
    (scA b Ls xs b (x4 + 2)).bind fun t160 =>
    (scA b Ls xs b (x4 + 3)).bind fun t161 =>
    bd (cv h v1 11 (f_X11_two v1 t159 t160 t161 h)) fun r163 h162 =>
    (scA b Ls xs b (x4 + 1)).bind fun t164 =>
    (scA b Ls xs b (x4 + 2)).bind fun t165 =>
    (scA b Ls xs b (x4 + 3)).bind fun t166 =>
    bd (cv h162 v2 12 (f_X12_two v2 t164 t165 t166 h162)) fun r168 h167 =>
    (if r163 = r168 then
    K h167
    else some (0, h167))
set_option maxRecDepth 100000 in
set_option maxHeartbeats 4000000 in
theorem s_L_c22 {mn : String} {X : GX} (hX : XOK X) {b Ls : Nat} {xs : Nat → Int32} (hs : Scr X b Ls xs) {h0 : AH} {K : AH → Option (Int32 × AH)} {v1 v2 v3 : Option Nat} {x4 : Int32} (hK : ∀ h, Gp (p_L_law X h0) RL mn cL_law (some .boolean) 1550 [(0, vV (.ref b)), (1, vR v1), (2, vR v2), (3, vR v3), (4, vI x4)] [] h (K h)) (h : AH) : Gp (p_L_law X h0) RL mn cL_law (some .boolean) 914 [(0, vV (.ref b)), (1, vR v1), (2, vR v2), (3, vR v3), (4, vI x4)] [] h (f_L_c22 b Ls xs K v1 v2 v3 x4 h) := by
  unfold f_L_c22
  refine g_aload_n 1 dL_law_914 rfl rfl ?_
  refine g_aloadV 0 dL_law_915 rfl rfl ?_
  refine g_iload 4 dL_law_916 rfl ?_
  refine g_iconst (v := 1) dL_law_918 (by decide) ?_
  refine g_iadd dL_law_919 ?_
  refine g_scA hs dL_law_920 (fun t159 => ?_)
  refine g_aloadV 0 dL_law_921 rfl rfl ?_
  refine g_iload 4 dL_law_922 rfl ?_
  refine g_iconst (v := 2) dL_law_924 (by decide) ?_
  refine g_iadd dL_law_925 ?_
  refine g_scA hs dL_law_926 (fun t160 => ?_)
  refine g_aloadV 0 dL_law_927 rfl rfl ?_
  refine g_iload 4 dL_law_928 rfl ?_
  refine g_iconst (v := 3) dL_law_930 (by decide) ?_
  refine g_iadd dL_law_931 ?_
  refine g_scA hs dL_law_932 (fun t161 => ?_)
  refine g_callVI (st := []) (ci := 11) rfl (s_X11_two hX v1 t159 t160 t161 h) kml_L_113 kim_X11_two kse_X11_two kii_X11 kcd_X11_two rfl ds_X11_two rfl ⟨Nat.le_of_ble_eq_true rfl, Nat.le_of_ble_eq_true rfl⟩ (Nat.le_of_ble_eq_true rfl) rfl dL_law_933 (fun r163 h162 => ?_)
  refine g_aload_n 2 dL_law_936 rfl rfl ?_
  refine g_aloadV 0 dL_law_937 rfl rfl ?_
  refine g_iload 4 dL_law_938 rfl ?_
  refine g_iconst (v := 1) dL_law_940 (by decide) ?_
  refine g_iadd dL_law_941 ?_
  refine g_scA hs dL_law_942 (fun t164 => ?_)
  refine g_aloadV 0 dL_law_943 rfl rfl ?_
  refine g_iload 4 dL_law_944 rfl ?_
  refine g_iconst (v := 2) dL_law_946 (by decide) ?_
  refine g_iadd dL_law_947 ?_
  refine g_scA hs dL_law_948 (fun t165 => ?_)
  refine g_aloadV 0 dL_law_949 rfl rfl ?_
  refine g_iload 4 dL_law_950 rfl ?_
  refine g_iconst (v := 3) dL_law_952 (by decide) ?_
  refine g_iadd dL_law_953 ?_
  refine g_scA hs dL_law_954 (fun t166 => ?_)
  refine g_callVI (st := [vI r163]) (ci := 12) rfl (s_X12_two hX v2 t164 t165 t166 h162) kml_L_116 kim_X12_two kse_X12_two kii_X12 kcd_X12_two rfl ds_X12_two rfl ⟨Nat.le_of_ble_eq_true rfl, Nat.le_of_ble_eq_true rfl⟩ (Nat.le_of_ble_eq_true rfl) rfl dL_law_955 (fun r168 h167 => ?_)
  refine g_icmpeq (tgt := 1550) dL_law_958 (by decide) ?_ ?_
  · exact g_sub2 [0, 1, 2, 3, 4] rfl (hK h167)
  · refine g_iconst (v := 0) dL_law_961 (by decide) ?_
    exact g_zreturn (by decide +kernel) rfl dL_law_962
def f_L_c23 (b Ls : Nat) (xs : Nat → Int32) (K : AH → Option (Int32 × AH)) (v1 v2 v3 : Option Nat) (x4 : Int32) (h : AH) : Option (Int32 × AH) :=
    (scA b Ls xs b (x4 + 1)).bind fun t169 =>
    (scA b Ls xs b (x4 + 2)).bind fun t170 =>
    (scA b Ls xs b (x4 + 3)).bind fun t171 =>
    (scA b Ls xs b (x4 + 4)).bind fun t172 =>
    bd (cv h v1 11 (f_X11_feasts v1 t169 t170 t171 t172 h)) fun r174 h173 =>
    (scA b Ls xs b (x4 + 1)).bind fun t175 =>
    (scA b Ls xs b (x4 + 2)).bind fun t176 =>
    (scA b Ls xs b (x4 + 3)).bind fun t177 =>
    (scA b Ls xs b (x4 + 4)).bind fun t178 =>
    bd (cv h173 v2 12 (f_X12_feasts v2 t175 t176 t177 t178 h173)) fun r180 h179 =>
    (if (lg_cmp r174 r180) = 0 then
    K h179
    else some (0, h179))
set_option maxRecDepth 100000 in
set_option maxHeartbeats 4000000 in
theorem s_L_c23 {mn : String} {X : GX} (hX : XOK X) {b Ls : Nat} {xs : Nat → Int32} (hs : Scr X b Ls xs) {h0 : AH} {K : AH → Option (Int32 × AH)} {v1 v2 v3 : Option Nat} {x4 : Int32} (hK : ∀ h, Gp (p_L_law X h0) RL mn cL_law (some .boolean) 1550 [(0, vV (.ref b)), (1, vR v1), (2, vR v2), (3, vR v3), (4, vI x4)] [] h (K h)) (h : AH) : Gp (p_L_law X h0) RL mn cL_law (some .boolean) 963 [(0, vV (.ref b)), (1, vR v1), (2, vR v2), (3, vR v3), (4, vI x4)] [] h (f_L_c23 b Ls xs K v1 v2 v3 x4 h) := by
  unfold f_L_c23
  refine g_aload_n 1 dL_law_963 rfl rfl ?_
  refine g_aloadV 0 dL_law_964 rfl rfl ?_
  refine g_iload 4 dL_law_965 rfl ?_
  refine g_iconst (v := 1) dL_law_967 (by decide) ?_
  refine g_iadd dL_law_968 ?_
  refine g_scA hs dL_law_969 (fun t169 => ?_)
  refine g_aloadV 0 dL_law_970 rfl rfl ?_
  refine g_iload 4 dL_law_971 rfl ?_
  refine g_iconst (v := 2) dL_law_973 (by decide) ?_
  refine g_iadd dL_law_974 ?_
  refine g_scA hs dL_law_975 (fun t170 => ?_)
  refine g_aloadV 0 dL_law_976 rfl rfl ?_
  refine g_iload 4 dL_law_977 rfl ?_
  refine g_iconst (v := 3) dL_law_979 (by decide) ?_
  refine g_iadd dL_law_980 ?_
  refine g_scA hs dL_law_981 (fun t171 => ?_)
  refine g_aloadV 0 dL_law_982 rfl rfl ?_
  refine g_iload 4 dL_law_983 rfl ?_
  refine g_iconst (v := 4) dL_law_985 (by decide) ?_
  refine g_iadd dL_law_986 ?_
  refine g_scA hs dL_law_987 (fun t172 => ?_)
  refine g_callVJ (st := []) (ci := 11) rfl (s_X11_feasts hX v1 t169 t170 t171 t172 h) kml_L_117 kim_X11_feasts kse_X11_feasts kii_X11 kcd_X11_feasts rfl ds_X11_feasts rfl ⟨Nat.le_of_ble_eq_true rfl, Nat.le_of_ble_eq_true rfl⟩ (Nat.le_of_ble_eq_true rfl) rfl dL_law_988 (fun r174 h173 => ?_)
  refine g_aload_n 2 dL_law_991 rfl rfl ?_
  refine g_aloadV 0 dL_law_992 rfl rfl ?_
  refine g_iload 4 dL_law_993 rfl ?_
  refine g_iconst (v := 1) dL_law_995 (by decide) ?_
  refine g_iadd dL_law_996 ?_
  refine g_scA hs dL_law_997 (fun t175 => ?_)
  refine g_aloadV 0 dL_law_998 rfl rfl ?_
  refine g_iload 4 dL_law_999 rfl ?_
  refine g_iconst (v := 2) dL_law_1001 (by decide) ?_
  refine g_iadd dL_law_1002 ?_
  refine g_scA hs dL_law_1003 (fun t176 => ?_)
  refine g_aloadV 0 dL_law_1004 rfl rfl ?_
  refine g_iload 4 dL_law_1005 rfl ?_
  refine g_iconst (v := 3) dL_law_1007 (by decide) ?_
  refine g_iadd dL_law_1008 ?_
  refine g_scA hs dL_law_1009 (fun t177 => ?_)
  refine g_aloadV 0 dL_law_1010 rfl rfl ?_
  refine g_iload 4 dL_law_1011 rfl ?_
  refine g_iconst (v := 4) dL_law_1013 (by decide) ?_
  refine g_iadd dL_law_1014 ?_
  refine g_scA hs dL_law_1015 (fun t178 => ?_)
  refine g_callVJ (st := [vJ r174]) (ci := 12) rfl (s_X12_feasts hX v2 t175 t176 t177 t178 h173) kml_L_121 kim_X12_feasts kse_X12_feasts kii_X12 kcd_X12_feasts rfl ds_X12_feasts rfl ⟨Nat.le_of_ble_eq_true rfl, Nat.le_of_ble_eq_true rfl⟩ (Nat.le_of_ble_eq_true rfl) rfl dL_law_1016 (fun r180 h179 => ?_)
  refine g_lcmp dL_law_1019 ?_
  refine g_ifeq (tgt := 1550) dL_law_1020 (by decide) ?_ ?_
  · exact g_sub2 [0, 1, 2, 3, 4] rfl (hK h179)
  · refine g_iconst (v := 0) dL_law_1023 (by decide) ?_
    exact g_zreturn (by decide +kernel) rfl dL_law_1024
def f_L_c24 (b Ls : Nat) (xs : Nat → Int32) (K : AH → Option (Int32 × AH)) (v1 v2 v3 : Option Nat) (x4 : Int32) (h : AH) : Option (Int32 × AH) :=
    (scA b Ls xs b (x4 + 1)).bind fun t181 =>
    bd (cv h v1 11 (f_X11_mean v1 t181 h)) fun r183 h182 =>
    (scA b Ls xs b (x4 + 1)).bind fun t184 =>
    bd (cv h182 v2 12 (f_X12_mean v2 t184 h182)) fun r186 h185 =>
    (if (lg_cmp r183 r186) = 0 then
    K h185
    else some (0, h185))
set_option maxRecDepth 100000 in
set_option maxHeartbeats 4000000 in
theorem s_L_c24 {mn : String} {X : GX} (hX : XOK X) {b Ls : Nat} {xs : Nat → Int32} (hs : Scr X b Ls xs) {h0 : AH} {K : AH → Option (Int32 × AH)} {v1 v2 v3 : Option Nat} {x4 : Int32} (hK : ∀ h, Gp (p_L_law X h0) RL mn cL_law (some .boolean) 1550 [(0, vV (.ref b)), (1, vR v1), (2, vR v2), (3, vR v3), (4, vI x4)] [] h (K h)) (h : AH) : Gp (p_L_law X h0) RL mn cL_law (some .boolean) 1025 [(0, vV (.ref b)), (1, vR v1), (2, vR v2), (3, vR v3), (4, vI x4)] [] h (f_L_c24 b Ls xs K v1 v2 v3 x4 h) := by
  unfold f_L_c24
  refine g_aload_n 1 dL_law_1025 rfl rfl ?_
  refine g_aloadV 0 dL_law_1026 rfl rfl ?_
  refine g_iload 4 dL_law_1027 rfl ?_
  refine g_iconst (v := 1) dL_law_1029 (by decide) ?_
  refine g_iadd dL_law_1030 ?_
  refine g_scA hs dL_law_1031 (fun t181 => ?_)
  refine g_callVJ (st := []) (ci := 11) rfl (s_X11_mean hX v1 t181 h) kml_L_122 kim_X11_mean kse_X11_mean kii_X11 kcd_X11_mean rfl ds_X11_mean rfl ⟨Nat.le_of_ble_eq_true rfl, Nat.le_of_ble_eq_true rfl⟩ (Nat.le_of_ble_eq_true rfl) rfl dL_law_1032 (fun r183 h182 => ?_)
  refine g_aload_n 2 dL_law_1035 rfl rfl ?_
  refine g_aloadV 0 dL_law_1036 rfl rfl ?_
  refine g_iload 4 dL_law_1037 rfl ?_
  refine g_iconst (v := 1) dL_law_1039 (by decide) ?_
  refine g_iadd dL_law_1040 ?_
  refine g_scA hs dL_law_1041 (fun t184 => ?_)
  refine g_callVJ (st := [vJ r183]) (ci := 12) rfl (s_X12_mean hX v2 t184 h182) kml_L_126 kim_X12_mean kse_X12_mean kii_X12 kcd_X12_mean rfl ds_X12_mean rfl ⟨Nat.le_of_ble_eq_true rfl, Nat.le_of_ble_eq_true rfl⟩ (Nat.le_of_ble_eq_true rfl) rfl dL_law_1042 (fun r186 h185 => ?_)
  refine g_lcmp dL_law_1045 ?_
  refine g_ifeq (tgt := 1550) dL_law_1046 (by decide) ?_ ?_
  · exact g_sub2 [0, 1, 2, 3, 4] rfl (hK h185)
  · refine g_iconst (v := 0) dL_law_1049 (by decide) ?_
    exact g_zreturn (by decide +kernel) rfl dL_law_1050
def f_L_c25 (b Ls : Nat) (xs : Nat → Int32) (K : AH → Option (Int32 × AH)) (v1 v2 v3 : Option Nat) (x4 : Int32) (h : AH) : Option (Int32 × AH) :=
    (scA b Ls xs b (x4 + 1)).bind fun t187 =>
    bd (cv h v1 11 (f_X11_forged v1 t187 h)) fun r189 h188 =>
    (scA b Ls xs b (x4 + 1)).bind fun t190 =>
    bd (cv h188 v2 12 (f_X12_forged v2 t190 h188)) fun r192 h191 =>
    (if r189 = r192 then
    K h191
    else some (0, h191))
set_option maxRecDepth 100000 in
set_option maxHeartbeats 4000000 in
theorem s_L_c25 {mn : String} {X : GX} (hX : XOK X) {b Ls : Nat} {xs : Nat → Int32} (hs : Scr X b Ls xs) {h0 : AH} {K : AH → Option (Int32 × AH)} {v1 v2 v3 : Option Nat} {x4 : Int32} (hK : ∀ h, Gp (p_L_law X h0) RL mn cL_law (some .boolean) 1550 [(0, vV (.ref b)), (1, vR v1), (2, vR v2), (3, vR v3), (4, vI x4)] [] h (K h)) (h : AH) : Gp (p_L_law X h0) RL mn cL_law (some .boolean) 1051 [(0, vV (.ref b)), (1, vR v1), (2, vR v2), (3, vR v3), (4, vI x4)] [] h (f_L_c25 b Ls xs K v1 v2 v3 x4 h) := by
  unfold f_L_c25
  refine g_aload_n 1 dL_law_1051 rfl rfl ?_
  refine g_aloadV 0 dL_law_1052 rfl rfl ?_
  refine g_iload 4 dL_law_1053 rfl ?_
  refine g_iconst (v := 1) dL_law_1055 (by decide) ?_
  refine g_iadd dL_law_1056 ?_
  refine g_scA hs dL_law_1057 (fun t187 => ?_)
  refine g_callVI (st := []) (ci := 11) rfl (s_X11_forged hX v1 t187 h) kml_L_127 kim_X11_forged kse_X11_forged kii_X11 kcd_X11_forged rfl ds_X11_forged rfl ⟨Nat.le_of_ble_eq_true rfl, Nat.le_of_ble_eq_true rfl⟩ (Nat.le_of_ble_eq_true rfl) rfl dL_law_1058 (fun r189 h188 => ?_)
  refine g_aload_n 2 dL_law_1061 rfl rfl ?_
  refine g_aloadV 0 dL_law_1062 rfl rfl ?_
  refine g_iload 4 dL_law_1063 rfl ?_
  refine g_iconst (v := 1) dL_law_1065 (by decide) ?_
  refine g_iadd dL_law_1066 ?_
  refine g_scA hs dL_law_1067 (fun t190 => ?_)
  refine g_callVI (st := [vI r189]) (ci := 12) rfl (s_X12_forged hX v2 t190 h188) kml_L_130 kim_X12_forged kse_X12_forged kii_X12 kcd_X12_forged rfl ds_X12_forged rfl ⟨Nat.le_of_ble_eq_true rfl, Nat.le_of_ble_eq_true rfl⟩ (Nat.le_of_ble_eq_true rfl) rfl dL_law_1068 (fun r192 h191 => ?_)
  refine g_icmpeq (tgt := 1550) dL_law_1071 (by decide) ?_ ?_
  · exact g_sub2 [0, 1, 2, 3, 4] rfl (hK h191)
  · refine g_iconst (v := 0) dL_law_1074 (by decide) ?_
    exact g_zreturn (by decide +kernel) rfl dL_law_1075
def f_L_c26 (b Ls : Nat) (xs : Nat → Int32) (K : AH → Option (Int32 × AH)) (v1 v2 v3 : Option Nat) (x4 : Int32) (h : AH) : Option (Int32 × AH) :=
    (scA b Ls xs b (x4 + 1)).bind fun t193 =>
    bd (cv h v1 11 (f_X11_judge v1 t193 h)) fun r195 h194 =>
    (scA b Ls xs b (x4 + 1)).bind fun t196 =>
    bd (cv h194 v2 12 (f_X12_judge v2 t196 h194)) fun r198 h197 =>
    (if r195 = r198 then
    K h197
    else some (0, h197))
set_option maxRecDepth 100000 in
set_option maxHeartbeats 4000000 in
theorem s_L_c26 {mn : String} {X : GX} (hX : XOK X) {b Ls : Nat} {xs : Nat → Int32} (hs : Scr X b Ls xs) {h0 : AH} {K : AH → Option (Int32 × AH)} {v1 v2 v3 : Option Nat} {x4 : Int32} (hK : ∀ h, Gp (p_L_law X h0) RL mn cL_law (some .boolean) 1550 [(0, vV (.ref b)), (1, vR v1), (2, vR v2), (3, vR v3), (4, vI x4)] [] h (K h)) (h : AH) : Gp (p_L_law X h0) RL mn cL_law (some .boolean) 1076 [(0, vV (.ref b)), (1, vR v1), (2, vR v2), (3, vR v3), (4, vI x4)] [] h (f_L_c26 b Ls xs K v1 v2 v3 x4 h) := by
  unfold f_L_c26
  refine g_aload_n 1 dL_law_1076 rfl rfl ?_
  refine g_aloadV 0 dL_law_1077 rfl rfl ?_
  refine g_iload 4 dL_law_1078 rfl ?_
  refine g_iconst (v := 1) dL_law_1080 (by decide) ?_
  refine g_iadd dL_law_1081 ?_
  refine g_scA hs dL_law_1082 (fun t193 => ?_)
  refine g_callVI (st := []) (ci := 11) rfl (s_X11_judge hX v1 t193 h) kml_L_131 kim_X11_judge kse_X11_judge kii_X11 kcd_X11_judge rfl ds_X11_judge rfl ⟨Nat.le_of_ble_eq_true rfl, Nat.le_of_ble_eq_true rfl⟩ (Nat.le_of_ble_eq_true rfl) rfl dL_law_1083 (fun r195 h194 => ?_)
  refine g_aload_n 2 dL_law_1086 rfl rfl ?_
  refine g_aloadV 0 dL_law_1087 rfl rfl ?_
  refine g_iload 4 dL_law_1088 rfl ?_
  refine g_iconst (v := 1) dL_law_1090 (by decide) ?_
  refine g_iadd dL_law_1091 ?_
  refine g_scA hs dL_law_1092 (fun t196 => ?_)
  refine g_callVI (st := [vI r195]) (ci := 12) rfl (s_X12_judge hX v2 t196 h194) kml_L_134 kim_X12_judge kse_X12_judge kii_X12 kcd_X12_judge rfl ds_X12_judge rfl ⟨Nat.le_of_ble_eq_true rfl, Nat.le_of_ble_eq_true rfl⟩ (Nat.le_of_ble_eq_true rfl) rfl dL_law_1093 (fun r198 h197 => ?_)
  refine g_icmpeq (tgt := 1550) dL_law_1096 (by decide) ?_ ?_
  · exact g_sub2 [0, 1, 2, 3, 4] rfl (hK h197)
  · refine g_iconst (v := 0) dL_law_1099 (by decide) ?_
    exact g_zreturn (by decide +kernel) rfl dL_law_1100
def f_L_c27 (b Ls : Nat) (xs : Nat → Int32) (K : AH → Option (Int32 × AH)) (v1 v2 v3 : Option Nat) (x4 : Int32) (h : AH) : Option (Int32 × AH) :=
    (scA b Ls xs b (x4 + 1)).bind fun t199 =>
    (scA b Ls xs b (x4 + 2)).bind fun t200 =>
    (scA b Ls xs b (x4 + 3)).bind fun t201 =>
    bd (cv h v1 11 (f_X11_seasons v1 t199 t200 t201 h)) fun r203 h202 =>
    (scA b Ls xs b (x4 + 1)).bind fun t204 =>
    (scA b Ls xs b (x4 + 2)).bind fun t205 =>
    (scA b Ls xs b (x4 + 3)).bind fun t206 =>
    bd (cv h202 v2 12 (f_X12_seasons v2 t204 t205 t206 h202)) fun r208 h207 =>
    (if r203 = r208 then
    K h207
    else some (0, h207))
set_option maxRecDepth 100000 in
set_option maxHeartbeats 4000000 in
theorem s_L_c27 {mn : String} {X : GX} (hX : XOK X) {b Ls : Nat} {xs : Nat → Int32} (hs : Scr X b Ls xs) {h0 : AH} {K : AH → Option (Int32 × AH)} {v1 v2 v3 : Option Nat} {x4 : Int32} (hK : ∀ h, Gp (p_L_law X h0) RL mn cL_law (some .boolean) 1550 [(0, vV (.ref b)), (1, vR v1), (2, vR v2), (3, vR v3), (4, vI x4)] [] h (K h)) (h : AH) : Gp (p_L_law X h0) RL mn cL_law (some .boolean) 1101 [(0, vV (.ref b)), (1, vR v1), (2, vR v2), (3, vR v3), (4, vI x4)] [] h (f_L_c27 b Ls xs K v1 v2 v3 x4 h) := by
  unfold f_L_c27
  refine g_aload_n 1 dL_law_1101 rfl rfl ?_
  refine g_aloadV 0 dL_law_1102 rfl rfl ?_
  refine g_iload 4 dL_law_1103 rfl ?_
  refine g_iconst (v := 1) dL_law_1105 (by decide) ?_
  refine g_iadd dL_law_1106 ?_
  refine g_scA hs dL_law_1107 (fun t199 => ?_)
  refine g_aloadV 0 dL_law_1108 rfl rfl ?_
  refine g_iload 4 dL_law_1109 rfl ?_
  refine g_iconst (v := 2) dL_law_1111 (by decide) ?_
  refine g_iadd dL_law_1112 ?_
  refine g_scA hs dL_law_1113 (fun t200 => ?_)
  refine g_aloadV 0 dL_law_1114 rfl rfl ?_
  refine g_iload 4 dL_law_1115 rfl ?_
  refine g_iconst (v := 3) dL_law_1117 (by decide) ?_
  refine g_iadd dL_law_1118 ?_
  refine g_scA hs dL_law_1119 (fun t201 => ?_)
  refine g_callVI (st := []) (ci := 11) rfl (s_X11_seasons hX v1 t199 t200 t201 h) kml_L_135 kim_X11_seasons kse_X11_seasons kii_X11 kcd_X11_seasons rfl ds_X11_seasons rfl ⟨Nat.le_of_ble_eq_true rfl, Nat.le_of_ble_eq_true rfl⟩ (Nat.le_of_ble_eq_true rfl) rfl dL_law_1120 (fun r203 h202 => ?_)
  refine g_aload_n 2 dL_law_1123 rfl rfl ?_
  refine g_aloadV 0 dL_law_1124 rfl rfl ?_
  refine g_iload 4 dL_law_1125 rfl ?_
  refine g_iconst (v := 1) dL_law_1127 (by decide) ?_
  refine g_iadd dL_law_1128 ?_
  refine g_scA hs dL_law_1129 (fun t204 => ?_)
  refine g_aloadV 0 dL_law_1130 rfl rfl ?_
  refine g_iload 4 dL_law_1131 rfl ?_
  refine g_iconst (v := 2) dL_law_1133 (by decide) ?_
  refine g_iadd dL_law_1134 ?_
  refine g_scA hs dL_law_1135 (fun t205 => ?_)
  refine g_aloadV 0 dL_law_1136 rfl rfl ?_
  refine g_iload 4 dL_law_1137 rfl ?_
  refine g_iconst (v := 3) dL_law_1139 (by decide) ?_
  refine g_iadd dL_law_1140 ?_
  refine g_scA hs dL_law_1141 (fun t206 => ?_)
  refine g_callVI (st := [vI r203]) (ci := 12) rfl (s_X12_seasons hX v2 t204 t205 t206 h202) kml_L_138 kim_X12_seasons kse_X12_seasons kii_X12 kcd_X12_seasons rfl ds_X12_seasons rfl ⟨Nat.le_of_ble_eq_true rfl, Nat.le_of_ble_eq_true rfl⟩ (Nat.le_of_ble_eq_true rfl) rfl dL_law_1142 (fun r208 h207 => ?_)
  refine g_icmpeq (tgt := 1550) dL_law_1145 (by decide) ?_ ?_
  · exact g_sub2 [0, 1, 2, 3, 4] rfl (hK h207)
  · refine g_iconst (v := 0) dL_law_1148 (by decide) ?_
    exact g_zreturn (by decide +kernel) rfl dL_law_1149
def f_L_c28 (b Ls : Nat) (xs : Nat → Int32) (K : AH → Option (Int32 × AH)) (v1 v2 v3 : Option Nat) (x4 : Int32) (h : AH) : Option (Int32 × AH) :=
    bd (cv h v1 11 (f_X11_image v1 h)) fun r210 h209 =>
    bd (cv h209 v2 12 (f_X12_image v2 h209)) fun r212 h211 =>
    (if r210 = r212 then
    K h211
    else some (0, h211))
set_option maxRecDepth 100000 in
set_option maxHeartbeats 4000000 in
theorem s_L_c28 {mn : String} {X : GX} (hX : XOK X) {b Ls : Nat} {xs : Nat → Int32} (hs : Scr X b Ls xs) {h0 : AH} {K : AH → Option (Int32 × AH)} {v1 v2 v3 : Option Nat} {x4 : Int32} (hK : ∀ h, Gp (p_L_law X h0) RL mn cL_law (some .boolean) 1550 [(0, vV (.ref b)), (1, vR v1), (2, vR v2), (3, vR v3), (4, vI x4)] [] h (K h)) (h : AH) : Gp (p_L_law X h0) RL mn cL_law (some .boolean) 1150 [(0, vV (.ref b)), (1, vR v1), (2, vR v2), (3, vR v3), (4, vI x4)] [] h (f_L_c28 b Ls xs K v1 v2 v3 x4 h) := by
  unfold f_L_c28
  refine g_aload_n 1 dL_law_1150 rfl rfl ?_
  refine g_callVI (st := []) (ci := 11) rfl (s_X11_image hX v1 h) kml_L_139 kim_X11_image kse_X11_image kii_X11 kcd_X11_image rfl ds_X11_image rfl ⟨Nat.le_of_ble_eq_true rfl, Nat.le_of_ble_eq_true rfl⟩ (Nat.le_of_ble_eq_true rfl) rfl dL_law_1151 (fun r210 h209 => ?_)
  refine g_aload_n 2 dL_law_1154 rfl rfl ?_
  refine g_callVI (st := [vI r210]) (ci := 12) rfl (s_X12_image hX v2 h209) kml_L_142 kim_X12_image kse_X12_image kii_X12 kcd_X12_image rfl ds_X12_image rfl ⟨Nat.le_of_ble_eq_true rfl, Nat.le_of_ble_eq_true rfl⟩ (Nat.le_of_ble_eq_true rfl) rfl dL_law_1155 (fun r212 h211 => ?_)
  refine g_icmpeq (tgt := 1550) dL_law_1158 (by decide) ?_ ?_
  · exact g_sub2 [0, 1, 2, 3, 4] rfl (hK h211)
  · refine g_iconst (v := 0) dL_law_1161 (by decide) ?_
    exact g_zreturn (by decide +kernel) rfl dL_law_1162
def f_L_c29 (b Ls : Nat) (xs : Nat → Int32) (K : AH → Option (Int32 × AH)) (v1 v2 v3 : Option Nat) (x4 : Int32) (h : AH) : Option (Int32 × AH) :=
    bd (cv h v1 11 (f_X11_restore v1 h)) fun r214 h213 =>
    bd (cv h213 v2 12 (f_X12_restore v2 h213)) fun r216 h215 =>
    (if r214 = r216 then
    K h215
    else some (0, h215))
set_option maxRecDepth 100000 in
set_option maxHeartbeats 4000000 in
theorem s_L_c29 {mn : String} {X : GX} (hX : XOK X) {b Ls : Nat} {xs : Nat → Int32} (hs : Scr X b Ls xs) {h0 : AH} {K : AH → Option (Int32 × AH)} {v1 v2 v3 : Option Nat} {x4 : Int32} (hK : ∀ h, Gp (p_L_law X h0) RL mn cL_law (some .boolean) 1550 [(0, vV (.ref b)), (1, vR v1), (2, vR v2), (3, vR v3), (4, vI x4)] [] h (K h)) (h : AH) : Gp (p_L_law X h0) RL mn cL_law (some .boolean) 1163 [(0, vV (.ref b)), (1, vR v1), (2, vR v2), (3, vR v3), (4, vI x4)] [] h (f_L_c29 b Ls xs K v1 v2 v3 x4 h) := by
  unfold f_L_c29
  refine g_aload_n 1 dL_law_1163 rfl rfl ?_
  refine g_callVI (st := []) (ci := 11) rfl (s_X11_restore hX v1 h) kml_L_143 kim_X11_restore kse_X11_restore kii_X11 kcd_X11_restore rfl ds_X11_restore rfl ⟨Nat.le_of_ble_eq_true rfl, Nat.le_of_ble_eq_true rfl⟩ (Nat.le_of_ble_eq_true rfl) rfl dL_law_1164 (fun r214 h213 => ?_)
  refine g_aload_n 2 dL_law_1167 rfl rfl ?_
  refine g_callVI (st := [vI r214]) (ci := 12) rfl (s_X12_restore hX v2 h213) kml_L_146 kim_X12_restore kse_X12_restore kii_X12 kcd_X12_restore rfl ds_X12_restore rfl ⟨Nat.le_of_ble_eq_true rfl, Nat.le_of_ble_eq_true rfl⟩ (Nat.le_of_ble_eq_true rfl) rfl dL_law_1168 (fun r216 h215 => ?_)
  refine g_icmpeq (tgt := 1550) dL_law_1171 (by decide) ?_ ?_
  · exact g_sub2 [0, 1, 2, 3, 4] rfl (hK h215)
  · refine g_iconst (v := 0) dL_law_1174 (by decide) ?_
    exact g_zreturn (by decide +kernel) rfl dL_law_1175
def f_L_c30 (b Ls : Nat) (xs : Nat → Int32) (K : AH → Option (Int32 × AH)) (v1 v2 v3 : Option Nat) (x4 : Int32) (h : AH) : Option (Int32 × AH) :=
    (scA b Ls xs b (x4 + 1)).bind fun t217 =>
    bd (cv h v1 11 (f_X11_count v1 t217 h)) fun r219 h218 =>
    (scA b Ls xs b (x4 + 1)).bind fun t220 =>
    bd (cv h218 v2 12 (f_X12_count v2 t220 h218)) fun r222 h221 =>
    (if r219 = r222 then
    K h221
    else some (0, h221))
set_option maxRecDepth 100000 in
set_option maxHeartbeats 4000000 in
theorem s_L_c30 {mn : String} {X : GX} (hX : XOK X) {b Ls : Nat} {xs : Nat → Int32} (hs : Scr X b Ls xs) {h0 : AH} {K : AH → Option (Int32 × AH)} {v1 v2 v3 : Option Nat} {x4 : Int32} (hK : ∀ h, Gp (p_L_law X h0) RL mn cL_law (some .boolean) 1550 [(0, vV (.ref b)), (1, vR v1), (2, vR v2), (3, vR v3), (4, vI x4)] [] h (K h)) (h : AH) : Gp (p_L_law X h0) RL mn cL_law (some .boolean) 1176 [(0, vV (.ref b)), (1, vR v1), (2, vR v2), (3, vR v3), (4, vI x4)] [] h (f_L_c30 b Ls xs K v1 v2 v3 x4 h) := by
  unfold f_L_c30
  refine g_aload_n 1 dL_law_1176 rfl rfl ?_
  refine g_aloadV 0 dL_law_1177 rfl rfl ?_
  refine g_iload 4 dL_law_1178 rfl ?_
  refine g_iconst (v := 1) dL_law_1180 (by decide) ?_
  refine g_iadd dL_law_1181 ?_
  refine g_scA hs dL_law_1182 (fun t217 => ?_)
  refine g_callVI (st := []) (ci := 11) rfl (s_X11_count hX v1 t217 h) kml_L_147 kim_X11_count kse_X11_count kii_X11 kcd_X11_count rfl ds_X11_count rfl ⟨Nat.le_of_ble_eq_true rfl, Nat.le_of_ble_eq_true rfl⟩ (Nat.le_of_ble_eq_true rfl) rfl dL_law_1183 (fun r219 h218 => ?_)
  refine g_aload_n 2 dL_law_1186 rfl rfl ?_
  refine g_aloadV 0 dL_law_1187 rfl rfl ?_
  refine g_iload 4 dL_law_1188 rfl ?_
  refine g_iconst (v := 1) dL_law_1190 (by decide) ?_
  refine g_iadd dL_law_1191 ?_
  refine g_scA hs dL_law_1192 (fun t220 => ?_)
  refine g_callVI (st := [vI r219]) (ci := 12) rfl (s_X12_count hX v2 t220 h218) kml_L_150 kim_X12_count kse_X12_count kii_X12 kcd_X12_count rfl ds_X12_count rfl ⟨Nat.le_of_ble_eq_true rfl, Nat.le_of_ble_eq_true rfl⟩ (Nat.le_of_ble_eq_true rfl) rfl dL_law_1193 (fun r222 h221 => ?_)
  refine g_icmpeq (tgt := 1550) dL_law_1196 (by decide) ?_ ?_
  · exact g_sub2 [0, 1, 2, 3, 4] rfl (hK h221)
  · refine g_iconst (v := 0) dL_law_1199 (by decide) ?_
    exact g_zreturn (by decide +kernel) rfl dL_law_1200
def f_L_c31 (b Ls : Nat) (xs : Nat → Int32) (K : AH → Option (Int32 × AH)) (v1 v2 v3 : Option Nat) (x4 : Int32) (h : AH) : Option (Int32 × AH) :=
    (scA b Ls xs b (x4 + 1)).bind fun t223 =>
    (scA b Ls xs b (x4 + 2)).bind fun t224 =>
    (scA b Ls xs b (x4 + 3)).bind fun t225 =>
    (scA b Ls xs b (x4 + 4)).bind fun t226 =>
    bd (cv h v1 11 (f_X11_keep v1 t223 t224 t225 t226 h)) fun r228 h227 =>
    (scA b Ls xs b (x4 + 1)).bind fun t229 =>
    (scA b Ls xs b (x4 + 2)).bind fun t230 =>
    (scA b Ls xs b (x4 + 3)).bind fun t231 =>
    (scA b Ls xs b (x4 + 4)).bind fun t232 =>
    bd (cv h227 v2 12 (f_X12_keep v2 t229 t230 t231 t232 h227)) fun r234 h233 =>
    (if r228 = r234 then
    K h233
    else some (0, h233))
set_option maxRecDepth 100000 in
set_option maxHeartbeats 4000000 in
theorem s_L_c31 {mn : String} {X : GX} (hX : XOK X) {b Ls : Nat} {xs : Nat → Int32} (hs : Scr X b Ls xs) {h0 : AH} {K : AH → Option (Int32 × AH)} {v1 v2 v3 : Option Nat} {x4 : Int32} (hK : ∀ h, Gp (p_L_law X h0) RL mn cL_law (some .boolean) 1550 [(0, vV (.ref b)), (1, vR v1), (2, vR v2), (3, vR v3), (4, vI x4)] [] h (K h)) (h : AH) : Gp (p_L_law X h0) RL mn cL_law (some .boolean) 1201 [(0, vV (.ref b)), (1, vR v1), (2, vR v2), (3, vR v3), (4, vI x4)] [] h (f_L_c31 b Ls xs K v1 v2 v3 x4 h) := by
  unfold f_L_c31
  refine g_aload_n 1 dL_law_1201 rfl rfl ?_
  refine g_aloadV 0 dL_law_1202 rfl rfl ?_
  refine g_iload 4 dL_law_1203 rfl ?_
  refine g_iconst (v := 1) dL_law_1205 (by decide) ?_
  refine g_iadd dL_law_1206 ?_
  refine g_scA hs dL_law_1207 (fun t223 => ?_)
  refine g_aloadV 0 dL_law_1208 rfl rfl ?_
  refine g_iload 4 dL_law_1209 rfl ?_
  refine g_iconst (v := 2) dL_law_1211 (by decide) ?_
  refine g_iadd dL_law_1212 ?_
  refine g_scA hs dL_law_1213 (fun t224 => ?_)
  refine g_aloadV 0 dL_law_1214 rfl rfl ?_
  refine g_iload 4 dL_law_1215 rfl ?_
  refine g_iconst (v := 3) dL_law_1217 (by decide) ?_
  refine g_iadd dL_law_1218 ?_
  refine g_scA hs dL_law_1219 (fun t225 => ?_)
  refine g_aloadV 0 dL_law_1220 rfl rfl ?_
  refine g_iload 4 dL_law_1221 rfl ?_
  refine g_iconst (v := 4) dL_law_1223 (by decide) ?_
  refine g_iadd dL_law_1224 ?_
  refine g_scA hs dL_law_1225 (fun t226 => ?_)
  refine g_callVI (st := []) (ci := 11) rfl (s_X11_keep hX v1 t223 t224 t225 t226 h) kml_L_151 kim_X11_keep kse_X11_keep kii_X11 kcd_X11_keep rfl ds_X11_keep rfl ⟨Nat.le_of_ble_eq_true rfl, Nat.le_of_ble_eq_true rfl⟩ (Nat.le_of_ble_eq_true rfl) rfl dL_law_1226 (fun r228 h227 => ?_)
  refine g_aload_n 2 dL_law_1229 rfl rfl ?_
  refine g_aloadV 0 dL_law_1230 rfl rfl ?_
  refine g_iload 4 dL_law_1231 rfl ?_
  refine g_iconst (v := 1) dL_law_1233 (by decide) ?_
  refine g_iadd dL_law_1234 ?_
  refine g_scA hs dL_law_1235 (fun t229 => ?_)
  refine g_aloadV 0 dL_law_1236 rfl rfl ?_
  refine g_iload 4 dL_law_1237 rfl ?_
  refine g_iconst (v := 2) dL_law_1239 (by decide) ?_
  refine g_iadd dL_law_1240 ?_
  refine g_scA hs dL_law_1241 (fun t230 => ?_)
  refine g_aloadV 0 dL_law_1242 rfl rfl ?_
  refine g_iload 4 dL_law_1243 rfl ?_
  refine g_iconst (v := 3) dL_law_1245 (by decide) ?_
  refine g_iadd dL_law_1246 ?_
  refine g_scA hs dL_law_1247 (fun t231 => ?_)
  refine g_aloadV 0 dL_law_1248 rfl rfl ?_
  refine g_iload 4 dL_law_1249 rfl ?_
  refine g_iconst (v := 4) dL_law_1251 (by decide) ?_
  refine g_iadd dL_law_1252 ?_
  refine g_scA hs dL_law_1253 (fun t232 => ?_)
  refine g_callVI (st := [vI r228]) (ci := 12) rfl (s_X12_keep hX v2 t229 t230 t231 t232 h227) kml_L_155 kim_X12_keep kse_X12_keep kii_X12 kcd_X12_keep rfl ds_X12_keep rfl ⟨Nat.le_of_ble_eq_true rfl, Nat.le_of_ble_eq_true rfl⟩ (Nat.le_of_ble_eq_true rfl) rfl dL_law_1254 (fun r234 h233 => ?_)
  refine g_icmpeq (tgt := 1550) dL_law_1257 (by decide) ?_ ?_
  · exact g_sub2 [0, 1, 2, 3, 4] rfl (hK h233)
  · refine g_iconst (v := 0) dL_law_1260 (by decide) ?_
    exact g_zreturn (by decide +kernel) rfl dL_law_1261
def f_L_c32 (b Ls : Nat) (xs : Nat → Int32) (K : AH → Option (Int32 × AH)) (v1 v2 v3 : Option Nat) (x4 : Int32) (h : AH) : Option (Int32 × AH) :=
    (scA b Ls xs b (x4 + 1)).bind fun t235 =>
    (scA b Ls xs b (x4 + 2)).bind fun t236 =>
    (scA b Ls xs b (x4 + 3)).bind fun t237 =>
    bd (cv h v1 11 (f_X11_row v1 t235 t236 t237 h)) fun r239 h238 =>
    (scA b Ls xs b (x4 + 1)).bind fun t240 =>
    (scA b Ls xs b (x4 + 2)).bind fun t241 =>
    (scA b Ls xs b (x4 + 3)).bind fun t242 =>
    bd (cv h238 v2 12 (f_X12_row v2 t240 t241 t242 h238)) fun r244 h243 =>
    (if r239 = r244 then
    K h243
    else some (0, h243))
set_option maxRecDepth 100000 in
set_option maxHeartbeats 4000000 in
theorem s_L_c32 {mn : String} {X : GX} (hX : XOK X) {b Ls : Nat} {xs : Nat → Int32} (hs : Scr X b Ls xs) {h0 : AH} {K : AH → Option (Int32 × AH)} {v1 v2 v3 : Option Nat} {x4 : Int32} (hK : ∀ h, Gp (p_L_law X h0) RL mn cL_law (some .boolean) 1550 [(0, vV (.ref b)), (1, vR v1), (2, vR v2), (3, vR v3), (4, vI x4)] [] h (K h)) (h : AH) : Gp (p_L_law X h0) RL mn cL_law (some .boolean) 1262 [(0, vV (.ref b)), (1, vR v1), (2, vR v2), (3, vR v3), (4, vI x4)] [] h (f_L_c32 b Ls xs K v1 v2 v3 x4 h) := by
  unfold f_L_c32
  refine g_aload_n 1 dL_law_1262 rfl rfl ?_
  refine g_aloadV 0 dL_law_1263 rfl rfl ?_
  refine g_iload 4 dL_law_1264 rfl ?_
  refine g_iconst (v := 1) dL_law_1266 (by decide) ?_
  refine g_iadd dL_law_1267 ?_
  refine g_scA hs dL_law_1268 (fun t235 => ?_)
  refine g_aloadV 0 dL_law_1269 rfl rfl ?_
  refine g_iload 4 dL_law_1270 rfl ?_
  refine g_iconst (v := 2) dL_law_1272 (by decide) ?_
  refine g_iadd dL_law_1273 ?_
  refine g_scA hs dL_law_1274 (fun t236 => ?_)
  refine g_aloadV 0 dL_law_1275 rfl rfl ?_
  refine g_iload 4 dL_law_1276 rfl ?_
  refine g_iconst (v := 3) dL_law_1278 (by decide) ?_
  refine g_iadd dL_law_1279 ?_
  refine g_scA hs dL_law_1280 (fun t237 => ?_)
  refine g_callVI (st := []) (ci := 11) rfl (s_X11_row hX v1 t235 t236 t237 h) kml_L_156 kim_X11_row kse_X11_row kii_X11 kcd_X11_row rfl ds_X11_row rfl ⟨Nat.le_of_ble_eq_true rfl, Nat.le_of_ble_eq_true rfl⟩ (Nat.le_of_ble_eq_true rfl) rfl dL_law_1281 (fun r239 h238 => ?_)
  refine g_aload_n 2 dL_law_1284 rfl rfl ?_
  refine g_aloadV 0 dL_law_1285 rfl rfl ?_
  refine g_iload 4 dL_law_1286 rfl ?_
  refine g_iconst (v := 1) dL_law_1288 (by decide) ?_
  refine g_iadd dL_law_1289 ?_
  refine g_scA hs dL_law_1290 (fun t240 => ?_)
  refine g_aloadV 0 dL_law_1291 rfl rfl ?_
  refine g_iload 4 dL_law_1292 rfl ?_
  refine g_iconst (v := 2) dL_law_1294 (by decide) ?_
  refine g_iadd dL_law_1295 ?_
  refine g_scA hs dL_law_1296 (fun t241 => ?_)
  refine g_aloadV 0 dL_law_1297 rfl rfl ?_
  refine g_iload 4 dL_law_1298 rfl ?_
  refine g_iconst (v := 3) dL_law_1300 (by decide) ?_
  refine g_iadd dL_law_1301 ?_
  refine g_scA hs dL_law_1302 (fun t242 => ?_)
  refine g_callVI (st := [vI r239]) (ci := 12) rfl (s_X12_row hX v2 t240 t241 t242 h238) kml_L_159 kim_X12_row kse_X12_row kii_X12 kcd_X12_row rfl ds_X12_row rfl ⟨Nat.le_of_ble_eq_true rfl, Nat.le_of_ble_eq_true rfl⟩ (Nat.le_of_ble_eq_true rfl) rfl dL_law_1303 (fun r244 h243 => ?_)
  refine g_icmpeq (tgt := 1550) dL_law_1306 (by decide) ?_ ?_
  · exact g_sub2 [0, 1, 2, 3, 4] rfl (hK h243)
  · refine g_iconst (v := 0) dL_law_1309 (by decide) ?_
    exact g_zreturn (by decide +kernel) rfl dL_law_1310
def f_L_c33 (b Ls : Nat) (xs : Nat → Int32) (K : AH → Option (Int32 × AH)) (v1 v2 v3 : Option Nat) (x4 : Int32) (h : AH) : Option (Int32 × AH) :=
    (scA b Ls xs b (x4 + 1)).bind fun t245 =>
    (scA b Ls xs b (x4 + 2)).bind fun t246 =>
    (scA b Ls xs b (x4 + 3)).bind fun t247 =>
    bd (cv h v1 11 (f_X11_put v1 t245 t246 t247 h)) fun r249 h248 =>
    (scA b Ls xs b (x4 + 1)).bind fun t250 =>
    (scA b Ls xs b (x4 + 2)).bind fun t251 =>
    (scA b Ls xs b (x4 + 3)).bind fun t252 =>
    bd (cv h248 v2 12 (f_X12_put v2 t250 t251 t252 h248)) fun r254 h253 =>
    (if r249 = r254 then
    K h253
    else some (0, h253))
set_option maxRecDepth 100000 in
set_option maxHeartbeats 4000000 in
theorem s_L_c33 {mn : String} {X : GX} (hX : XOK X) {b Ls : Nat} {xs : Nat → Int32} (hs : Scr X b Ls xs) {h0 : AH} {K : AH → Option (Int32 × AH)} {v1 v2 v3 : Option Nat} {x4 : Int32} (hK : ∀ h, Gp (p_L_law X h0) RL mn cL_law (some .boolean) 1550 [(0, vV (.ref b)), (1, vR v1), (2, vR v2), (3, vR v3), (4, vI x4)] [] h (K h)) (h : AH) : Gp (p_L_law X h0) RL mn cL_law (some .boolean) 1311 [(0, vV (.ref b)), (1, vR v1), (2, vR v2), (3, vR v3), (4, vI x4)] [] h (f_L_c33 b Ls xs K v1 v2 v3 x4 h) := by
  unfold f_L_c33
  refine g_aload_n 1 dL_law_1311 rfl rfl ?_
  refine g_aloadV 0 dL_law_1312 rfl rfl ?_
  refine g_iload 4 dL_law_1313 rfl ?_
  refine g_iconst (v := 1) dL_law_1315 (by decide) ?_
  refine g_iadd dL_law_1316 ?_
  refine g_scA hs dL_law_1317 (fun t245 => ?_)
  refine g_aloadV 0 dL_law_1318 rfl rfl ?_
  refine g_iload 4 dL_law_1319 rfl ?_
  refine g_iconst (v := 2) dL_law_1321 (by decide) ?_
  refine g_iadd dL_law_1322 ?_
  refine g_scA hs dL_law_1323 (fun t246 => ?_)
  refine g_aloadV 0 dL_law_1324 rfl rfl ?_
  refine g_iload 4 dL_law_1325 rfl ?_
  refine g_iconst (v := 3) dL_law_1327 (by decide) ?_
  refine g_iadd dL_law_1328 ?_
  refine g_scA hs dL_law_1329 (fun t247 => ?_)
  refine g_callVI (st := []) (ci := 11) rfl (s_X11_put hX v1 t245 t246 t247 h) kml_L_160 kim_X11_put kse_X11_put kii_X11 kcd_X11_put rfl ds_X11_put rfl ⟨Nat.le_of_ble_eq_true rfl, Nat.le_of_ble_eq_true rfl⟩ (Nat.le_of_ble_eq_true rfl) rfl dL_law_1330 (fun r249 h248 => ?_)
  refine g_aload_n 2 dL_law_1333 rfl rfl ?_
  refine g_aloadV 0 dL_law_1334 rfl rfl ?_
  refine g_iload 4 dL_law_1335 rfl ?_
  refine g_iconst (v := 1) dL_law_1337 (by decide) ?_
  refine g_iadd dL_law_1338 ?_
  refine g_scA hs dL_law_1339 (fun t250 => ?_)
  refine g_aloadV 0 dL_law_1340 rfl rfl ?_
  refine g_iload 4 dL_law_1341 rfl ?_
  refine g_iconst (v := 2) dL_law_1343 (by decide) ?_
  refine g_iadd dL_law_1344 ?_
  refine g_scA hs dL_law_1345 (fun t251 => ?_)
  refine g_aloadV 0 dL_law_1346 rfl rfl ?_
  refine g_iload 4 dL_law_1347 rfl ?_
  refine g_iconst (v := 3) dL_law_1349 (by decide) ?_
  refine g_iadd dL_law_1350 ?_
  refine g_scA hs dL_law_1351 (fun t252 => ?_)
  refine g_callVI (st := [vI r249]) (ci := 12) rfl (s_X12_put hX v2 t250 t251 t252 h248) kml_L_163 kim_X12_put kse_X12_put kii_X12 kcd_X12_put rfl ds_X12_put rfl ⟨Nat.le_of_ble_eq_true rfl, Nat.le_of_ble_eq_true rfl⟩ (Nat.le_of_ble_eq_true rfl) rfl dL_law_1352 (fun r254 h253 => ?_)
  refine g_icmpeq (tgt := 1550) dL_law_1355 (by decide) ?_ ?_
  · exact g_sub2 [0, 1, 2, 3, 4] rfl (hK h253)
  · refine g_iconst (v := 0) dL_law_1358 (by decide) ?_
    exact g_zreturn (by decide +kernel) rfl dL_law_1359
def f_L_c34 (b Ls : Nat) (xs : Nat → Int32) (K : AH → Option (Int32 × AH)) (v1 v2 v3 : Option Nat) (x4 : Int32) (h : AH) : Option (Int32 × AH) :=
    (scA b Ls xs b (x4 + 1)).bind fun t255 =>
    (scA b Ls xs b (x4 + 2)).bind fun t256 =>
    bd (f_L_element v1 t255 t256 v3 h) fun r258 h257 =>
    (scA b Ls xs b (x4 + 1)).bind fun t259 =>
    (scA b Ls xs b (x4 + 2)).bind fun t260 =>
    bd (cv h257 v2 12 (f_X12_element v2 t259 t260 h257)) fun r262 h261 =>
    bd (cv h261 v2 12 (f_X12_thrown v2 h261)) fun r264 h263 =>
    (if r264 = r258 then
    (if r258 = 0 then
    (jA h263 v3 0).bind fun t265 =>
    (if (lg_cmp t265 r262) = 0 then
    K h263
    else some (0, h263))
    else K h263)
    else some (0, h263))
set_option maxRecDepth 100000 in
set_option maxHeartbeats 4000000 in
theorem s_L_c34 {mn : String} {X : GX} (hX : XOK X) {b Ls : Nat} {xs : Nat → Int32} (hs : Scr X b Ls xs) {h0 : AH} {K : AH → Option (Int32 × AH)} {v1 v2 v3 : Option Nat} {x4 : Int32} (hK : ∀ h, Gp (p_L_law X h0) RL mn cL_law (some .boolean) 1550 [(0, vV (.ref b)), (1, vR v1), (2, vR v2), (3, vR v3), (4, vI x4)] [] h (K h)) (h : AH) : Gp (p_L_law X h0) RL mn cL_law (some .boolean) 1360 [(0, vV (.ref b)), (1, vR v1), (2, vR v2), (3, vR v3), (4, vI x4)] [] h (f_L_c34 b Ls xs K v1 v2 v3 x4 h) := by
  unfold f_L_c34
  refine g_aload_n 1 dL_law_1360 rfl rfl ?_
  refine g_aloadV 0 dL_law_1361 rfl rfl ?_
  refine g_iload 4 dL_law_1362 rfl ?_
  refine g_iconst (v := 1) dL_law_1364 (by decide) ?_
  refine g_iadd dL_law_1365 ?_
  refine g_scA hs dL_law_1366 (fun t255 => ?_)
  refine g_aloadV 0 dL_law_1367 rfl rfl ?_
  refine g_iload 4 dL_law_1368 rfl ?_
  refine g_iconst (v := 2) dL_law_1370 (by decide) ?_
  refine g_iadd dL_law_1371 ?_
  refine g_scA hs dL_law_1372 (fun t256 => ?_)
  refine g_aload_n 3 dL_law_1373 rfl rfl ?_
  refine g_callSWI (st := []) (s_L_element hX v1 t255 t256 v3 h) kml_L_164 kest_L_element kii_L kcw_element ds_L_element rfl ⟨Nat.le_of_ble_eq_true rfl, Nat.le_of_ble_eq_true rfl⟩ (Nat.le_of_ble_eq_true rfl) rfl dL_law_1374 (fun r258 h257 => ?_)
  refine g_istore (ls' := [(5, vI r258), (0, vV (.ref b)), (1, vR v1), (2, vR v2), (3, vR v3), (4, vI x4)]) dL_law_1377 (Nat.le_of_ble_eq_true rfl) rfl ?_
  refine g_aload_n 3 dL_law_1379 rfl rfl ?_
  refine g_aloadV 1 dL_law_1380 rfl rfl ?_
  refine g_iload 5 dL_law_1381 rfl ?_
  refine g_iconst (v := 1) dL_law_1383 (by decide) ?_
  refine g_iadd dL_law_1384 ?_
  refine g_scA hs dL_law_1385 (fun t259 => ?_)
  refine g_aloadV 1 dL_law_1386 rfl rfl ?_
  refine g_iload 5 dL_law_1387 rfl ?_
  refine g_iconst (v := 2) dL_law_1389 (by decide) ?_
  refine g_iadd dL_law_1390 ?_
  refine g_scA hs dL_law_1391 (fun t260 => ?_)
  refine g_callVJ (st := []) (ci := 12) rfl (s_X12_element hX v2 t259 t260 h257) kml_L_169 kim_X12_element kse_X12_element kii_X12 kcd_X12_element rfl ds_X12_element rfl ⟨Nat.le_of_ble_eq_true rfl, Nat.le_of_ble_eq_true rfl⟩ (Nat.le_of_ble_eq_true rfl) rfl dL_law_1392 (fun r262 h261 => ?_)
  refine g_lstore (ls' := [(6, vJ r262), (5, vI r258), (0, vV (.ref b)), (1, vR v1), (2, vR v2), (3, vR v3), (4, vI x4)]) dL_law_1395 (Nat.le_of_ble_eq_true rfl) rfl ?_
  refine g_aload_n 4 dL_law_1397 rfl rfl ?_
  refine g_callVI (st := []) (ci := 12) rfl (s_X12_thrown hX v2 h261) kml_L_170 kim_X12_thrown kse_X12_thrown kii_X12 kcd_X12_thrown rfl ds_X12_thrown rfl ⟨Nat.le_of_ble_eq_true rfl, Nat.le_of_ble_eq_true rfl⟩ (Nat.le_of_ble_eq_true rfl) rfl dL_law_1398 (fun r264 h263 => ?_)
  refine g_iload 1 dL_law_1401 rfl ?_
  refine g_icmpeq (tgt := 1408) dL_law_1403 (by decide) ?_ ?_
  · refine g_iload 1 dL_law_1408 rfl ?_
    refine g_ifne (tgt := 1424) dL_law_1410 (by decide) ?_ ?_
    · refine g_goto (tgt := 1550) dL_law_1424 (by decide) ?_
      exact g_sub2 [2, 3, 4, 5, 6] rfl (hK h263)
    · refine g_aload_n 5 dL_law_1413 rfl rfl ?_
      refine g_iconst (v := 0) dL_law_1414 (by decide) ?_
      refine g_laload dL_law_1415 (fun t265 => ?_)
      refine g_lload 0 dL_law_1416 rfl ?_
      refine g_lcmp dL_law_1418 ?_
      refine g_ifeq (tgt := 1424) dL_law_1419 (by decide) ?_ ?_
      · refine g_goto (tgt := 1550) dL_law_1424 (by decide) ?_
        exact g_sub2 [2, 3, 4, 5, 6] rfl (hK h263)
      · refine g_iconst (v := 0) dL_law_1422 (by decide) ?_
        exact g_zreturn (by decide +kernel) rfl dL_law_1423
  · refine g_iconst (v := 0) dL_law_1406 (by decide) ?_
    exact g_zreturn (by decide +kernel) rfl dL_law_1407
def f_L_c35 (b Ls : Nat) (xs : Nat → Int32) (K : AH → Option (Int32 × AH)) (v1 v2 v3 : Option Nat) (x4 : Int32) (h : AH) : Option (Int32 × AH) :=
    (scA b Ls xs b (x4 + 1)).bind fun t266 =>
    (scA b Ls xs b (x4 + 2)).bind fun t267 =>
    (scA b Ls xs b (x4 + 3)).bind fun t268 =>
    (scA b Ls xs b (x4 + 4)).bind fun t269 =>
    (scA b Ls xs b (x4 + 5)).bind fun t270 =>
    bd (cv h v1 11 (f_X11_copy v1 t266 t267 t268 t269 t270 h)) fun r272 h271 =>
    (scA b Ls xs b (x4 + 1)).bind fun t273 =>
    (scA b Ls xs b (x4 + 2)).bind fun t274 =>
    (scA b Ls xs b (x4 + 3)).bind fun t275 =>
    (scA b Ls xs b (x4 + 4)).bind fun t276 =>
    (scA b Ls xs b (x4 + 5)).bind fun t277 =>
    bd (cv h271 v2 12 (f_X12_copy v2 t273 t274 t275 t276 t277 h271)) fun r279 h278 =>
    (if r272 = r279 then
    K h278
    else some (0, h278))
set_option maxRecDepth 100000 in
set_option maxHeartbeats 4000000 in
theorem s_L_c35 {mn : String} {X : GX} (hX : XOK X) {b Ls : Nat} {xs : Nat → Int32} (hs : Scr X b Ls xs) {h0 : AH} {K : AH → Option (Int32 × AH)} {v1 v2 v3 : Option Nat} {x4 : Int32} (hK : ∀ h, Gp (p_L_law X h0) RL mn cL_law (some .boolean) 1550 [(0, vV (.ref b)), (1, vR v1), (2, vR v2), (3, vR v3), (4, vI x4)] [] h (K h)) (h : AH) : Gp (p_L_law X h0) RL mn cL_law (some .boolean) 1427 [(0, vV (.ref b)), (1, vR v1), (2, vR v2), (3, vR v3), (4, vI x4)] [] h (f_L_c35 b Ls xs K v1 v2 v3 x4 h) := by
  unfold f_L_c35
  refine g_aload_n 1 dL_law_1427 rfl rfl ?_
  refine g_aloadV 0 dL_law_1428 rfl rfl ?_
  refine g_iload 4 dL_law_1429 rfl ?_
  refine g_iconst (v := 1) dL_law_1431 (by decide) ?_
  refine g_iadd dL_law_1432 ?_
  refine g_scA hs dL_law_1433 (fun t266 => ?_)
  refine g_aloadV 0 dL_law_1434 rfl rfl ?_
  refine g_iload 4 dL_law_1435 rfl ?_
  refine g_iconst (v := 2) dL_law_1437 (by decide) ?_
  refine g_iadd dL_law_1438 ?_
  refine g_scA hs dL_law_1439 (fun t267 => ?_)
  refine g_aloadV 0 dL_law_1440 rfl rfl ?_
  refine g_iload 4 dL_law_1441 rfl ?_
  refine g_iconst (v := 3) dL_law_1443 (by decide) ?_
  refine g_iadd dL_law_1444 ?_
  refine g_scA hs dL_law_1445 (fun t268 => ?_)
  refine g_aloadV 0 dL_law_1446 rfl rfl ?_
  refine g_iload 4 dL_law_1447 rfl ?_
  refine g_iconst (v := 4) dL_law_1449 (by decide) ?_
  refine g_iadd dL_law_1450 ?_
  refine g_scA hs dL_law_1451 (fun t269 => ?_)
  refine g_aloadV 0 dL_law_1452 rfl rfl ?_
  refine g_iload 4 dL_law_1453 rfl ?_
  refine g_iconst (v := 5) dL_law_1455 (by decide) ?_
  refine g_iadd dL_law_1456 ?_
  refine g_scA hs dL_law_1457 (fun t270 => ?_)
  refine g_callVI (st := []) (ci := 11) rfl (s_X11_copy hX v1 t266 t267 t268 t269 t270 h) kml_L_173 kim_X11_copy kse_X11_copy kii_X11 kcd_X11_copy rfl ds_X11_copy rfl ⟨Nat.le_of_ble_eq_true rfl, Nat.le_of_ble_eq_true rfl⟩ (Nat.le_of_ble_eq_true rfl) rfl dL_law_1458 (fun r272 h271 => ?_)
  refine g_aload_n 2 dL_law_1461 rfl rfl ?_
  refine g_aloadV 0 dL_law_1462 rfl rfl ?_
  refine g_iload 4 dL_law_1463 rfl ?_
  refine g_iconst (v := 1) dL_law_1465 (by decide) ?_
  refine g_iadd dL_law_1466 ?_
  refine g_scA hs dL_law_1467 (fun t273 => ?_)
  refine g_aloadV 0 dL_law_1468 rfl rfl ?_
  refine g_iload 4 dL_law_1469 rfl ?_
  refine g_iconst (v := 2) dL_law_1471 (by decide) ?_
  refine g_iadd dL_law_1472 ?_
  refine g_scA hs dL_law_1473 (fun t274 => ?_)
  refine g_aloadV 0 dL_law_1474 rfl rfl ?_
  refine g_iload 4 dL_law_1475 rfl ?_
  refine g_iconst (v := 3) dL_law_1477 (by decide) ?_
  refine g_iadd dL_law_1478 ?_
  refine g_scA hs dL_law_1479 (fun t275 => ?_)
  refine g_aloadV 0 dL_law_1480 rfl rfl ?_
  refine g_iload 4 dL_law_1481 rfl ?_
  refine g_iconst (v := 4) dL_law_1483 (by decide) ?_
  refine g_iadd dL_law_1484 ?_
  refine g_scA hs dL_law_1485 (fun t276 => ?_)
  refine g_aloadV 0 dL_law_1486 rfl rfl ?_
  refine g_iload 4 dL_law_1487 rfl ?_
  refine g_iconst (v := 5) dL_law_1489 (by decide) ?_
  refine g_iadd dL_law_1490 ?_
  refine g_scA hs dL_law_1491 (fun t277 => ?_)
  refine g_callVI (st := [vI r272]) (ci := 12) rfl (s_X12_copy hX v2 t273 t274 t275 t276 t277 h271) kml_L_177 kim_X12_copy kse_X12_copy kii_X12 kcd_X12_copy rfl ds_X12_copy rfl ⟨Nat.le_of_ble_eq_true rfl, Nat.le_of_ble_eq_true rfl⟩ (Nat.le_of_ble_eq_true rfl) rfl dL_law_1492 (fun r279 h278 => ?_)
  refine g_icmpeq (tgt := 1550) dL_law_1495 (by decide) ?_ ?_
  · exact g_sub2 [0, 1, 2, 3, 4] rfl (hK h278)
  · refine g_iconst (v := 0) dL_law_1498 (by decide) ?_
    exact g_zreturn (by decide +kernel) rfl dL_law_1499
def f_L_c36 (b Ls : Nat) (xs : Nat → Int32) (K : AH → Option (Int32 × AH)) (v1 v2 v3 : Option Nat) (x4 : Int32) (h : AH) : Option (Int32 × AH) :=
    (scA b Ls xs b (x4 + 1)).bind fun t280 =>
    bd (cv h v1 11 (f_X11_cost v1 t280 h)) fun r282 h281 =>
    (scA b Ls xs b (x4 + 1)).bind fun t283 =>
    bd (cv h281 v2 12 (f_X12_cost v2 t283 h281)) fun r285 h284 =>
    (if r282 = r285 then
    K h284
    else some (0, h284))
set_option maxRecDepth 100000 in
set_option maxHeartbeats 4000000 in
theorem s_L_c36 {mn : String} {X : GX} (hX : XOK X) {b Ls : Nat} {xs : Nat → Int32} (hs : Scr X b Ls xs) {h0 : AH} {K : AH → Option (Int32 × AH)} {v1 v2 v3 : Option Nat} {x4 : Int32} (hK : ∀ h, Gp (p_L_law X h0) RL mn cL_law (some .boolean) 1550 [(0, vV (.ref b)), (1, vR v1), (2, vR v2), (3, vR v3), (4, vI x4)] [] h (K h)) (h : AH) : Gp (p_L_law X h0) RL mn cL_law (some .boolean) 1500 [(0, vV (.ref b)), (1, vR v1), (2, vR v2), (3, vR v3), (4, vI x4)] [] h (f_L_c36 b Ls xs K v1 v2 v3 x4 h) := by
  unfold f_L_c36
  refine g_aload_n 1 dL_law_1500 rfl rfl ?_
  refine g_aloadV 0 dL_law_1501 rfl rfl ?_
  refine g_iload 4 dL_law_1502 rfl ?_
  refine g_iconst (v := 1) dL_law_1504 (by decide) ?_
  refine g_iadd dL_law_1505 ?_
  refine g_scA hs dL_law_1506 (fun t280 => ?_)
  refine g_callVI (st := []) (ci := 11) rfl (s_X11_cost hX v1 t280 h) kml_L_178 kim_X11_cost kse_X11_cost kii_X11 kcd_X11_cost rfl ds_X11_cost rfl ⟨Nat.le_of_ble_eq_true rfl, Nat.le_of_ble_eq_true rfl⟩ (Nat.le_of_ble_eq_true rfl) rfl dL_law_1507 (fun r282 h281 => ?_)
  refine g_aload_n 2 dL_law_1510 rfl rfl ?_
  refine g_aloadV 0 dL_law_1511 rfl rfl ?_
  refine g_iload 4 dL_law_1512 rfl ?_
  refine g_iconst (v := 1) dL_law_1514 (by decide) ?_
  refine g_iadd dL_law_1515 ?_
  refine g_scA hs dL_law_1516 (fun t283 => ?_)
  refine g_callVI (st := [vI r282]) (ci := 12) rfl (s_X12_cost hX v2 t283 h281) kml_L_181 kim_X12_cost kse_X12_cost kii_X12 kcd_X12_cost rfl ds_X12_cost rfl ⟨Nat.le_of_ble_eq_true rfl, Nat.le_of_ble_eq_true rfl⟩ (Nat.le_of_ble_eq_true rfl) rfl dL_law_1517 (fun r285 h284 => ?_)
  refine g_icmpeq (tgt := 1550) dL_law_1520 (by decide) ?_ ?_
  · exact g_sub2 [0, 1, 2, 3, 4] rfl (hK h284)
  · refine g_iconst (v := 0) dL_law_1523 (by decide) ?_
    exact g_zreturn (by decide +kernel) rfl dL_law_1524
def f_L_c37 (b Ls : Nat) (xs : Nat → Int32) (K : AH → Option (Int32 × AH)) (v1 v2 v3 : Option Nat) (x4 : Int32) (h : AH) : Option (Int32 × AH) :=
    (scA b Ls xs b (x4 + 1)).bind fun t286 =>
    bd (cv h v1 11 (f_X11_toss v1 t286 h)) fun r288 h287 =>
    (scA b Ls xs b (x4 + 1)).bind fun t289 =>
    bd (cv h287 v2 12 (f_X12_toss v2 t289 h287)) fun r291 h290 =>
    (if r288 = r291 then
    K h290
    else some (0, h290))
set_option maxRecDepth 100000 in
set_option maxHeartbeats 4000000 in
theorem s_L_c37 {mn : String} {X : GX} (hX : XOK X) {b Ls : Nat} {xs : Nat → Int32} (hs : Scr X b Ls xs) {h0 : AH} {K : AH → Option (Int32 × AH)} {v1 v2 v3 : Option Nat} {x4 : Int32} (hK : ∀ h, Gp (p_L_law X h0) RL mn cL_law (some .boolean) 1550 [(0, vV (.ref b)), (1, vR v1), (2, vR v2), (3, vR v3), (4, vI x4)] [] h (K h)) (h : AH) : Gp (p_L_law X h0) RL mn cL_law (some .boolean) 1525 [(0, vV (.ref b)), (1, vR v1), (2, vR v2), (3, vR v3), (4, vI x4)] [] h (f_L_c37 b Ls xs K v1 v2 v3 x4 h) := by
  unfold f_L_c37
  refine g_aload_n 1 dL_law_1525 rfl rfl ?_
  refine g_aloadV 0 dL_law_1526 rfl rfl ?_
  refine g_iload 4 dL_law_1527 rfl ?_
  refine g_iconst (v := 1) dL_law_1529 (by decide) ?_
  refine g_iadd dL_law_1530 ?_
  refine g_scA hs dL_law_1531 (fun t286 => ?_)
  refine g_callVI (st := []) (ci := 11) rfl (s_X11_toss hX v1 t286 h) kml_L_182 kim_X11_toss kse_X11_toss kii_X11 kcd_X11_toss rfl ds_X11_toss rfl ⟨Nat.le_of_ble_eq_true rfl, Nat.le_of_ble_eq_true rfl⟩ (Nat.le_of_ble_eq_true rfl) rfl dL_law_1532 (fun r288 h287 => ?_)
  refine g_aload_n 2 dL_law_1535 rfl rfl ?_
  refine g_aloadV 0 dL_law_1536 rfl rfl ?_
  refine g_iload 4 dL_law_1537 rfl ?_
  refine g_iconst (v := 1) dL_law_1539 (by decide) ?_
  refine g_iadd dL_law_1540 ?_
  refine g_scA hs dL_law_1541 (fun t289 => ?_)
  refine g_callVI (st := [vI r288]) (ci := 12) rfl (s_X12_toss hX v2 t289 h287) kml_L_185 kim_X12_toss kse_X12_toss kii_X12 kcd_X12_toss rfl ds_X12_toss rfl ⟨Nat.le_of_ble_eq_true rfl, Nat.le_of_ble_eq_true rfl⟩ (Nat.le_of_ble_eq_true rfl) rfl dL_law_1542 (fun r291 h290 => ?_)
  refine g_icmpeq (tgt := 1550) dL_law_1545 (by decide) ?_ ?_
  · exact g_sub2 [0, 1, 2, 3, 4] rfl (hK h290)
  · refine g_iconst (v := 0) dL_law_1548 (by decide) ?_
    exact g_zreturn (by decide +kernel) rfl dL_law_1549
