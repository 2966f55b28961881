/-! printed: the evaluator's tables, out of the listing, for what calls on a new object reach -/
noncomputable def zalen (slen : Nat) : List (Nat × Nat) := [(0, slen), (1, 0), (2, 256), (3, 0), (11, 3), (13, 1), (15, 5), (17, 1), (19, 2), (21, 2), (23, 4), (25, 6), (27, 5), (29, 8), (31, 25)]
noncomputable def zsval : List (Nat × Nat) := [(10, 90), (12, 106), (14, 122), (16, 138), (18, 154), (20, 170), (22, 186), (24, 202), (26, 218), (28, 234), (30, 250)]
noncomputable def zscod : List (Nat × Nat) := [(10, 0), (12, 0), (14, 0), (16, 0), (18, 0), (20, 0), (22, 0), (24, 0), (26, 0), (28, 0), (30, 0)]
noncomputable def zsbyt : List (Nat × Nat × Nat) := [(11, 3, 5708990770823839524235486171573483889556979968), (13, 1, 408), (15, 5, 441623033931890538234062001191045054843576239097264734883054237249028715910132068224336280), (17, 1, 416), (19, 2, 4193461436788244949762464), (21, 2, 3702335322569801847538088), (23, 4, 94359813335027239281354355866305002551079693541295279668953543082800), (25, 6, 1897622406881257248135126030896151095485236606137139469288601338315566151482445267033091708075069986652616131400), (27, 5, 453558791605725417645791175146568755005987194923075313160894688781875604084807333140497312), (29, 8, 47346321752609796007879914494226216343438682885951890938039435156780954145704321980721154709034870391922729175553843515974376859852089423195861880565400480), (31, 25, 3873222737369624529945169504280405947898204912667116405088884334732324143229721576236118773863459604440149560890216493427180052967512319118324457782541471566833384203532248583553928144956288568094416694397536094529721866937928007770520266671018086991729424821375189223228768765014746157405798989051754612868605279768721156154370136712318121262269733757822706993723307847947843289986668273583071219939968287045059883337443716393629598626494195029635088579106154569189574171236750955638278642268713240266451384018517866054568)]
noncomputable def zsobj : List Nat := [10, 12, 14, 16, 18, 20, 22, 24, 26, 28, 30]
noncomputable def zscac : List (Nat × Nat × Nat) := [(2, 256, 36165872334566440253378856532677046168046018040837153902984564775743985257509895541663633527746174585896018189284490656550551321163467786285537531768548134827314628752615971126105778269805917284322188385370010603827519149056633300357361490338394394726114540735674934935923012304860555544471876040444387926223378538500420466596706894837905875657947516564826478620338765203432532391074895495397105113688438309644917612011066423168481634897014362782691293929764457820599657905162127536378935613995507053885836773210842022075693477590602988271030493864971334286229440296750756881684838508392736745324747996119458889720430085728439887364272726931350183197173094495547558212808963157991723621082137666832999645823265418887705379131735199641218566768310271913439883820088927020017821646340869206450606755749691699908317712517084058776828579448293735466504148294630397642119204333125499498107912670423431911847678952179204738947562361461194939470134412007008131200061598713099236787713338417479175163540260682819377120516104969796881864631639435560360810883417824432470806066241479273329947304125942539125931497394840029864758736901908061347064983185039680548209729555054972117766960407928065237433767793296998060574369510207013523519585694818502906969534372727151224356367125140273068258476563515124632292882095361407762786252161779046878503993895015332414044834529680288432982174580584921862490193833838924181895559029652318953975483939623015032471969523011467972235363596125949531826402476639840111158561954389888973011388606327075710802307782312392572945148713312686169463274156281314701359822276763879882514386383345713302604703388906504067983620271392446250305525077707644619578081659369908311956001042804021887958242733904505073861597342014434031721560540157553434678180711479192806528531654260577875675011253063988691943124801937090893617790225645505306154158435533228345231604927183877292496244426511168758764584739916269633803794540004776543262746809550353982294156639447442256047767064363559021422309319039858765232525559848379271651328264382174428085437792394317532900129718159501321747921815423073026412640167512248264661060221400797246408796600538047945213328361478367325918878742455766687265006285532349829134745919504595206148023336510945586097220082881570544348101876102821677405427647605389982530057120829827901118601726680760951801419512869049469556095134807014842568323952320907160707490585534884202168274169757972790075362418917758242081425739429713914964890519726009177139984773956681350293122578622098410263749893615607713281925188488870633934311802937407288212508021954535464699213237289622923520024936676420093962294283320526190746613180542547100262695117550471946487515679758454655448621347838813247548650787148769545111972094839297623019559253415024792696692136743745508539862046571575613078617286285117522217128817756934130733842293428253229940814820512226099208712503402710940603041813157703263229365019889197195991731331171922869473504395795891681162014915641908529730712939801087246659238664579713835760278053007227478430226724185349025876813527828368497055284387373038027086992613118928944218282968217076480413340493160214821923699069278139159355699434097006676344120146526505694220491211143416747721058158926393966134584150528180077062023926913229783421904589503582192854812472602575544192653801677256663537025477706520037715441853532735641995276091695636790307995391523191530244714998657694315822964490743631199659501900022506585403813006197525469265973626313336361291771253453644304877527102033341925420016247477558396736016851155156199115688135746716965769319477826075771172383145881514222573230997905674355969315774909437144333854003443204056992899012962029002192139865461938507101023817941772289336201082502056224519560875547789612676423237050169450445609373834286629948588013561058730391508477906954027395196786777092090205985497731493306734024558871603209082814137882200618725422132945611351338523569471711990402216575917200395783554058043611679476624909300453280671742770508754564202927290822815254909306912986214976578389375535980648516302332680214652751020806339219941890505893184253774833086417677974776374062652514766293917004988697043734665469952838748442350251376419613040474837907414469141330026214255363319912069243717983679586289281505466504822259761812738416014139647610362385447124933010440636175324149525243027234131638182062858207952314160711721584822921051272202974648552719961192840253634785349899091555434329157415419669898210748946833433803221061619683324117095345990607991439446813757209115259652932036837801723246519480437629926251986714354652162246318854528143079722554730142846298439603055847625378728854884153600900994227249360469196963128421091072310867031845386161873662575323550312681472378777596356464777237877118854587244641157375950097690957429278300311412446206938363505038817471608406716105916104662906164037407815657341158365209769124293870768674264179824083802179141124406208580135138917895111021627264976529554591884882712517243283467950466989591151725996458704358927932182974161600355503986254310236782834902668772068773456141832459138641091029965065990560006820401652032272457749425438010939595849092707335203928298715038567340272247359109056015462977783964246815785374006488578910888976587423462877785019411678322601236362456194241042798038748174141069932878097782232338659689907542744930392271435007762365623494043630008670059381049645206621656158160986254205589013453214409816483523628091498079785005030970536687197246386712008671859275174836502246345439971682)]
noncomputable def tb_L_law (scr slen opc : Nat) (iv : Nat → Nat × Nat) (dc db du : List (Nat × Nat)) (cal : zCal) : Nat × zBs := (9, [(0, 28, [zNew 17 12 78140794135310792274389810129304045772186326278216235829876398488098851099977118766511590453327946761839104330097075202454267467650821988964009790345651829195973893663593830050509979432340044209043289794513146571135274044659066421293088771, zDup, zCallI cal 1 1, zStA 9 1, zNew 18 11 16546956789305961896189688576687075232752256489039719301742928369806849364419917195394440330279415979008073266610679428501711607399914593296265778663971943520780769310973606683828776075133584737714269177495447083679744, zDup, zCallI cal 192 1, zStA 9 2, zPush 8, zNewA 66, zStA 9 3, zPush 8, zNewA 67, zStA 9 4, zPush 0, zStI 9 5]),
  (28, 37, [zLdI 5, zLdA 0, zAlenS (zalen slen), zPush 32, zBin zfSub, zJlt iv true false 2776]),
  (37, 292, [zLdA 0, zLdI 5, zAldS [(0, slen, scr)], zPush 504, zAndO opc, zTs 2770 [292, 348, 451, 507, 575, 588, 601, 657, 670, 726, 784, 854, 910, 923, 981, 994, 1007, 1075, 1088, 1101, 1114, 1158, 1214, 1270, 1314, 1377, 1390, 1458, 1514, 1527, 1540, 1553, 1597, 1662, 1732, 1797, 1855, 1948, 1961, 2005, 2018, 2073, 2087, 2131, 2187, 2243, 2299, 2362, 2418, 2431, 2444, 2488, 2556, 2569, 2582, 2626, 2692, 2757]]),
  (292, 326, [zLdA 1, zLdA 0, zLdI 5, zPush 8, zBin Nat.add, zAldS [(0, slen, scr)], zLdA 3, zCallR cal 187 3, zStI 9 6, zLdA 2, zLdA 0, zLdI 5, zPush 8, zBin Nat.add, zAldS [(0, slen, scr)], zCallV cal 18 [] 276 2, zStI 9 7, zLdA 2, zCallV cal 18 [] 273 1, zLdI 6, zJeq iv false 328]),
  (326, 327, [zNo]),
  (328, 333, [zLdI 6, z0eq iv true 345]),
  (333, 343, [zLdA 3, zPush 0, zAld (fun v => zt v 4) 66 4, zLdI 7, zI2l, zLcmp, z0eq iv false 345]),
  (343, 344, [zNo]),
  (345, 348, [zGoto 2770]),
  (348, 370, [zLdA 1, zLdA 0, zLdI 5, zPush 8, zBin Nat.add, zAldS [(0, slen, scr)], zLdA 0, zLdI 5, zPush 16, zBin Nat.add, zAldS [(0, slen, scr)], zLdA 0, zLdI 5, zPush 24, zBin Nat.add, zAldS [(0, slen, scr)], z0eq iv false 374]),
  (370, 374, [zPush 8, zGoto 375]),
  (374, 375, [zPush 0]),
  (375, 403, [zLdA 3, zCallR cal 166 5, zStI 9 6, zLdA 2, zLdA 0, zLdI 5, zPush 8, zBin Nat.add, zAldS [(0, slen, scr)], zLdA 0, zLdI 5, zPush 16, zBin Nat.add, zAldS [(0, slen, scr)], zLdA 0, zLdI 5, zPush 24, zBin Nat.add, zAldS [(0, slen, scr)], z0eq iv false 407]),
  (403, 407, [zPush 8, zGoto 408]),
  (407, 408, [zPush 0]),
  (408, 422, [zCallV cal 18 [] 216 4, zStI 9 7, zLdA 2, zCallV cal 18 [] 273 1, zLdI 6, zJeq iv false 424]),
  (422, 423, [zNo]),
  (424, 429, [zLdI 6, z0eq iv true 448]),
  (429, 430, [zNo]),
  (448, 451, [zGoto 2770]),
  (451, 485, [zLdA 1, zLdA 0, zLdI 5, zPush 8, zBin Nat.add, zAldS [(0, slen, scr)], zLdA 3, zCallR cal 184 3, zStI 9 6, zLdA 2, zLdA 0, zLdI 5, zPush 8, zBin Nat.add, zAldS [(0, slen, scr)], zCallV cal 18 [] 264 2, zStI 9 7, zLdA 2, zCallV cal 18 [] 273 1, zLdI 6, zJeq iv false 487]),
  (485, 486, [zNo]),
  (487, 492, [zLdI 6, z0eq iv true 504]),
  (492, 493, [zNo]),
  (504, 507, [zGoto 2770]),
  (507, 553, [zLdA 1, zLdA 0, zLdI 5, zPush 8, zBin Nat.add, zAldS [(0, slen, scr)], zLdA 0, zLdI 5, zPush 16, zBin Nat.add, zAldS [(0, slen, scr)], zLdA 3, zCallR cal 163 4, zStI 9 6, zLdA 2, zLdA 0, zLdI 5, zPush 8, zBin Nat.add, zAldS [(0, slen, scr)], zLdA 0, zLdI 5, zPush 16, zBin Nat.add, zAldS [(0, slen, scr)], zCallV cal 18 [] 210 3, zStI 9 7, zLdA 2, zCallV cal 18 [] 273 1, zLdI 6, zJeq iv false 555]),
  (553, 554, [zNo]),
  (555, 560, [zLdI 6, z0eq iv true 572]),
  (560, 561, [zNo]),
  (572, 575, [zGoto 2770]),
  (575, 586, [zLdA 1, zCallV cal 17 [] 60 1, zLdA 2, zCallV cal 18 [] 269 1, zJeq iv false 2770]),
  (586, 587, [zNo]),
  (588, 599, [zLdA 1, zCallV cal 17 [] 21 1, zLdA 2, zCallV cal 18 [] 217 1, zJeq iv false 2770]),
  (599, 600, [zNo]),
  (601, 635, [zLdA 1, zLdA 0, zLdI 5, zPush 8, zBin Nat.add, zAldS [(0, slen, scr)], zLdA 3, zCallR cal 179 3, zStI 9 6, zLdA 2, zLdA 0, zLdI 5, zPush 8, zBin Nat.add, zAldS [(0, slen, scr)], zCallV cal 18 [] 253 2, zStI 9 7, zLdA 2, zCallV cal 18 [] 273 1, zLdI 6, zJeq iv false 637]),
  (635, 636, [zNo]),
  (637, 642, [zLdI 6, z0eq iv true 654]),
  (642, 643, [zNo]),
  (654, 657, [zGoto 2770]),
  (657, 668, [zLdA 1, zCallV cal 17 [] 52 1, zLdA 2, zCallV cal 18 [] 257 1, zJeq iv false 2770]),
  (668, 669, [zNo]),
  (670, 704, [zLdA 1, zLdA 0, zLdI 5, zPush 8, zBin Nat.add, zAldS [(0, slen, scr)], zLdA 3, zCallR cal 188 3, zStI 9 6, zLdA 2, zLdA 0, zLdI 5, zPush 8, zBin Nat.add, zAldS [(0, slen, scr)], zCallV cal 18 [] 277 2, zStI 9 7, zLdA 2, zCallV cal 18 [] 273 1, zLdI 6, zJeq iv false 706]),
  (704, 705, [zNo]),
  (706, 711, [zLdI 6, z0eq iv true 723]),
  (711, 712, [zNo]),
  (723, 726, [zGoto 2770]),
  (726, 762, [zLdA 1, zLdA 0, zLdI 5, zPush 8, zBin Nat.add, zAldS [(0, slen, scr)], zI2cT dc, zLdA 3, zCallR cal 189 3, zStI 9 6, zLdA 2, zLdA 0, zLdI 5, zPush 8, zBin Nat.add, zAldS [(0, slen, scr)], zI2cT dc, zCallV cal 18 [] 278 2, zStI 9 7, zLdA 2, zCallV cal 18 [] 273 1, zLdI 6, zJeq iv false 764]),
  (762, 763, [zNo]),
  (764, 769, [zLdI 6, z0eq iv true 781]),
  (769, 779, [zLdA 3, zPush 0, zAld (fun v => zt v 4) 66 4, zLdI 7, zI2l, zLcmp, z0eq iv false 781]),
  (779, 780, [zNo]),
  (781, 784, [zGoto 2770]),
  (784, 832, [zLdA 1, zLdA 0, zLdI 5, zPush 8, zBin Nat.add, zAldS [(0, slen, scr)], zI2cT dc, zLdA 0, zLdI 5, zPush 16, zBin Nat.add, zAldS [(0, slen, scr)], zLdA 3, zCallR cal 181 4, zStI 9 6, zLdA 2, zLdA 0, zLdI 5, zPush 8, zBin Nat.add, zAldS [(0, slen, scr)], zI2cT dc, zLdA 0, zLdI 5, zPush 16, zBin Nat.add, zAldS [(0, slen, scr)], zCallV cal 18 [] 256 3, zStI 9 7, zLdA 2, zCallV cal 18 [] 273 1, zLdI 6, zJeq iv false 834]),
  (832, 833, [zNo]),
  (834, 839, [zLdI 6, z0eq iv true 851]),
  (839, 840, [zNo]),
  (851, 854, [zGoto 2770]),
  (854, 888, [zLdA 1, zLdA 0, zLdI 5, zPush 8, zBin Nat.add, zAldS [(0, slen, scr)], zLdA 3, zCallR cal 182 3, zStI 9 6, zLdA 2, zLdA 0, zLdI 5, zPush 8, zBin Nat.add, zAldS [(0, slen, scr)], zCallV cal 18 [] 259 2, zStI 9 7, zLdA 2, zCallV cal 18 [] 273 1, zLdI 6, zJeq iv false 890]),
  (888, 889, [zNo]),
  (890, 895, [zLdI 6, z0eq iv true 907]),
  (895, 896, [zNo]),
  (907, 910, [zGoto 2770]),
  (910, 921, [zLdA 1, zCallV cal 17 [] 13 1, zLdA 2, zCallV cal 18 [] 206 1, zJeq iv false 2770]),
  (921, 922, [zNo]),
  (923, 959, [zLdA 1, zLdA 0, zLdI 5, zPush 8, zBin Nat.add, zAldS [(0, slen, scr)], zI2cT dc, zLdA 3, zCallR cal 190 3, zStI 9 6, zLdA 2, zLdA 0, zLdI 5, zPush 8, zBin Nat.add, zAldS [(0, slen, scr)], zI2cT dc, zCallV cal 18 [] 280 2, zStI 9 7, zLdA 2, zCallV cal 18 [] 273 1, zLdI 6, zJeq iv false 961]),
  (959, 960, [zNo]),
  (961, 966, [zLdI 6, z0eq iv true 978]),
  (966, 976, [zLdA 3, zPush 0, zAld (fun v => zt v 4) 66 4, zLdI 7, zI2l, zLcmp, z0eq iv false 978]),
  (976, 977, [zNo]),
  (978, 981, [zGoto 2770]),
  (981, 992, [zLdA 1, zCallV cal 17 [] 37 1, zLdA 2, zCallV cal 18 [] 250 1, zJeq iv false 2770]),
  (992, 993, [zNo]),
  (994, 1005, [zLdA 1, zCallV cal 17 [] 64 1, zLdA 2, zCallV cal 18 [] 275 1, zJeq iv false 2770]),
  (1005, 1006, [zNo]),
  (1007, 1053, [zLdA 1, zLdA 0, zLdI 5, zPush 8, zBin Nat.add, zAldS [(0, slen, scr)], zLdA 0, zLdI 5, zPush 16, zBin Nat.add, zAldS [(0, slen, scr)], zLdA 3, zCallR cal 157 4, zStI 9 6, zLdA 2, zLdA 0, zLdI 5, zPush 8, zBin Nat.add, zAldS [(0, slen, scr)], zLdA 0, zLdI 5, zPush 16, zBin Nat.add, zAldS [(0, slen, scr)], zCallV cal 18 [] 196 3, zStI 9 7, zLdA 2, zCallV cal 18 [] 273 1, zLdI 6, zJeq iv false 1055]),
  (1053, 1054, [zNo]),
  (1055, 1060, [zLdI 6, z0eq iv true 1072]),
  (1060, 1070, [zLdA 3, zPush 0, zAld (fun v => zt v 4) 66 4, zLdI 7, zI2l, zLcmp, z0eq iv false 1072]),
  (1070, 1071, [zNo]),
  (1072, 1075, [zGoto 2770]),
  (1075, 1086, [zLdA 1, zCallV cal 17 [] 10 1, zLdA 2, zCallV cal 18 [] 203 1, zJeq iv false 2770]),
  (1086, 1087, [zNo]),
  (1088, 1099, [zLdA 1, zCallV cal 17 [] 18 1, zLdA 2, zCallV cal 18 [] 213 1, zJeq iv false 2770]),
  (1099, 1100, [zNo]),
  (1101, 1112, [zLdA 1, zCallV cal 17 [] 8 1, zLdA 2, zCallV cal 18 [] 200 1, zJeq iv false 2770]),
  (1112, 1113, [zNo]),
  (1114, 1136, [zLdA 1, zLdA 3, zCallR cal 159 2, zStI 9 6, zLdA 2, zCallV cal 18 [] 198 1, zStI 9 7, zLdA 2, zCallV cal 18 [] 273 1, zLdI 6, zJeq iv false 1138]),
  (1136, 1137, [zNo]),
  (1138, 1143, [zLdI 6, z0eq iv true 1155]),
  (1143, 1144, [zNo]),
  (1155, 1158, [zGoto 2770]),
  (1158, 1192, [zLdA 1, zLdA 0, zLdI 5, zPush 8, zBin Nat.add, zAldS [(0, slen, scr)], zLdA 3, zCallR cal 158 3, zStI 9 6, zLdA 2, zLdA 0, zLdI 5, zPush 8, zBin Nat.add, zAldS [(0, slen, scr)], zCallV cal 18 [] 197 2, zStI 9 7, zLdA 2, zCallV cal 18 [] 273 1, zLdI 6, zJeq iv false 1194]),
  (1192, 1193, [zNo]),
  (1194, 1199, [zLdI 6, z0eq iv true 1211]),
  (1199, 1200, [zNo]),
  (1211, 1214, [zGoto 2770]),
  (1214, 1248, [zLdA 1, zLdA 0, zLdI 5, zPush 8, zBin Nat.add, zAldS [(0, slen, scr)], zLdA 3, zCallR cal 155 3, zStI 9 6, zLdA 2, zLdA 0, zLdI 5, zPush 8, zBin Nat.add, zAldS [(0, slen, scr)], zCallV cal 18 [] 193 2, zStI 9 7, zLdA 2, zCallV cal 18 [] 273 1, zLdI 6, zJeq iv false 1250]),
  (1248, 1249, [zNo]),
  (1250, 1255, [zLdI 6, z0eq iv true 1267]),
  (1255, 1256, [zNo]),
  (1267, 1270, [zGoto 2770]),
  (1270, 1292, [zLdA 1, zLdA 3, zCallR cal 180 2, zStI 9 6, zLdA 2, zCallV cal 18 [] 254 1, zStI 9 7, zLdA 2, zCallV cal 18 [] 273 1, zLdI 6, zJeq iv false 1294]),
  (1292, 1293, [zNo]),
  (1294, 1299, [zLdI 6, z0eq iv true 1311]),
  (1299, 1300, [zNo]),
  (1311, 1314, [zGoto 2770]),
  (1314, 1348, [zLdA 1, zLdA 0, zLdI 5, zPush 8, zBin Nat.add, zAldS [(0, slen, scr)], zLdA 3, zCallR cal 191 3, zStI 9 6, zLdA 2, zLdA 0, zLdI 5, zPush 8, zBin Nat.add, zAldS [(0, slen, scr)], zCallV cal 18 [] 281 2, zStI 9 7, zLdA 2, zCallV cal 18 [] 273 1, zLdI 6, zJeq iv false 1350]),
  (1348, 1349, [zNo]),
  (1350, 1355, [zLdI 6, z0eq iv true 1374]),
  (1355, 1363, [zLdA 3, zPush 0, zAld (fun v => zt v 4) 66 4, zLdI 7, z0eq iv false 1367]),
  (1363, 1367, [zPush 12, zGoto 1368]),
  (1367, 1368, [zNo]),
  (1368, 1372, [zLcmp, z0eq iv false 1374]),
  (1372, 1373, [zNo]),
  (1374, 1377, [zGoto 2770]),
  (1377, 1388, [zLdA 1, zCallV cal 17 [] 58 1, zLdA 2, zCallV cal 18 [] 266 1, zJeq iv false 2770]),
  (1388, 1389, [zNo]),
  (1390, 1436, [zLdA 1, zLdA 0, zLdI 5, zPush 8, zBin Nat.add, zAldS [(0, slen, scr)], zLdA 0, zLdI 5, zPush 16, zBin Nat.add, zAldS [(0, slen, scr)], zLdA 3, zCallR cal 169 4, zStI 9 6, zLdA 2, zLdA 0, zLdI 5, zPush 8, zBin Nat.add, zAldS [(0, slen, scr)], zLdA 0, zLdI 5, zPush 16, zBin Nat.add, zAldS [(0, slen, scr)], zCallV cal 18 [] 228 3, zStI 9 7, zLdA 2, zCallV cal 18 [] 273 1, zLdI 6, zJeq iv false 1438]),
  (1436, 1437, [zNo]),
  (1438, 1443, [zLdI 6, z0eq iv true 1455]),
  (1443, 1444, [zNo]),
  (1455, 1458, [zGoto 2770]),
  (1458, 1492, [zLdA 1, zLdA 0, zLdI 5, zPush 8, zBin Nat.add, zAldS [(0, slen, scr)], zLdA 3, zCallR cal 183 3, zStI 9 6, zLdA 2, zLdA 0, zLdI 5, zPush 8, zBin Nat.add, zAldS [(0, slen, scr)], zCallV cal 18 [] 261 2, zStI 9 7, zLdA 2, zCallV cal 18 [] 273 1, zLdI 6, zJeq iv false 1494]),
  (1492, 1493, [zNo]),
  (1494, 1499, [zLdI 6, z0eq iv true 1511]),
  (1499, 1500, [zNo]),
  (1511, 1514, [zGoto 2770]),
  (1514, 1525, [zLdA 1, zCallV cal 17 [] 11 1, zLdA 2, zCallV cal 18 [] 204 1, zJeq iv false 2770]),
  (1525, 1526, [zNo]),
  (1527, 1538, [zLdA 1, zCallV cal 17 [] 29 1, zLdA 2, zCallV cal 18 [] 234 1, zJeq iv false 2770]),
  (1538, 1539, [zNo]),
  (1540, 1551, [zLdA 1, zCallV cal 17 [] 22 1, zLdA 2, zCallV cal 18 [] 220 1, zJeq iv false 2770]),
  (1551, 1552, [zNo]),
  (1553, 1575, [zLdA 1, zLdA 3, zCallR cal 185 2, zStI 9 6, zLdA 2, zCallV cal 18 [] 272 1, zStI 9 7, zLdA 2, zCallV cal 18 [] 273 1, zLdI 6, zJeq iv false 1577]),
  (1575, 1576, [zNo]),
  (1577, 1582, [zLdI 6, z0eq iv true 1594]),
  (1582, 1583, [zNo]),
  (1594, 1597, [zGoto 2770]),
  (1597, 1633, [zLdA 1, zLdA 0, zLdI 5, zPush 8, zBin Nat.add, zAldS [(0, slen, scr)], zI2cT dc, zLdA 3, zCallR cal 168 3, zStI 9 6, zLdA 2, zLdA 0, zLdI 5, zPush 8, zBin Nat.add, zAldS [(0, slen, scr)], zI2cT dc, zCallV cal 18 [] 227 2, zStI 9 7, zLdA 2, zCallV cal 18 [] 273 1, zLdI 6, zJeq iv false 1635]),
  (1633, 1634, [zNo]),
  (1635, 1640, [zLdI 6, z0eq iv true 1659]),
  (1640, 1648, [zLdA 3, zPush 0, zAld (fun v => zt v 4) 66 4, zLdI 7, z0eq iv false 1652]),
  (1648, 1649, [zNo]),
  (1652, 1657, [zPush 4, zLcmp, z0eq iv false 1659]),
  (1657, 1658, [zNo]),
  (1659, 1662, [zGoto 2770]),
  (1662, 1710, [zLdA 1, zLdA 0, zLdI 5, zPush 8, zBin Nat.add, zAldS [(0, slen, scr)], zI2cT dc, zLdA 0, zLdI 5, zPush 16, zBin Nat.add, zAldS [(0, slen, scr)], zLdA 3, zCallR cal 178 4, zStI 9 6, zLdA 2, zLdA 0, zLdI 5, zPush 8, zBin Nat.add, zAldS [(0, slen, scr)], zI2cT dc, zLdA 0, zLdI 5, zPush 16, zBin Nat.add, zAldS [(0, slen, scr)], zCallV cal 18 [] 252 3, zStI 9 7, zLdA 2, zCallV cal 18 [] 273 1, zLdI 6, zJeq iv false 1712]),
  (1710, 1711, [zNo]),
  (1712, 1717, [zLdI 6, z0eq iv true 1729]),
  (1717, 1718, [zNo]),
  (1729, 1732, [zGoto 2770]),
  (1732, 1768, [zLdA 1, zLdA 0, zLdI 5, zPush 8, zBin Nat.add, zAldS [(0, slen, scr)], zI2cT dc, zLdA 3, zCallR cal 171 3, zStI 9 6, zLdA 2, zLdA 0, zLdI 5, zPush 8, zBin Nat.add, zAldS [(0, slen, scr)], zI2cT dc, zCallV cal 18 [] 235 2, zStI 9 7, zLdA 2, zCallV cal 18 [] 273 1, zLdI 6, zJeq iv false 1770]),
  (1768, 1769, [zNo]),
  (1770, 1775, [zLdI 6, z0eq iv true 1794]),
  (1775, 1783, [zLdA 3, zPush 0, zAld (fun v => zt v 4) 66 4, zLdI 7, z0eq iv false 1787]),
  (1783, 1787, [zPush 12, zGoto 1788]),
  (1787, 1788, [zNo]),
  (1788, 1792, [zLcmp, z0eq iv false 1794]),
  (1792, 1793, [zNo]),
  (1794, 1797, [zGoto 2770]),
  (1797, 1833, [zLdA 1, zLdA 0, zLdI 5, zPush 8, zBin Nat.add, zAldS [(0, slen, scr)], zI2cT dc, zLdA 3, zCallR cal 156 3, zStI 9 6, zLdA 2, zLdA 0, zLdI 5, zPush 8, zBin Nat.add, zAldS [(0, slen, scr)], zI2cT dc, zCallV cal 18 [] 195 2, zStI 9 7, zLdA 2, zCallV cal 18 [] 273 1, zLdI 6, zJeq iv false 1835]),
  (1833, 1834, [zNo]),
  (1835, 1840, [zLdI 6, z0eq iv true 1852]),
  (1840, 1850, [zLdA 3, zPush 0, zAld (fun v => zt v 4) 66 4, zLdI 7, zI2l, zLcmp, z0eq iv false 1852]),
  (1850, 1851, [zNo]),
  (1852, 1855, [zGoto 2770]),
  (1855, 1872, [zLdA 1, zLdA 0, zLdI 5, zPush 8, zBin Nat.add, zAldS [(0, slen, scr)], zI2cT dc, zLdA 0, zLdI 5, zPush 16, zBin Nat.add, zAldS [(0, slen, scr)], z0eq iv false 1876]),
  (1872, 1876, [zPush 8, zGoto 1877]),
  (1876, 1877, [zPush 0]),
  (1877, 1900, [zLdA 3, zCallR cal 161 4, zStI 9 6, zLdA 2, zLdA 0, zLdI 5, zPush 8, zBin Nat.add, zAldS [(0, slen, scr)], zI2cT dc, zLdA 0, zLdI 5, zPush 16, zBin Nat.add, zAldS [(0, slen, scr)], z0eq iv false 1904]),
  (1900, 1904, [zPush 8, zGoto 1905]),
  (1904, 1905, [zPush 0]),
  (1905, 1919, [zCallV cal 18 [] 202 3, zStI 9 7, zLdA 2, zCallV cal 18 [] 273 1, zLdI 6, zJeq iv false 1921]),
  (1919, 1920, [zNo]),
  (1921, 1926, [zLdI 6, z0eq iv true 1945]),
  (1926, 1934, [zLdA 3, zPush 0, zAld (fun v => zt v 4) 66 4, zLdI 7, z0eq iv false 1938]),
  (1934, 1935, [zNo]),
  (1938, 1943, [zPush 4, zLcmp, z0eq iv false 1945]),
  (1943, 1944, [zNo]),
  (1945, 1948, [zGoto 2770]),
  (1948, 1959, [zLdA 1, zCallV cal 17 [] 59 1, zLdA 2, zCallV cal 18 [] 267 1, zJeq iv false 2770]),
  (1959, 1960, [zNo]),
  (1961, 1983, [zLdA 1, zLdA 3, zCallR cal 160 2, zStI 9 6, zLdA 2, zCallV cal 18 [] 199 1, zStI 9 7, zLdA 2, zCallV cal 18 [] 273 1, zLdI 6, zJeq iv false 1985]),
  (1983, 1984, [zNo]),
  (1985, 1990, [zLdI 6, z0eq iv true 2002]),
  (1990, 2000, [zLdA 3, zPush 0, zAld (fun v => zt v 4) 66 4, zLdI 7, zI2l, zLcmp, z0eq iv false 2002]),
  (2000, 2001, [zNo]),
  (2002, 2005, [zGoto 2770]),
  (2005, 2016, [zLdA 1, zCallV cal 17 [] 15 1, zLdA 2, zCallV cal 18 [] 209 1, zJeq iv false 2770]),
  (2016, 2017, [zNo]),
  (2018, 2052, [zLdA 1, zLdA 0, zLdI 5, zPush 8, zBin Nat.add, zAldS [(0, slen, scr)], zLdA 3, zCallR cal 162 3, zStI 9 6, zLdA 2, zLdA 0, zLdI 5, zPush 8, zBin Nat.add, zAldS [(0, slen, scr)], zCallV cal 18 [] 208 2, zStL 9 7, zLdA 2, zCallV cal 18 [] 273 1, zLdI 6, zJeq iv false 2054]),
  (2052, 2053, [zNo]),
  (2054, 2059, [zLdI 6, z0eq iv true 2070]),
  (2059, 2068, [zLdA 3, zPush 0, zAld (fun v => zt v 4) 66 4, zLdL 7, zLcmp, z0eq iv false 2070]),
  (2068, 2069, [zNo]),
  (2070, 2073, [zGoto 2770]),
  (2073, 2085, [zLdA 1, zCallV cal 17 [] 57 1, zLdA 2, zCallV cal 18 [] 265 1, zLcmp, z0eq iv false 2770]),
  (2085, 2086, [zNo]),
  (2087, 2109, [zLdA 1, zLdA 3, zCallR cal 176 2, zStI 9 6, zLdA 2, zCallV cal 18 [] 249 1, zStI 9 7, zLdA 2, zCallV cal 18 [] 273 1, zLdI 6, zJeq iv false 2111]),
  (2109, 2110, [zNo]),
  (2111, 2116, [zLdI 6, z0eq iv true 2128]),
  (2116, 2117, [zNo]),
  (2128, 2131, [zGoto 2770]),
  (2131, 2165, [zLdA 1, zLdA 0, zLdI 5, zPush 8, zBin Nat.add, zAldS [(0, slen, scr)], zLdA 3, zCallR cal 175 3, zStI 9 6, zLdA 2, zLdA 0, zLdI 5, zPush 8, zBin Nat.add, zAldS [(0, slen, scr)], zCallV cal 18 [] 248 2, zStI 9 7, zLdA 2, zCallV cal 18 [] 273 1, zLdI 6, zJeq iv false 2167]),
  (2165, 2166, [zNo]),
  (2167, 2172, [zLdI 6, z0eq iv true 2184]),
  (2172, 2182, [zLdA 3, zPush 0, zAld (fun v => zt v 4) 66 4, zLdI 7, zI2l, zLcmp, z0eq iv false 2184]),
  (2182, 2183, [zNo]),
  (2184, 2187, [zGoto 2770]),
  (2187, 2221, [zLdA 1, zLdA 0, zLdI 5, zPush 8, zBin Nat.add, zAldS [(0, slen, scr)], zLdA 3, zCallR cal 173 3, zStI 9 6, zLdA 2, zLdA 0, zLdI 5, zPush 8, zBin Nat.add, zAldS [(0, slen, scr)], zCallV cal 18 [] 244 2, zStI 9 7, zLdA 2, zCallV cal 18 [] 273 1, zLdI 6, zJeq iv false 2223]),
  (2221, 2222, [zNo]),
  (2223, 2228, [zLdI 6, z0eq iv true 2240]),
  (2228, 2238, [zLdA 3, zPush 0, zAld (fun v => zt v 4) 66 4, zLdI 7, zI2l, zLcmp, z0eq iv false 2240]),
  (2238, 2239, [zNo]),
  (2240, 2243, [zGoto 2770]),
  (2243, 2277, [zLdA 1, zLdA 0, zLdI 5, zPush 8, zBin Nat.add, zAldS [(0, slen, scr)], zLdA 3, zCallR cal 174 3, zStI 9 6, zLdA 2, zLdA 0, zLdI 5, zPush 8, zBin Nat.add, zAldS [(0, slen, scr)], zCallV cal 18 [] 245 2, zStI 9 7, zLdA 2, zCallV cal 18 [] 273 1, zLdI 6, zJeq iv false 2279]),
  (2277, 2278, [zNo]),
  (2279, 2284, [zLdI 6, z0eq iv true 2296]),
  (2284, 2294, [zLdA 3, zPush 0, zAld (fun v => zt v 4) 66 4, zLdI 7, zI2l, zLcmp, z0eq iv false 2296]),
  (2294, 2295, [zNo]),
  (2296, 2299, [zGoto 2770]),
  (2299, 2333, [zLdA 1, zLdA 0, zLdI 5, zPush 8, zBin Nat.add, zAldS [(0, slen, scr)], zLdA 3, zCallR cal 167 3, zStI 9 6, zLdA 2, zLdA 0, zLdI 5, zPush 8, zBin Nat.add, zAldS [(0, slen, scr)], zCallV cal 18 [] 226 2, zStI 9 7, zLdA 2, zCallV cal 18 [] 273 1, zLdI 6, zJeq iv false 2335]),
  (2333, 2334, [zNo]),
  (2335, 2340, [zLdI 6, z0eq iv true 2359]),
  (2340, 2348, [zLdA 3, zPush 0, zAld (fun v => zt v 4) 66 4, zLdI 7, z0eq iv false 2352]),
  (2348, 2352, [zPush 12, zGoto 2353]),
  (2352, 2353, [zNo]),
  (2353, 2357, [zLcmp, z0eq iv false 2359]),
  (2357, 2358, [zNo]),
  (2359, 2362, [zGoto 2770]),
  (2362, 2396, [zLdA 1, zLdA 0, zLdI 5, zPush 8, zBin Nat.add, zAldS [(0, slen, scr)], zLdA 3, zCallR cal 170 3, zStI 9 6, zLdA 2, zLdA 0, zLdI 5, zPush 8, zBin Nat.add, zAldS [(0, slen, scr)], zCallV cal 18 [] 230 2, zStI 9 7, zLdA 2, zCallV cal 18 [] 273 1, zLdI 6, zJeq iv false 2398]),
  (2396, 2397, [zNo]),
  (2398, 2403, [zLdI 6, z0eq iv true 2415]),
  (2403, 2404, [zNo]),
  (2415, 2418, [zGoto 2770]),
  (2418, 2429, [zLdA 1, zCallV cal 17 [] 12 1, zLdA 2, zCallV cal 18 [] 205 1, zJeq iv false 2770]),
  (2429, 2430, [zNo]),
  (2431, 2442, [zLdA 1, zCallV cal 17 [] 28 1, zLdA 2, zCallV cal 18 [] 233 1, zJeq iv false 2770]),
  (2442, 2443, [zNo]),
  (2444, 2466, [zLdA 1, zLdA 3, zCallR cal 164 2, zStI 9 6, zLdA 2, zCallV cal 18 [] 212 1, zStI 9 7, zLdA 2, zCallV cal 18 [] 273 1, zLdI 6, zJeq iv false 2468]),
  (2466, 2467, [zNo]),
  (2468, 2473, [zLdI 6, z0eq iv true 2485]),
  (2473, 2483, [zLdA 3, zPush 0, zAld (fun v => zt v 4) 66 4, zLdI 7, zI2l, zLcmp, z0eq iv false 2485]),
  (2483, 2484, [zNo]),
  (2485, 2488, [zGoto 2770]),
  (2488, 2534, [zLdA 1, zLdA 0, zLdI 5, zPush 8, zBin Nat.add, zAldS [(0, slen, scr)], zLdA 0, zLdI 5, zPush 16, zBin Nat.add, zAldS [(0, slen, scr)], zLdA 3, zCallR cal 172 4, zStI 9 6, zLdA 2, zLdA 0, zLdI 5, zPush 8, zBin Nat.add, zAldS [(0, slen, scr)], zLdA 0, zLdI 5, zPush 16, zBin Nat.add, zAldS [(0, slen, scr)], zCallV cal 18 [] 241 3, zStI 9 7, zLdA 2, zCallV cal 18 [] 273 1, zLdI 6, zJeq iv false 2536]),
  (2534, 2535, [zNo]),
  (2536, 2541, [zLdI 6, z0eq iv true 2553]),
  (2541, 2542, [zNo]),
  (2553, 2556, [zGoto 2770]),
  (2556, 2567, [zLdA 1, zCallV cal 17 [] 61 1, zLdA 2, zCallV cal 18 [] 271 1, zJeq iv false 2770]),
  (2567, 2568, [zNo]),
  (2569, 2580, [zLdA 1, zCallV cal 17 [] 55 1, zLdA 2, zCallV cal 18 [] 262 1, zJeq iv false 2770]),
  (2580, 2581, [zNo]),
  (2582, 2604, [zLdA 1, zLdA 3, zCallR cal 186 2, zStI 9 6, zLdA 2, zCallV cal 18 [] 274 1, zStI 9 7, zLdA 2, zCallV cal 18 [] 273 1, zLdI 6, zJeq iv false 2606]),
  (2604, 2605, [zNo]),
  (2606, 2611, [zLdI 6, z0eq iv true 2623]),
  (2611, 2621, [zLdA 3, zPush 0, zAld (fun v => zt v 4) 66 4, zLdI 7, zI2l, zLcmp, z0eq iv false 2623]),
  (2621, 2622, [zNo]),
  (2623, 2626, [zGoto 2770]),
  (2626, 2649, [zLdA 1, zLdA 4, zCallR cal 165 2, zStI 9 6, zLdA 2, zCallV cal 18 [] 214 1, zStF 9 7, zLdA 2, zCallV cal 18 [] 273 1, zLdI 6, zJeq iv false 2651]),
  (2649, 2650, [zNo]),
  (2651, 2656, [zLdI 6, z0eq iv true 2689]),
  (2656, 2658, [zNo]),
  (2689, 2692, [zGoto 2770]),
  (2692, 2715, [zLdA 1, zLdA 4, zCallR cal 177 2, zStI 9 6, zLdA 2, zCallV cal 18 [] 251 1, zStD 9 7, zLdA 2, zCallV cal 18 [] 273 1, zLdI 6, zJeq iv false 2717]),
  (2715, 2716, [zNo]),
  (2717, 2722, [zLdI 6, z0eq iv true 2754]),
  (2722, 2724, [zNo]),
  (2754, 2757, [zGoto 2770]),
  (2757, 2768, [zLdA 1, zCallV cal 17 [] 31 1, zLdA 2, zCallV cal 18 [] 239 1, zJeq iv false 2770]),
  (2768, 2769, [zNo]),
  (2770, 2776, [zIinc 9 5 4, zGoto 28]),
  (2776, 2778, [zPush 8, zRetV zisZ])])
noncomputable def tb_X11_init (scr slen opc : Nat) (iv : Nat → Nat × Nat) (dc db du : List (Nat × Nat)) (cal : zCal) : Nat × zBs := (1, [(0, 137, [zLdA 0, zObj, zLdA 0, zNew 9 6 66902235595591869424621321917393693453582339, zDup, zCallI cal 90 1, zPutf zisA 17 0, zLdA 0, zNew 13 8 315936875005671560093820985286606888826109907523564727456386514947, zDup, zCallI cal 119 1, zPutf zisA 17 1, zLdA 0, zNew 15 4 14167099448608935641091, zDup, zCallI cal 135 1, zPutf zisA 17 2, zLdA 0, zNew 6 4 66902235595591869424621321917393693453582339, zDup, zCallI cal 70 1, zPutf zisA 17 3, zLdA 0, zNew 6 4 66902235595591869424621321917393693453582339, zDup, zCallI cal 70 1, zPutf zisA 17 4, zLdA 0, zNew 10 3 14167099448608935641091, zDup, zCallI cal 101 1, zPutf zisA 17 5, zLdA 0, zNew 8 2 3, zDup, zCallI cal 87 1, zPutf zisA 17 6, zLdA 0, zNew 12 7 14167099448608935641091, zDup, zCallI cal 110 1, zPutf zisA 17 7, zLdA 0, zNew 7 1 0, zDup, zCallI cal 77 1, zPutf zisA 17 8, zLdA 0, zNew 14 5 315936875005671560093820985286606888826109907523564727456386514947, zDup, zCallI cal 129 1, zPutf zisA 17 9, zLdA 0, zNew 11 4 66902235595591869424621321917393693453582339, zDup, zCallI cal 103 1, zPutf zisA 17 10, zLdA 0, zNew 16 6 315936875005671560093820985286606888826109907523564727456386514947, zDup, zCallI cal 144 1, zPutf zisA 17 11, zRet0])])
noncomputable def tb_X11_above (scr slen opc : Nat) (iv : Nat → Nat × Nat) (dc db du : List (Nat × Nat)) (cal : zCal) : Nat × zBs := (2, [(0, 12, [zLdI 1, zLdA 0, zGetf 17 3, zGetf 6 3, zCall cal 42 2, zNo])])
noncomputable def tb_X11_apex (scr slen opc : Nat) (iv : Nat → Nat × Nat) (dc db du : List (Nat × Nat)) (cal : zCal) : Nat × zBs := (2, [(0, 20, [zPush 178, zLdI 1, zCall cal 44 2, zLdA 0, zGetf 17 7, zLdA 0, zGetf 17 0, zLdI 1, zCallV cal 12 [] 112 3, zRetV zisI])])
noncomputable def tb_X11_bag (scr slen opc : Nat) (iv : Nat → Nat × Nat) (dc db du : List (Nat × Nat)) (cal : zCal) : Nat × zBs := (3, [(0, 10, [zLdA 0, zLdI 1, zCallV cal 17 [] 47 2, zLdI 2, zPush 34359738360, zJlt iv false false 49]),
  (10, 21, [zLdI 2, zLdA 0, zGetf 17 3, zGetf 6 3, zJlt iv false true 49]),
  (21, 26, [zLdI 2, zPush 34359738360, zJeq iv true 30]),
  (26, 30, [zPush 8, zGoto 31]),
  (30, 31, [zNo]),
  (31, 41, [zLdA 0, zGetf 17 3, zGetf 6 3, z0eq iv true 45]),
  (41, 45, [zPush 8, zGoto 46]),
  (45, 46, [zNo]),
  (46, 49, [zJeq iv false 57]),
  (49, 57, [zThrow 2]),
  (57, 69, [zLdA 0, zGetf 17 3, zGetf 6 3, zPush 160, zJlt iv false false 77]),
  (69, 72, [zNo]),
  (77, 87, [zLdA 0, zGetf 17 3, zLdI 1, zLdI 2, zCallV cal 6 [] 73 3, zRetV zisI])])
noncomputable def tb_X11_bagAt (scr slen opc : Nat) (iv : Nat → Nat × Nat) (dc db du : List (Nat × Nat)) (cal : zCal) : Nat × zBs := (2, [(0, 12, [zLdI 1, zLdA 0, zGetf 17 3, zGetf 6 3, zCall cal 42 2, zNo])])
noncomputable def tb_X11_bagWidth (scr slen opc : Nat) (iv : Nat → Nat × Nat) (dc db du : List (Nat × Nat)) (cal : zCal) : Nat × zBs := (1, [(0, 5, [zLdA 0, zCallV cal 17 [] 40 1, zNo])])
noncomputable def tb_X11_bestSet (scr slen opc : Nat) (iv : Nat → Nat × Nat) (dc db du : List (Nat × Nat)) (cal : zCal) : Nat × zBs := (2, [(0, 16, [zLdA 0, zGetf 17 8, zLdA 0, zGetf 17 0, zCallV cal 7 [] 84 2, zStI 2 1, zLdI 1, z0lt iv false true 24]),
  (16, 19, [zNo]),
  (24, 26, [zLdI 1, zRetV zisI])])
noncomputable def tb_X11_check (scr slen opc : Nat) (iv : Nat → Nat × Nat) (dc db du : List (Nat × Nat)) (cal : zCal) : Nat × zBs := (1, [(0, 12, [zLdA 0, zGetf 17 3, zLdA 0, zGetf 17 0, zCallV cal 6 [] 72 2, zRetV zisC])])
noncomputable def tb_X11_clause (scr slen opc : Nat) (iv : Nat → Nat × Nat) (dc db du : List (Nat × Nat)) (cal : zCal) : Nat × zBs := (3, [(0, 23, [zPush 194, zLdI 1, zCall cal 44 2, zLdA 0, zGetf 17 8, zPush 194, zLdI 1, zCallV cal 0 zsobj 290 2, zLdI 2, zCallV cal 7 [] 85 3, zRetV zisZ])])
noncomputable def tb_X11_clearBags (scr slen opc : Nat) (iv : Nat → Nat × Nat) (dc db du : List (Nat × Nat)) (cal : zCal) : Nat × zBs := (2, [(0, 18, [zLdA 0, zGetf 17 3, zGetf 6 3, zStI 2 1, zLdA 0, zGetf 17 3, zPush 0, zPutf zisI 6 3, zLdI 1, zRetV zisI])])
noncomputable def tb_X11_clearFamily (scr slen opc : Nat) (iv : Nat → Nat × Nat) (dc db du : List (Nat × Nat)) (cal : zCal) : Nat × zBs := (2, [(0, 18, [zLdA 0, zGetf 17 6, zGetf 8 1, zStI 2 1, zLdA 0, zGetf 17 6, zPush 0, zPutf zisI 8 1, zLdI 1, zRetV zisI])])
noncomputable def tb_X11_clearHyperedges (scr slen opc : Nat) (iv : Nat → Nat × Nat) (dc db du : List (Nat × Nat)) (cal : zCal) : Nat × zBs := (2, [(0, 18, [zLdA 0, zGetf 17 10, zGetf 11 3, zStI 2 1, zLdA 0, zGetf 17 10, zPush 0, zPutf zisI 11 3, zLdI 1, zRetV zisI])])
noncomputable def tb_X11_clearOrder (scr slen opc : Nat) (iv : Nat → Nat × Nat) (dc db du : List (Nat × Nat)) (cal : zCal) : Nat × zBs := (2, [(0, 18, [zLdA 0, zGetf 17 1, zGetf 13 4, zStI 2 1, zLdA 0, zGetf 17 1, zPush 0, zPutf zisI 13 4, zLdI 1, zRetV zisI])])
noncomputable def tb_X11_colourings (scr slen opc : Nat) (iv : Nat → Nat × Nat) (dc db du : List (Nat × Nat)) (cal : zCal) : Nat × zBs := (2, [(0, 19, [zLdI 1, zPush 72, zCall cal 46 2, zLdA 0, zGetf 17 9, zLdA 0, zGetf 17 0, zLdI 1, zCallV cal 14 [] 130 3, zRetV (fun v => zt v 4)])])
noncomputable def tb_X11_colours (scr slen opc : Nat) (iv : Nat → Nat × Nat) (dc db du : List (Nat × Nat)) (cal : zCal) : Nat × zBs := (1, [(0, 12, [zLdA 0, zGetf 17 9, zLdA 0, zGetf 17 0, zCallV cal 14 [] 132 2, zRetV zisI])])
noncomputable def tb_X11_contract (scr slen opc : Nat) (iv : Nat → Nat × Nat) (dc db du : List (Nat × Nat)) (cal : zCal) : Nat × zBs := (3, [(0, 7, [zLdA 0, zLdI 1, zLdI 2, zCallV cal 17 [] 45 3, zNo])])
noncomputable def tb_X11_cover (scr slen opc : Nat) (iv : Nat → Nat × Nat) (dc db du : List (Nat × Nat)) (cal : zCal) : Nat × zBs := (1, [(0, 20, [zLdA 0, zGetf 17 3, zCallV cal 6 [] 76 1, zLdA 0, zGetf 17 10, zCallV cal 11 [] 107 1, zPush 34359738360, zBin Nat.xor, zAndS, z0eq iv false 28]),
  (20, 23, [zNo]),
  (28, 40, [zLdA 0, zGetf 17 10, zLdA 0, zGetf 17 3, zCallV cal 11 [] 105 2, zRetV zisI])])
noncomputable def tb_X11_decompose (scr slen opc : Nat) (iv : Nat → Nat × Nat) (dc db du : List (Nat × Nat)) (cal : zCal) : Nat × zBs := (1, [(0, 43, [zLdA 0, zGetf 17 1, zLdA 0, zGetf 17 0, zPush 928, zCallV cal 13 [] 125 3, zLdA 0, zGetf 17 3, zLdA 0, zGetf 17 0, zLdA 0, zGetf 17 2, zLdA 0, zGetf 17 1, zGetf 13 2, zCallV cal 6 [] 75 4, zLdA 0, zGetf 17 3, zGetf 6 3, zRetV zisI])])
noncomputable def tb_X11_density (scr slen opc : Nat) (iv : Nat → Nat × Nat) (dc db du : List (Nat × Nat)) (cal : zCal) : Nat × zBs := (2, [(0, 13, [zLdA 0, zGetf 17 0, zCallV cal 9 [] 92 1, zStI 2 1, zLdI 1, zPush 16, zJlt iv false true 21]),
  (13, 21, [zThrow 0]),
  (21, 22, [zNo])])
noncomputable def tb_X11_edge (scr slen opc : Nat) (iv : Nat → Nat × Nat) (dc db du : List (Nat × Nat)) (cal : zCal) : Nat × zBs := (5, [(0, 7, [zLdA 0, zLdI 1, zLdI 2, zCallV cal 17 [] 45 3, zNo])])
noncomputable def tb_X11_edges (scr slen opc : Nat) (iv : Nat → Nat × Nat) (dc db du : List (Nat × Nat)) (cal : zCal) : Nat × zBs := (1, [(0, 15, [zLdA 0, zGetf 17 0, zLdA 0, zGetf 17 0, zGetf 9 4, zCallV cal 9 [] 93 2, zRetV zisI])])
noncomputable def tb_X11_familyOrder (scr slen opc : Nat) (iv : Nat → Nat × Nat) (dc db du : List (Nat × Nat)) (cal : zCal) : Nat × zBs := (1, [(0, 15, [zLdA 0, zGetf 17 6, zLdA 0, zGetf 17 0, zGetf 9 4, zCallV cal 8 [] 89 2, zRetV zisI])])
noncomputable def tb_X11_fewestSearchers (scr slen opc : Nat) (iv : Nat → Nat × Nat) (dc db du : List (Nat × Nat)) (cal : zCal) : Nat × zBs := (1, [(0, 27, [zLdA 0, zGetf 17 5, zLdA 0, zGetf 17 0, zCallV cal 10 [] 102 2, zLdA 0, zGetf 17 5, zGetf 10 0, zLdA 0, zGetf 17 0, zGetf 9 4, zAld zisI 64 0, zRetV zisI])])
noncomputable def tb_X11_hasCover (scr slen opc : Nat) (iv : Nat → Nat × Nat) (dc db du : List (Nat × Nat)) (cal : zCal) : Nat × zBs := (2, [(0, 17, [zLdI 1, zPush 80, zCall cal 46 2, zLdA 0, zGetf 17 0, zCall cal 80 1, zLdI 1, zJlt iv true false 21]),
  (17, 21, [zPush 8, zGoto 22]),
  (21, 22, [zNo]),
  (22, 23, [zRetV zisZ])])
noncomputable def tb_X11_hasMinor (scr slen opc : Nat) (iv : Nat → Nat × Nat) (dc db du : List (Nat × Nat)) (cal : zCal) : Nat × zBs := (2, [(0, 27, [zPush 114, zLdI 1, zCall cal 44 2, zLdA 0, zGetf 17 7, zLdA 0, zGetf 17 0, zLdI 1, zLdA 0, zGetf 17 0, zGetf 9 4, zCallV cal 12 [] 113 4, zRetV zisZ])])
noncomputable def tb_X11_haven (scr slen opc : Nat) (iv : Nat → Nat × Nat) (dc db du : List (Nat × Nat)) (cal : zCal) : Nat × zBs := (3, [(0, 19, [zLdI 1, zPush 80, zCall cal 46 2, zLdA 0, zLdI 2, zCallV cal 17 [] 47 2, zLdI 2, zCall cal 283 1, zLdI 1, zJlt iv true true 27]),
  (19, 22, [zNo]),
  (27, 35, [zLdA 0, zCallV cal 17 [] 23 1, zLdI 1, zJlt iv true false 43]),
  (35, 43, [zThrow 3]),
  (43, 44, [zNo])])
noncomputable def tb_X11_hyperedge (scr slen opc : Nat) (iv : Nat → Nat × Nat) (dc db du : List (Nat × Nat)) (cal : zCal) : Nat × zBs := (2, [(0, 6, [zLdA 0, zLdI 1, zCallV cal 17 [] 41 2, zNo])])
noncomputable def tb_X11_isAcyclic (scr slen opc : Nat) (iv : Nat → Nat × Nat) (dc db du : List (Nat × Nat)) (cal : zCal) : Nat × zBs := (1, [(0, 8, [zLdA 0, zGetf 17 10, zCallV cal 11 [] 109 1, zRetV zisZ])])
noncomputable def tb_X11_isBramble (scr slen opc : Nat) (iv : Nat → Nat × Nat) (dc db du : List (Nat × Nat)) (cal : zCal) : Nat × zBs := (1, [(0, 12, [zLdA 0, zGetf 17 6, zLdA 0, zGetf 17 0, zCallV cal 8 [] 88 2, zRetV zisZ])])
noncomputable def tb_X11_isIn (scr slen opc : Nat) (iv : Nat → Nat × Nat) (dc db du : List (Nat × Nat)) (cal : zCal) : Nat × zBs := (2, [(0, 27, [zPush 178, zLdI 1, zCall cal 44 2, zLdA 0, zGetf 17 7, zLdA 0, zGetf 17 0, zLdI 1, zLdA 0, zGetf 17 0, zGetf 9 4, zCallV cal 12 [] 115 4, zRetV zisZ])])
noncomputable def tb_X11_isTrue (scr slen opc : Nat) (iv : Nat → Nat × Nat) (dc db du : List (Nat × Nat)) (cal : zCal) : Nat × zBs := (2, [(0, 10, [zLdA 0, zGetf 17 0, zGetf 9 4, z0eq iv true 12]),
  (10, 12, [zPush 8, zRetV zisZ]),
  (12, 13, [zNo])])
noncomputable def tb_X11_join (scr slen opc : Nat) (iv : Nat → Nat × Nat) (dc db du : List (Nat × Nat)) (cal : zCal) : Nat × zBs := (3, [(0, 6, [zLdA 0, zLdI 1, zCallV cal 17 [] 48 2, zNo])])
noncomputable def tb_X11_kernel (scr slen opc : Nat) (iv : Nat → Nat × Nat) (dc db du : List (Nat × Nat)) (cal : zCal) : Nat × zBs := (2, [(0, 13, [zLdA 0, zLdI 1, zCallV cal 17 [] 43 2, zLdA 0, zGetf 17 2, zGetf 15 2, zRetV zisI])])
noncomputable def tb_X11_kernelLeft (scr slen opc : Nat) (iv : Nat → Nat × Nat) (dc db du : List (Nat × Nat)) (cal : zCal) : Nat × zBs := (2, [(0, 13, [zLdA 0, zLdI 1, zCallV cal 17 [] 43 2, zLdA 0, zGetf 17 2, zGetf 15 3, zRetV zisI])])
noncomputable def tb_X11_link (scr slen opc : Nat) (iv : Nat → Nat × Nat) (dc db du : List (Nat × Nat)) (cal : zCal) : Nat × zBs := (3, [(0, 20, [zLdA 0, zLdI 1, zCallV cal 17 [] 47 2, zLdA 0, zGetf 17 0, zLdI 1, zCall cal 81 2, zStI 3 2, zLdI 2, zPush 80, zJlt iv true true 28]),
  (20, 23, [zNo]),
  (28, 30, [zLdI 2, zRetV zisI])])
noncomputable def tb_X11_longest (scr slen opc : Nat) (iv : Nat → Nat × Nat) (dc db du : List (Nat × Nat)) (cal : zCal) : Nat × zBs := (1, [(0, 10, [zLdA 0, zGetf 17 0, zGetf 9 4, z0eq iv true 18]),
  (10, 18, [zThrow 3]),
  (18, 19, [zNo])])
noncomputable def tb_X11_lower (scr slen opc : Nat) (iv : Nat → Nat × Nat) (dc db du : List (Nat × Nat)) (cal : zCal) : Nat × zBs := (1, [(0, 12, [zLdA 0, zGetf 17 2, zLdA 0, zGetf 17 0, zCallV cal 15 [] 137 2, zRetV zisI])])
noncomputable def tb_X11_meanDegree (scr slen opc : Nat) (iv : Nat → Nat × Nat) (dc db du : List (Nat × Nat)) (cal : zCal) : Nat × zBs := (2, [(0, 13, [zLdA 0, zGetf 17 0, zCallV cal 9 [] 92 1, zStI 2 1, zLdI 1, zPush 8, zJlt iv false true 21]),
  (13, 21, [zThrow 0]),
  (21, 22, [zNo])])
noncomputable def tb_X11_model (scr slen opc : Nat) (iv : Nat → Nat × Nat) (dc db du : List (Nat × Nat)) (cal : zCal) : Nat × zBs := (3, [(0, 29, [zPush 114, zLdI 1, zCall cal 44 2, zLdA 0, zGetf 17 7, zLdA 0, zGetf 17 0, zLdI 1, zLdA 0, zGetf 17 0, zGetf 9 4, zCallV cal 12 [] 113 4, z0eq iv true 37]),
  (29, 37, [zThrow 3]),
  (37, 38, [zNo])])
noncomputable def tb_X11_needBags (scr slen opc : Nat) (iv : Nat → Nat × Nat) (dc db du : List (Nat × Nat)) (cal : zCal) : Nat × zBs := (1, [(0, 10, [zLdA 0, zGetf 17 3, zGetf 6 3, z0eq iv true 18]),
  (10, 18, [zThrow 3]),
  (18, 19, [zNo])])
noncomputable def tb_X11_needFilledSet (scr slen opc : Nat) (iv : Nat → Nat × Nat) (dc db du : List (Nat × Nat)) (cal : zCal) : Nat × zBs := (2, [(0, 9, [zLdA 0, zLdI 1, zCallV cal 17 [] 47 2, zLdI 1, z0eq iv true 17]),
  (9, 17, [zThrow 1]),
  (17, 18, [zNo])])
noncomputable def tb_X11_needIndex (scr slen opc : Nat) (iv : Nat → Nat × Nat) (dc db du : List (Nat × Nat)) (cal : zCal) : Nat × zBs := (2, [(0, 4, [zLdI 0, z0lt iv false false 9]),
  (4, 9, [zLdI 0, zLdI 1, zJlt iv false false 17]),
  (9, 17, [zThrow 2]),
  (17, 18, [zNo])])
noncomputable def tb_X11_needKernel (scr slen opc : Nat) (iv : Nat → Nat × Nat) (dc db du : List (Nat × Nat)) (cal : zCal) : Nat × zBs := (2, [(0, 21, [zLdI 1, zPush 80, zCall cal 46 2, zLdA 0, zGetf 17 2, zLdA 0, zGetf 17 0, zLdI 1, zCallV cal 15 [] 142 3, z0eq iv true 29]),
  (21, 24, [zNo]),
  (29, 30, [zRet0])])
noncomputable def tb_X11_needKind (scr slen opc : Nat) (iv : Nat → Nat × Nat) (dc db du : List (Nat × Nat)) (cal : zCal) : Nat × zBs := (2, [(0, 8, [zLdA 0, zLdI 1, zCallV cal 0 zsobj 290 2, z0lt iv false true 16]),
  (8, 16, [zThrow 1]),
  (16, 17, [zRet0])])
noncomputable def tb_X11_needPair (scr slen opc : Nat) (iv : Nat → Nat × Nat) (dc db du : List (Nat × Nat)) (cal : zCal) : Nat × zBs := (3, [(0, 6, [zLdA 0, zLdI 1, zCallV cal 17 [] 48 2, zNo])])
noncomputable def tb_X11_needRange (scr slen opc : Nat) (iv : Nat → Nat × Nat) (dc db du : List (Nat × Nat)) (cal : zCal) : Nat × zBs := (2, [(0, 4, [zLdI 0, z0lt iv false false 9]),
  (4, 9, [zLdI 0, zLdI 1, zJlt iv true true 17]),
  (9, 17, [zThrow 1]),
  (17, 18, [zRet0])])
noncomputable def tb_X11_needSet (scr slen opc : Nat) (iv : Nat → Nat × Nat) (dc db du : List (Nat × Nat)) (cal : zCal) : Nat × zBs := (2, [(0, 11, [zLdA 0, zGetf 17 0, zLdI 1, zCallV cal 9 [] 97 2, z0eq iv true 19]),
  (11, 19, [zThrow 1]),
  (19, 20, [zRet0])])
noncomputable def tb_X11_needVertex (scr slen opc : Nat) (iv : Nat → Nat × Nat) (dc db du : List (Nat × Nat)) (cal : zCal) : Nat × zBs := (2, [(0, 11, [zLdA 0, zGetf 17 0, zLdI 1, zCallV cal 9 [] 96 2, z0eq iv true 19]),
  (11, 19, [zThrow 2]),
  (19, 20, [zNo])])
noncomputable def tb_X11_neighbours (scr slen opc : Nat) (iv : Nat → Nat × Nat) (dc db du : List (Nat × Nat)) (cal : zCal) : Nat × zBs := (2, [(0, 6, [zLdA 0, zLdI 1, zCallV cal 17 [] 48 2, zNo])])
noncomputable def tb_X11_nice (scr slen opc : Nat) (iv : Nat → Nat × Nat) (dc db du : List (Nat × Nat)) (cal : zCal) : Nat × zBs := (1, [(0, 5, [zLdA 0, zCallV cal 17 [] 40 1, zNo])])
noncomputable def tb_X11_orderAt (scr slen opc : Nat) (iv : Nat → Nat × Nat) (dc db du : List (Nat × Nat)) (cal : zCal) : Nat × zBs := (3, [(0, 18, [zPush 210, zLdI 1, zCall cal 44 2, zLdI 2, zLdA 0, zGetf 17 0, zCallV cal 9 [] 92 1, zCall cal 42 2, zNo])])
noncomputable def tb_X11_parts (scr slen opc : Nat) (iv : Nat → Nat × Nat) (dc db du : List (Nat × Nat)) (cal : zCal) : Nat × zBs := (1, [(0, 15, [zLdA 0, zGetf 17 0, zLdA 0, zGetf 17 0, zGetf 9 4, zCallV cal 9 [] 98 2, zRetV zisI])])
noncomputable def tb_X11_place (scr slen opc : Nat) (iv : Nat → Nat × Nat) (dc db du : List (Nat × Nat)) (cal : zCal) : Nat × zBs := (2, [(0, 6, [zLdA 0, zLdI 1, zCallV cal 17 [] 48 2, zNo])])
noncomputable def tb_X11_put (scr slen opc : Nat) (iv : Nat → Nat × Nat) (dc db du : List (Nat × Nat)) (cal : zCal) : Nat × zBs := (2, [(0, 6, [zLdA 0, zLdI 1, zCallV cal 17 [] 41 2, zNo])])
noncomputable def tb_X11_red (scr slen opc : Nat) (iv : Nat → Nat × Nat) (dc db du : List (Nat × Nat)) (cal : zCal) : Nat × zBs := (1, [(0, 12, [zLdA 0, zGetf 17 11, zLdA 0, zGetf 17 0, zCallV cal 16 [] 150 2, zRetV zisI])])
noncomputable def tb_X11_remove (scr slen opc : Nat) (iv : Nat → Nat × Nat) (dc db du : List (Nat × Nat)) (cal : zCal) : Nat × zBs := (3, [(0, 6, [zLdA 0, zLdI 1, zCallV cal 17 [] 48 2, zNo])])
noncomputable def tb_X11_rings (scr slen opc : Nat) (iv : Nat → Nat × Nat) (dc db du : List (Nat × Nat)) (cal : zCal) : Nat × zBs := (1, [(0, 12, [zLdA 0, zGetf 17 9, zLdA 0, zGetf 17 0, zCallV cal 14 [] 131 2, zRetV (fun v => zt v 4)])])
noncomputable def tb_X11_searchers (scr slen opc : Nat) (iv : Nat → Nat × Nat) (dc db du : List (Nat × Nat)) (cal : zCal) : Nat × zBs := (1, [(0, 5, [zLdA 0, zCallV cal 17 [] 23 1, zRetV zisI])])
noncomputable def tb_X11_sets (scr slen opc : Nat) (iv : Nat → Nat × Nat) (dc db du : List (Nat × Nat)) (cal : zCal) : Nat × zBs := (1, [(0, 12, [zLdA 0, zGetf 17 8, zLdA 0, zGetf 17 0, zCallV cal 7 [] 78 2, zRetV zisI])])
noncomputable def tb_X11_size (scr slen opc : Nat) (iv : Nat → Nat × Nat) (dc db du : List (Nat × Nat)) (cal : zCal) : Nat × zBs := (1, [(0, 8, [zLdA 0, zGetf 17 0, zCallV cal 9 [] 92 1, zRetV zisI])])
noncomputable def tb_X11_split (scr slen opc : Nat) (iv : Nat → Nat × Nat) (dc db du : List (Nat × Nat)) (cal : zCal) : Nat × zBs := (2, [(0, 24, [zLdA 0, zGetf 17 11, zCallV cal 16 [] 145 1, zStI 2 1, zLdA 0, zGetf 17 11, zLdA 0, zGetf 17 0, zGetf 9 4, zCallV cal 16 [] 153 2, zLdI 1, zRetV zisI])])
noncomputable def tb_X11_takeHaven (scr slen opc : Nat) (iv : Nat → Nat × Nat) (dc db du : List (Nat × Nat)) (cal : zCal) : Nat × zBs := (1, [(0, 10, [zLdA 0, zGetf 17 0, zGetf 9 4, z0eq iv true 18]),
  (10, 18, [zThrow 3]),
  (18, 19, [zNo])])
noncomputable def tb_X11_twinWidth (scr slen opc : Nat) (iv : Nat → Nat × Nat) (dc db du : List (Nat × Nat)) (cal : zCal) : Nat × zBs := (1, [(0, 12, [zLdA 0, zGetf 17 0, zCallV cal 9 [] 92 1, zPush 56, zJlt iv true true 20]),
  (12, 15, [zNo]),
  (20, 32, [zLdA 0, zGetf 17 11, zLdA 0, zGetf 17 0, zCallV cal 16 [] 149 2, zRetV zisI])])
noncomputable def tb_X11_upper (scr slen opc : Nat) (iv : Nat → Nat × Nat) (dc db du : List (Nat × Nat)) (cal : zCal) : Nat × zBs := (1, [(0, 12, [zLdA 0, zGetf 17 2, zLdA 0, zGetf 17 0, zCallV cal 15 [] 136 2, zRetV zisI])])
noncomputable def tb_X11_vertex (scr slen opc : Nat) (iv : Nat → Nat × Nat) (dc db du : List (Nat × Nat)) (cal : zCal) : Nat × zBs := (3, [(0, 18, [zLdI 1, zPush 792, zCall cal 46 2, zLdA 0, zGetf 17 0, zGetf 9 3, zPush 80, zJlt iv false false 26]),
  (18, 21, [zNo]),
  (26, 45, [zLdA 0, zGetf 17 0, zLdI 1, zCallV cal 9 [] 91 2, zStI 3 2, zLdA 0, zGetf 17 11, zLdI 2, zCallV cal 16 [] 154 2, zLdI 2, zRetV zisI])])
noncomputable def tb_X11_weight (scr slen opc : Nat) (iv : Nat → Nat × Nat) (dc db du : List (Nat × Nat)) (cal : zCal) : Nat × zBs := (2, [(0, 6, [zLdA 0, zLdI 1, zCallV cal 17 [] 48 2, zNo])])
noncomputable def tb_X11_width (scr slen opc : Nat) (iv : Nat → Nat × Nat) (dc db du : List (Nat × Nat)) (cal : zCal) : Nat × zBs := (2, [(0, 40, [zPush 226, zLdI 1, zCall cal 44 2, zLdI 1, zSw iv 83 [(2147483748, 40), (2147483751, 67), (2147483761, 75)]]),
  (40, 67, [zLdA 0, zGetf 17 5, zLdA 0, zGetf 17 0, zCallV cal 10 [] 102 2, zLdA 0, zGetf 17 5, zGetf 10 1, zLdA 0, zGetf 17 0, zGetf 9 4, zAld zisI 64 0, zRetV zisI]),
  (67, 75, [zLdA 0, zGetf 17 0, zCall cal 79 1, zRetV zisI]),
  (75, 83, [zLdA 0, zGetf 17 0, zCall cal 83 1, zRetV zisI]),
  (83, 103, [zLdA 0, zGetf 17 1, zLdA 0, zGetf 17 0, zLdI 1, zCallV cal 13 [] 125 3, zLdA 0, zGetf 17 1, zGetf 13 5, zRetV zisI])])
noncomputable def tb_X11_widthOf (scr slen opc : Nat) (iv : Nat → Nat × Nat) (dc db du : List (Nat × Nat)) (cal : zCal) : Nat × zBs := (2, [(0, 23, [zPush 210, zLdI 1, zCall cal 44 2, zLdA 0, zGetf 17 1, zGetf 13 4, zLdA 0, zGetf 17 0, zCallV cal 9 [] 92 1, zJlt iv false true 31]),
  (23, 26, [zNo]),
  (31, 58, [zLdA 0, zGetf 17 1, zLdA 0, zGetf 17 0, zLdI 1, zLdA 0, zGetf 17 1, zGetf 13 3, zLdA 0, zGetf 17 1, zGetf 13 4, zCallV cal 13 [] 128 5, zRetV zisI])])
noncomputable def tb_X11_win (scr slen opc : Nat) (iv : Nat → Nat × Nat) (dc db du : List (Nat × Nat)) (cal : zCal) : Nat × zBs := (2, [(0, 14, [zLdI 1, zPush 80, zCall cal 46 2, zLdA 0, zCallV cal 17 [] 23 1, zLdI 1, zJlt iv true false 18]),
  (14, 18, [zPush 8, zGoto 19]),
  (18, 19, [zNo]),
  (19, 20, [zRetV zisZ])])
noncomputable def tb_X0_init (scr slen opc : Nat) (iv : Nat → Nat × Nat) (dc db du : List (Nat × Nat)) (cal : zCal) : Nat × zBs := (1, [(0, 29, [zLdA 0, zObj, zLdA 0, zPush 160, zNewA 64, zPutf zisA 6 0, zLdA 0, zPush 160, zNewA 64, zPutf zisA 6 1, zLdA 0, zPush 80, zNewA 64, zPutf zisA 6 2, zRet0])])
noncomputable def tb_X0_everyVertexHangs (scr slen opc : Nat) (iv : Nat → Nat × Nat) (dc db du : List (Nat × Nat)) (cal : zCal) : Nat × zBs := (5, [(0, 12, [zPush 0, zStI 5 2, zPush 0, zStI 5 3, zLdI 3, zLdA 0, zGetf 6 3, zJlt iv false true 48]),
  (12, 13, [zNo]),
  (48, 50, [zPush 8, zRetV zisZ])])
noncomputable def tb_X0_fault (scr slen opc : Nat) (iv : Nat → Nat × Nat) (dc db du : List (Nat × Nat)) (cal : zCal) : Nat × zBs := (2, [(0, 14, [zLdA 1, zGetf 9 4, zLdA 0, zCallV cal 6 [] 76 1, zPush 34359738360, zBin Nat.xor, zAndS, z0eq iv false 17]),
  (14, 16, [zNo]),
  (17, 25, [zLdA 0, zLdA 1, zCallV cal 6 [] 74 2, z0eq iv true 28]),
  (25, 27, [zNo]),
  (28, 36, [zLdA 0, zLdA 1, zCallV cal 6 [] 71 2, z0eq iv false 41]),
  (36, 41, [zPush 360, zGoto 43]),
  (41, 43, [zNo]),
  (43, 44, [zRetV zisC])])
noncomputable def tb_X0_hang (scr slen opc : Nat) (iv : Nat → Nat × Nat) (dc db du : List (Nat × Nat)) (cal : zCal) : Nat × zBs := (4, [(0, 11, [zLdA 0, zGetf 6 3, zStI 4 3, zLdI 3, zPush 160, zJlt iv false true 35]),
  (11, 35, [zLdA 0, zGetf 6 0, zLdI 3, zLdI 1, zAst zisI 64 0, zLdA 0, zGetf 6 1, zLdI 3, zLdI 2, zAst zisI 64 0, zLdA 0, zDup, zGetf 6 3, zPush 8, zBin Nat.add, zPutf zisI 6 3]),
  (35, 37, [zLdI 3, zRetV zisI])])
noncomputable def tb_X0_holdsAllEdges (scr slen opc : Nat) (iv : Nat → Nat × Nat) (dc db du : List (Nat × Nat)) (cal : zCal) : Nat × zBs := (5, [(0, 10, [zPush 0, zStI 5 2, zLdI 2, zLdA 1, zGetf 9 3, zJlt iv false true 75]),
  (10, 11, [zNo]),
  (75, 77, [zPush 8, zRetV zisZ])])
noncomputable def tb_X0_make (scr slen opc : Nat) (iv : Nat → Nat × Nat) (dc db du : List (Nat × Nat)) (cal : zCal) : Nat × zBs := (6, [(0, 21, [zLdA 1, zCallV cal 9 [] 92 1, zStI 6 4, zLdA 2, zLdA 1, zCallV cal 15 [] 139 2, zPush 0, zStI 6 5, zLdI 5, zLdI 4, zJlt iv false true 70]),
  (21, 22, [zNo]),
  (70, 80, [zPush 0, zStI 6 5, zLdI 5, zLdI 4, zJlt iv false true 120]),
  (80, 81, [zNo]),
  (120, 127, [zLdA 0, zLdI 4, zPutf zisI 6 3, zRet0])])
noncomputable def tb_X0_union (scr slen opc : Nat) (iv : Nat → Nat × Nat) (dc db du : List (Nat × Nat)) (cal : zCal) : Nat × zBs := (3, [(0, 12, [zPush 0, zStI 3 1, zPush 0, zStI 3 2, zLdI 2, zLdA 0, zGetf 6 3, zJlt iv false true 27]),
  (12, 13, [zNo]),
  (27, 29, [zLdI 1, zRetV zisI])])
noncomputable def tb_X1_init (scr slen opc : Nat) (iv : Nat → Nat × Nat) (dc db du : List (Nat × Nat)) (cal : zCal) : Nat × zBs := (1, [(0, 5, [zLdA 0, zObj, zRet0])])
noncomputable def tb_X1_countKept (scr slen opc : Nat) (iv : Nat → Nat × Nat) (dc db du : List (Nat × Nat)) (cal : zCal) : Nat × zBs := (4, [(0, 4, [zPush 0, zStI 4 2, zPush 0, zStI 4 3]),
  (4, 12, [zLdI 3, zLdA 1, zGetf 9 4, zJlt iv true false 38]),
  (12, 20, [zLdA 1, zLdI 3, zCallV cal 9 [] 97 2, z0eq iv false 32]),
  (20, 29, [zLdA 0, zLdA 1, zLdI 3, zCallV cal 7 [] 82 3, z0eq iv false 32]),
  (29, 32, [zIinc 4 2 1]),
  (32, 38, [zIinc 4 3 1, zGoto 4]),
  (38, 40, [zLdI 2, zRetV zisI])])
noncomputable def tb_X1_densestCore (scr slen opc : Nat) (iv : Nat → Nat × Nat) (dc db du : List (Nat × Nat)) (cal : zCal) : Nat × zBs := (3, [(0, 12, [zPush 0, zStI 3 1, zPush 8, zStI 3 2, zLdI 2, zLdA 0, zGetf 9 4, zJlt iv true false 36]),
  (12, 13, [zNo]),
  (36, 38, [zLdI 1, zRetV zisI])])
noncomputable def tb_X1_fewestThatCover (scr slen opc : Nat) (iv : Nat → Nat × Nat) (dc db du : List (Nat × Nat)) (cal : zCal) : Nat × zBs := (3, [(0, 15, [zLdA 0, zCallV cal 9 [] 92 1, zStI 3 1, zPush 0, zStI 3 2, zLdI 2, zLdA 0, zGetf 9 4, zJlt iv false true 57]),
  (15, 16, [zNo]),
  (57, 59, [zLdI 1, zRetV zisI])])
noncomputable def tb_X1_fewestThatLink (scr slen opc : Nat) (iv : Nat → Nat × Nat) (dc db du : List (Nat × Nat)) (cal : zCal) : Nat × zBs := (4, [(0, 5, [zPush 88, zStI 4 2, zPush 0, zStI 4 3]),
  (5, 13, [zLdI 3, zLdA 0, zGetf 9 4, zJlt iv true false 56]),
  (13, 21, [zLdA 0, zLdI 3, zCallV cal 9 [] 97 2, z0eq iv false 50]),
  (21, 29, [zLdI 1, zLdI 3, zPush 34359738360, zBin Nat.xor, zAndS, z0eq iv true 50]),
  (29, 37, [zLdI 3, zCall cal 283 1, zLdI 2, zJlt iv false true 50]),
  (37, 45, [zLdA 0, zLdI 3, zCallV cal 9 [] 95 2, z0eq iv false 50]),
  (45, 50, [zLdI 3, zCall cal 283 1, zStI 4 2]),
  (50, 56, [zIinc 4 3 1, zGoto 5]),
  (56, 58, [zLdI 2, zRetV zisI])])
noncomputable def tb_X1_keepsAll (scr slen opc : Nat) (iv : Nat → Nat × Nat) (dc db du : List (Nat × Nat)) (cal : zCal) : Nat × zBs := (4, [(0, 2, [zPush 0, zStI 4 3]),
  (2, 11, [zLdI 3, zPush 194, zCallV cal 0 zsobj 293 1, zJlt iv false true 44]),
  (11, 22, [zLdA 0, zGetf 7 0, zLdI 3, zShrS, zPush 8, zAndS, z0eq iv false 38]),
  (22, 23, [zNo]),
  (38, 44, [zIinc 4 3 1, zGoto 2]),
  (44, 46, [zPush 8, zRetV zisZ])])
noncomputable def tb_X1_largestClique (scr slen opc : Nat) (iv : Nat → Nat × Nat) (dc db du : List (Nat × Nat)) (cal : zCal) : Nat × zBs := (3, [(0, 4, [zPush 0, zStI 3 1, zPush 0, zStI 3 2]),
  (4, 12, [zLdI 2, zLdA 0, zGetf 9 4, zJlt iv true false 47]),
  (12, 20, [zLdA 0, zLdI 2, zCallV cal 9 [] 97 2, z0eq iv false 41]),
  (20, 28, [zLdI 2, zCall cal 283 1, zLdI 1, zJlt iv true true 41]),
  (28, 29, [zNo]),
  (41, 47, [zIinc 3 2 1, zGoto 4]),
  (47, 49, [zLdI 1, zRetV zisI])])
noncomputable def tb_X1_lightest (scr slen opc : Nat) (iv : Nat → Nat × Nat) (dc db du : List (Nat × Nat)) (cal : zCal) : Nat × zBs := (6, [(0, 7, [zPush 34359738360, zStI 6 2, zPush 0, zStI 6 3, zPush 0, zStI 6 4]),
  (7, 16, [zLdI 4, zLdA 1, zGetf 9 4, zJlt iv true false 65]),
  (16, 25, [zLdA 1, zLdI 4, zCallV cal 9 [] 97 2, z0eq iv false 59]),
  (25, 35, [zLdA 0, zLdA 1, zLdI 4, zCallV cal 7 [] 82 3, z0eq iv false 59]),
  (35, 47, [zLdA 1, zLdI 4, zCall cal 86 2, zStI 6 5, zLdI 2, z0lt iv false false 53]),
  (47, 49, [zNo]),
  (53, 59, [zLdI 4, zStI 6 2, zLdI 5, zStI 6 3]),
  (59, 65, [zIinc 6 4 1, zGoto 7]),
  (65, 67, [zLdI 2, zRetV zisI])])
noncomputable def tb_X1_tell (scr slen opc : Nat) (iv : Nat → Nat × Nat) (dc db du : List (Nat × Nat)) (cal : zCal) : Nat × zBs := (4, [(0, 11, [zLdA 0, zGetf 7 0, zLdI 1, zShrS, zPush 8, zAndS, z0eq iv false 15]),
  (11, 12, [zNo]),
  (15, 22, [zPush 0, zStI 4 3, zLdA 0, zLdI 2, z0eq iv false 33]),
  (22, 33, [zLdA 0, zGetf 7 0, zPush 8, zLdI 1, zBin zfShl, zOrS, zGoto 43]),
  (33, 43, [zLdA 0, zGetf 7 0, zPush 8, zLdI 1, zBin zfShl, zPush 34359738360, zBin Nat.xor, zAndS]),
  (43, 48, [zPutf zisI 7 0, zLdI 3, zRetV zisZ])])
noncomputable def tb_X1_weigh (scr slen opc : Nat) (iv : Nat → Nat × Nat) (dc db du : List (Nat × Nat)) (cal : zCal) : Nat × zBs := (4, [(0, 12, [zPush 0, zStI 4 2, zPush 0, zStI 4 3, zLdI 3, zLdA 0, zGetf 9 3, zJlt iv false true 35]),
  (12, 13, [zNo]),
  (35, 37, [zLdI 2, zRetV zisI])])
noncomputable def tb_X2_init (scr slen opc : Nat) (iv : Nat → Nat × Nat) (dc db du : List (Nat × Nat)) (cal : zCal) : Nat × zBs := (1, [(0, 13, [zLdA 0, zObj, zLdA 0, zPush 480, zNewA 64, zPutf zisA 8 0, zRet0])])
noncomputable def tb_X2_brambles (scr slen opc : Nat) (iv : Nat → Nat × Nat) (dc db du : List (Nat × Nat)) (cal : zCal) : Nat × zBs := (5, [(0, 10, [zPush 0, zStI 5 2, zLdI 2, zLdA 0, zGetf 8 1, zJlt iv false true 79]),
  (10, 11, [zNo]),
  (79, 81, [zPush 8, zRetV zisZ])])
noncomputable def tb_X2_fewestThatMeet (scr slen opc : Nat) (iv : Nat → Nat × Nat) (dc db du : List (Nat × Nat)) (cal : zCal) : Nat × zBs := (4, [(0, 12, [zLdI 1, zCall cal 283 1, zStI 4 2, zPush 0, zStI 4 3, zLdI 3, zLdI 1, zJlt iv false true 47]),
  (12, 13, [zNo]),
  (47, 49, [zLdI 2, zRetV zisI])])
noncomputable def tb_X3_init (scr slen opc : Nat) (iv : Nat → Nat × Nat) (dc db du : List (Nat × Nat)) (cal : zCal) : Nat × zBs := (1, [(0, 30, [zLdA 0, zObj, zLdA 0, zPush 80, zNewA 64, zPutf zisA 9 0, zLdA 0, zPush 80, zNewA 64, zPutf zisA 9 1, zLdA 0, zPush 8192, zNewA 64, zPutf zisA 9 2, zRet0])])
noncomputable def tb_X3_add (scr slen opc : Nat) (iv : Nat → Nat × Nat) (dc db du : List (Nat × Nat)) (cal : zCal) : Nat × zBs := (3, [(0, 40, [zLdA 0, zGetf 9 3, zStI 3 2, zLdA 0, zDup, zGetf 9 3, zPush 8, zBin Nat.add, zPutf zisI 9 3, zLdA 0, zDup, zGetf 9 4, zPush 8, zLdI 2, zBin zfShl, zOrS, zPutf zisI 9 4, zLdA 0, zGetf 9 1, zLdI 2, zLdI 1, zAst zisI 64 0, zLdA 0, zCallV cal 9 [] 100 1, zLdI 2, zRetV zisI])])
noncomputable def tb_X3_count (scr slen opc : Nat) (iv : Nat → Nat × Nat) (dc db du : List (Nat × Nat)) (cal : zCal) : Nat × zBs := (1, [(0, 8, [zLdA 0, zGetf 9 4, zCall cal 283 1, zRetV zisI])])
noncomputable def tb_X3_edgesWithin (scr slen opc : Nat) (iv : Nat → Nat × Nat) (dc db du : List (Nat × Nat)) (cal : zCal) : Nat × zBs := (2, [(0, 11, [zLdA 0, zGetf 9 0, zLdI 1, zCall cal 94 2, zPush 16, zDiv Nat.div, zRetV zisI])])
noncomputable def tb_X3_ends (scr slen opc : Nat) (iv : Nat → Nat × Nat) (dc db du : List (Nat × Nat)) (cal : zCal) : Nat × zBs := (4, [(0, 4, [zPush 0, zStI 4 2, zPush 0, zStI 4 3]),
  (4, 10, [zLdI 3, zPush 80, zJlt iv false true 35]),
  (10, 18, [zLdI 1, zLdI 3, zShrS, zPush 8, zAndS, z0eq iv false 29]),
  (18, 19, [zNo]),
  (29, 35, [zIinc 4 3 1, zGoto 4]),
  (35, 37, [zLdI 2, zRetV zisI])])
noncomputable def tb_X3_hangs (scr slen opc : Nat) (iv : Nat → Nat × Nat) (dc db du : List (Nat × Nat)) (cal : zCal) : Nat × zBs := (2, [(0, 13, [zLdA 0, zLdI 1, zLdI 1, zNeg, zAndS, zLdI 1, zCallV cal 9 [] 99 3, zLdI 1, zJeq iv true 17]),
  (13, 17, [zPush 8, zGoto 18]),
  (17, 18, [zNo]),
  (18, 19, [zRetV zisZ])])
noncomputable def tb_X3_has (scr slen opc : Nat) (iv : Nat → Nat × Nat) (dc db du : List (Nat × Nat)) (cal : zCal) : Nat × zBs := (2, [(0, 4, [zLdI 1, z0lt iv false false 27]),
  (4, 12, [zLdI 1, zLdA 0, zGetf 9 3, zJlt iv false true 27]),
  (12, 13, [zNo]),
  (27, 29, [zPush 0, zRetV zisZ])])
noncomputable def tb_X3_holds (scr slen opc : Nat) (iv : Nat → Nat × Nat) (dc db du : List (Nat × Nat)) (cal : zCal) : Nat × zBs := (2, [(0, 11, [zLdI 1, zLdA 0, zGetf 9 4, zPush 34359738360, zBin Nat.xor, zAndS, z0eq iv true 15]),
  (11, 15, [zPush 8, zGoto 16]),
  (15, 16, [zPush 0]),
  (16, 17, [zRetV zisZ])])
noncomputable def tb_X3_partsWithin (scr slen opc : Nat) (iv : Nat → Nat × Nat) (dc db du : List (Nat × Nat)) (cal : zCal) : Nat × zBs := (4, [(0, 8, [zPush 0, zStI 4 2, zLdI 1, zStI 4 3, zLdI 3, z0eq iv false 30]),
  (8, 9, [zNo]),
  (30, 32, [zLdI 2, zRetV zisI])])
noncomputable def tb_X3_reach (scr slen opc : Nat) (iv : Nat → Nat × Nat) (dc db du : List (Nat × Nat)) (cal : zCal) : Nat × zBs := (6, [(0, 14, [zLdI 1, zLdI 2, zAndS, zStI 6 3, zPush 0, zStI 6 4, zLdI 4, zPush 80, zJlt iv false true 44]),
  (14, 32, [zLdI 3, zLdA 0, zGetf 9 2, zLdI 3, zAld zisI 64 0, zLdI 2, zAndS, zOrS, zStI 6 5, zLdI 5, zLdI 3, zJeq iv true 35]),
  (32, 35, [zGoto 44]),
  (35, 37, [zNo]),
  (44, 46, [zLdI 3, zRetV zisI])])
noncomputable def tb_X3_refresh (scr slen opc : Nat) (iv : Nat → Nat × Nat) (dc db du : List (Nat × Nat)) (cal : zCal) : Nat × zBs := (4, [(0, 12, [zLdA 0, zDup, zGetf 9 5, zPush 8, zBin Nat.add, zPutf zisI 9 5, zPush 0, zStI 4 1]),
  (12, 18, [zLdI 1, zPush 80, zJlt iv false true 64]),
  (18, 24, [zPush 8, zLdI 1, zBin zfShl, zStI 4 2, zLdI 2, zStI 4 3]),
  (24, 31, [zLdI 3, zPush 16, zLdI 2, zBin Nat.mul, zJlt iv false true 58]),
  (31, 58, [zLdA 0, zGetf 9 2, zLdI 3, zLdA 0, zGetf 9 2, zLdI 3, zLdI 2, zBin zfSub, zAld zisI 64 0, zLdA 0, zGetf 9 0, zLdI 1, zAld zisI 64 0, zOrS, zAst zisI 64 0, zIinc 4 3 1, zGoto 24]),
  (58, 64, [zIinc 4 1 1, zGoto 12]),
  (64, 65, [zRet0])])
noncomputable def tb_X4_init (scr slen opc : Nat) (iv : Nat → Nat × Nat) (dc db du : List (Nat × Nat)) (cal : zCal) : Nat × zBs := (1, [(0, 28, [zLdA 0, zObj, zLdA 0, zPush 8192, zNewA 64, zPutf zisA 10 0, zLdA 0, zPush 8192, zNewA 64, zPutf zisA 10 1, zLdA 0, zPush 34359738360, zPutf zisI 10 2, zRet0])])
noncomputable def tb_X4_ready (scr slen opc : Nat) (iv : Nat → Nat × Nat) (dc db du : List (Nat × Nat)) (cal : zCal) : Nat × zBs := (3, [(0, 11, [zLdA 0, zGetf 10 2, zLdA 1, zGetf 9 5, zJeq iv true 12]),
  (11, 12, [zNo]),
  (12, 30, [zLdA 0, zLdA 1, zGetf 9 5, zPutf zisI 10 2, zPush 8, zStI 3 2, zLdI 2, zLdA 1, zGetf 9 4, zJlt iv true false 50]),
  (30, 31, [zNo]),
  (50, 51, [zRet0])])
noncomputable def tb_X5_init (scr slen opc : Nat) (iv : Nat → Nat × Nat) (dc db du : List (Nat × Nat)) (cal : zCal) : Nat × zBs := (1, [(0, 29, [zLdA 0, zObj, zLdA 0, zPush 80, zNewA 64, zPutf zisA 11 0, zLdA 0, zPush 80, zNewA 64, zPutf zisA 11 1, zLdA 0, zPush 160, zNewA 64, zPutf zisA 11 2, zRet0])])
noncomputable def tb_X5_dropInner (scr slen opc : Nat) (iv : Nat → Nat × Nat) (dc db du : List (Nat × Nat)) (cal : zCal) : Nat × zBs := (3, [(0, 12, [zPush 0, zStI 3 1, zPush 0, zStI 3 2, zLdI 2, zLdA 0, zGetf 11 3, zJlt iv false true 44]),
  (12, 13, [zNo]),
  (44, 46, [zLdI 1, zRetV zisZ])])
noncomputable def tb_X5_mostNeeded (scr slen opc : Nat) (iv : Nat → Nat × Nat) (dc db du : List (Nat × Nat)) (cal : zCal) : Nat × zBs := (5, [(0, 10, [zPush 0, zStI 5 2, zLdI 2, zLdA 1, zGetf 6 3, zJlt iv false true 24]),
  (10, 11, [zNo]),
  (24, 26, [zPush 0, zStI 5 2]),
  (26, 36, [zLdI 2, zPush 8, zLdA 0, zGetf 11 3, zBin zfShl, zJlt iv false true 101]),
  (36, 54, [zLdA 0, zLdI 2, zCallV cal 11 [] 108 2, zStI 5 3, zPush 0, zStI 5 4, zLdI 4, zLdA 1, zGetf 6 3, zJlt iv false true 95]),
  (54, 55, [zNo]),
  (95, 101, [zIinc 5 2 1, zGoto 26]),
  (101, 113, [zPush 0, zStI 5 2, zPush 0, zStI 5 3, zLdI 3, zLdA 1, zGetf 6 3, zJlt iv false true 130]),
  (113, 114, [zNo]),
  (130, 132, [zLdI 2, zRetV zisI])])
noncomputable def tb_X5_stripLone (scr slen opc : Nat) (iv : Nat → Nat × Nat) (dc db du : List (Nat × Nat)) (cal : zCal) : Nat × zBs := (4, [(0, 14, [zPush 0, zStI 4 1, zPush 0, zStI 4 2, zPush 0, zStI 4 3, zLdI 3, zLdA 0, zGetf 11 3, zJlt iv false true 40]),
  (14, 15, [zNo]),
  (40, 50, [zPush 0, zStI 4 3, zLdI 3, zLdA 0, zGetf 11 3, zJlt iv false true 66]),
  (50, 51, [zNo]),
  (66, 71, [zLdI 1, zLdI 2, zJeq iv false 75]),
  (71, 72, [zNo]),
  (75, 77, [zPush 0, zRetV zisZ])])
noncomputable def tb_X5_union (scr slen opc : Nat) (iv : Nat → Nat × Nat) (dc db du : List (Nat × Nat)) (cal : zCal) : Nat × zBs := (1, [(0, 13, [zLdA 0, zPush 8, zLdA 0, zGetf 11 3, zBin zfShl, zPush 8, zBin zfSub, zCallV cal 11 [] 108 2, zRetV zisI])])
noncomputable def tb_X5_unionOf (scr slen opc : Nat) (iv : Nat → Nat × Nat) (dc db du : List (Nat × Nat)) (cal : zCal) : Nat × zBs := (4, [(0, 12, [zPush 0, zStI 4 2, zPush 0, zStI 4 3, zLdI 3, zLdA 0, zGetf 11 3, zJlt iv false true 35]),
  (12, 13, [zNo]),
  (35, 37, [zLdI 2, zRetV zisI])])
noncomputable def tb_X5_vanish (scr slen opc : Nat) (iv : Nat → Nat × Nat) (dc db du : List (Nat × Nat)) (cal : zCal) : Nat × zBs := (4, [(0, 15, [zLdA 0, zGetf 11 0, zPush 0, zLdA 0, zGetf 11 1, zPush 0, zPush 80, zNo]),
  (25, 37, [zLdA 0, zCallV cal 11 [] 106 1, zStI 4 3, zLdA 0, zCallV cal 11 [] 104 1, z0eq iv true 44]),
  (37, 41, [zLdI 3, z0eq iv true 44]),
  (41, 44, [zGoto 50]),
  (44, 47, [zNo]),
  (50, 60, [zPush 0, zStI 4 2, zLdI 2, zLdA 0, zGetf 11 3, zJlt iv false true 77]),
  (60, 61, [zNo]),
  (77, 79, [zPush 8, zRetV zisZ])])
noncomputable def tb_X6_init (scr slen opc : Nat) (iv : Nat → Nat × Nat) (dc db du : List (Nat × Nat)) (cal : zCal) : Nat × zBs := (1, [(0, 32, [zLdA 0, zObj, zLdA 0, zPush 8192, zNewA 64, zPutf zisA 12 0, zLdA 0, zPush 48, zNewA 64, zPutf zisA 12 1, zLdA 0, zPush 34359738360, zPutf zisI 12 3, zLdA 0, zPush 34359738360, zPutf zisI 12 5, zRet0])])
noncomputable def tb_X6_extend (scr slen opc : Nat) (iv : Nat → Nat × Nat) (dc db du : List (Nat × Nat)) (cal : zCal) : Nat × zBs := (7, [(0, 8, [zLdI 3, zLdI 2, zCall cal 118 1, zJlt iv false true 14]),
  (8, 14, [zLdI 3, zPush 48, zJlt iv false false 16]),
  (14, 15, [zNo]),
  (16, 28, [zLdA 0, zLdA 1, zLdI 2, zLdI 3, zLdI 4, zCallV cal 12 [] 117 5, z0eq iv true 30]),
  (28, 30, [zPush 0, zRetV zisZ]),
  (30, 31, [zNo])])
noncomputable def tb_X6_fewestTooMany (scr slen opc : Nat) (iv : Nat → Nat × Nat) (dc db du : List (Nat × Nat)) (cal : zCal) : Nat × zBs := (6, [(0, 14, [zLdA 1, zCallV cal 9 [] 92 1, zStI 6 3, zPush 0, zStI 6 4, zLdI 4, zLdI 3, zJlt iv false true 78]),
  (14, 15, [zNo]),
  (78, 80, [zLdI 3, zRetV zisI])])
noncomputable def tb_X6_find (scr slen opc : Nat) (iv : Nat → Nat × Nat) (dc db du : List (Nat × Nat)) (cal : zCal) : Nat × zBs := (4, [(0, 8, [zLdI 3, zLdA 1, zGetf 9 4, zJeq iv true 32]),
  (8, 19, [zLdA 0, zGetf 12 5, zLdA 1, zGetf 9 5, zJeq iv true 32]),
  (19, 27, [zLdA 0, zGetf 12 4, zLdI 2, zJeq iv true 32]),
  (27, 28, [zNo]),
  (32, 63, [zLdA 0, zLdA 1, zCallV cal 12 [] 116 2, zLdA 0, zLdA 0, zLdA 1, zLdI 2, zPush 0, zLdI 3, zCall cal 111 5, zPutf zisZ 12 6, zLdA 0, zLdI 2, zPutf zisI 12 4, zLdA 0, zLdI 3, zLdA 1, zGetf 9 4, zJeq iv true 70]),
  (63, 70, [zLdA 1, zGetf 9 5, zGoto 71]),
  (70, 71, [zNo]),
  (71, 79, [zPutf zisI 12 5, zLdA 0, zGetf 12 6, zRetV zisZ])])
noncomputable def tb_X6_firstSide (scr slen opc : Nat) (iv : Nat → Nat × Nat) (dc db du : List (Nat × Nat)) (cal : zCal) : Nat × zBs := (1, [(0, 6, [zLdI 0, zPush 784, zJeq iv true 10]),
  (6, 10, [zPush 24, zGoto 21]),
  (10, 16, [zLdI 0, zPush 888, zJeq iv true 20]),
  (16, 20, [zPush 16, zGoto 21]),
  (20, 21, [zPush 0]),
  (21, 22, [zRetV zisI])])
noncomputable def tb_X6_inClass (scr slen opc : Nat) (iv : Nat → Nat × Nat) (dc db du : List (Nat × Nat)) (cal : zCal) : Nat × zBs := (4, [(0, 36, [zLdI 2, zSw iv 98 [(2147483750, 36), (2147483759, 70), (2147483763, 53)]]),
  (36, 47, [zLdA 0, zLdA 1, zPush 408, zLdI 3, zCallV cal 12 [] 113 4, z0eq iv true 51]),
  (47, 51, [zPush 8, zGoto 52]),
  (51, 52, [zNo]),
  (52, 53, [zRetV zisZ]),
  (53, 64, [zLdA 0, zLdA 1, zPush 416, zLdI 3, zCallV cal 12 [] 113 4, z0eq iv true 68]),
  (64, 68, [zPush 8, zGoto 69]),
  (68, 69, [zNo]),
  (69, 70, [zRetV zisZ]),
  (70, 81, [zLdA 0, zLdA 1, zPush 416, zLdI 3, zCallV cal 12 [] 113 4, z0eq iv true 96]),
  (81, 92, [zLdA 0, zLdA 1, zPush 888, zLdI 3, zCallV cal 12 [] 113 4, z0eq iv true 96]),
  (92, 96, [zPush 8, zGoto 97]),
  (96, 97, [zNo]),
  (97, 98, [zRetV zisZ]),
  (98, 109, [zLdA 0, zLdA 1, zPush 424, zLdI 3, zCallV cal 12 [] 113 4, z0eq iv true 124]),
  (109, 120, [zLdA 0, zLdA 1, zPush 784, zLdI 3, zCallV cal 12 [] 113 4, z0eq iv true 124]),
  (120, 124, [zPush 8, zGoto 125]),
  (124, 125, [zNo]),
  (125, 126, [zRetV zisZ])])
noncomputable def tb_X6_ready (scr slen opc : Nat) (iv : Nat → Nat × Nat) (dc db du : List (Nat × Nat)) (cal : zCal) : Nat × zBs := (3, [(0, 11, [zLdA 0, zGetf 12 3, zLdA 1, zGetf 9 5, zJeq iv true 12]),
  (11, 12, [zRet0]),
  (12, 35, [zLdA 0, zLdA 1, zGetf 9 5, zPutf zisI 12 3, zLdA 0, zPush 0, zPutf zisI 12 2, zPush 8, zStI 3 2, zLdI 2, zLdA 1, zGetf 9 4, zJlt iv true false 85]),
  (35, 36, [zNo]),
  (85, 86, [zRet0])])
noncomputable def tb_X6_roomIsLeft (scr slen opc : Nat) (iv : Nat → Nat × Nat) (dc db du : List (Nat × Nat)) (cal : zCal) : Nat × zBs := (10, [(0, 24, [zLdI 2, zCall cal 114 1, zStI 10 5, zLdI 2, zCall cal 118 1, zLdI 3, zBin zfSub, zStI 10 6, zLdI 4, zCall cal 283 1, zLdI 6, zJlt iv false true 26]),
  (24, 26, [zPush 0, zRetV zisZ]),
  (26, 28, [zNo])])
noncomputable def tb_X6_setsOf (scr slen opc : Nat) (iv : Nat → Nat × Nat) (dc db du : List (Nat × Nat)) (cal : zCal) : Nat × zBs := (1, [(0, 36, [zLdI 0, zSw iv 43 [(2147483699, 36), (2147483700, 38), (2147483746, 40)]]),
  (36, 38, [zPush 24, zRetV zisI]),
  (38, 40, [zPush 32, zRetV zisI]),
  (40, 43, [zPush 48, zRetV zisI]),
  (43, 45, [zPush 40, zRetV zisI])])
noncomputable def tb_X7_init (scr slen opc : Nat) (iv : Nat → Nat × Nat) (dc db du : List (Nat × Nat)) (cal : zCal) : Nat × zBs := (1, [(0, 43, [zLdA 0, zObj, zLdA 0, zPush 8192, zNewA 64, zPutf zisA 13 0, zLdA 0, zPush 80, zNewA 64, zPutf zisA 13 1, zLdA 0, zPush 80, zNewA 64, zPutf zisA 13 2, zLdA 0, zPush 80, zNewA 64, zPutf zisA 13 3, zLdA 0, zPush 34359738360, zPutf zisI 13 7, zRet0])])
noncomputable def tb_X7_cutCost (scr slen opc : Nat) (iv : Nat → Nat × Nat) (dc db du : List (Nat × Nat)) (cal : zCal) : Nat × zBs := (4, [(0, 36, [zLdI 2, zSw iv 68 [(2147483747, 55), (2147483760, 36), (2147483762, 61)]]),
  (36, 55, [zLdI 3, zLdA 1, zGetf 9 2, zLdA 1, zGetf 9 4, zLdI 3, zPush 34359738360, zBin Nat.xor, zAndS, zAld zisI 64 0, zAndS, zCall cal 283 1, zRetV zisI]),
  (55, 61, [zLdA 1, zLdI 3, zCall cal 121 2, zRetV zisI]),
  (61, 68, [zLdA 0, zLdA 1, zLdI 3, zCallV cal 13 [] 124 3, zRetV zisI]),
  (68, 70, [zPush 0, zRetV zisI])])
noncomputable def tb_X7_edgesAcross (scr slen opc : Nat) (iv : Nat → Nat × Nat) (dc db du : List (Nat × Nat)) (cal : zCal) : Nat × zBs := (4, [(0, 12, [zPush 0, zStI 4 2, zPush 0, zStI 4 3, zLdI 3, zLdA 0, zGetf 9 3, zJlt iv false true 42]),
  (12, 13, [zNo]),
  (42, 44, [zLdI 2, zRetV zisI])])
noncomputable def tb_X7_extendBand (scr slen opc : Nat) (iv : Nat → Nat × Nat) (dc db du : List (Nat × Nat)) (cal : zCal) : Nat × zBs := (7, [(0, 6, [zLdI 4, zLdI 2, zJeq iv false 12]),
  (6, 7, [zNo]),
  (12, 18, [zLdI 4, zLdI 2, zJeq iv true 22]),
  (18, 22, [zPush 8, zGoto 23]),
  (22, 23, [zNo]),
  (23, 24, [zRetV zisZ])])
noncomputable def tb_X7_leastAhead (scr slen opc : Nat) (iv : Nat → Nat × Nat) (dc db du : List (Nat × Nat)) (cal : zCal) : Nat × zBs := (6, [(0, 8, [zLdI 3, zLdA 1, zGetf 9 4, zJeq iv true 10]),
  (8, 10, [zPush 0, zRetV zisI]),
  (10, 12, [zNo])])
noncomputable def tb_X7_rank (scr slen opc : Nat) (iv : Nat → Nat × Nat) (dc db du : List (Nat × Nat)) (cal : zCal) : Nat × zBs := (5, [(0, 5, [zPush 0, zStI 5 3, zPush 0, zStI 5 4]),
  (5, 12, [zLdI 4, zPush 80, zJlt iv false true 26]),
  (12, 26, [zLdA 0, zGetf 13 1, zLdI 4, zPush 0, zAst zisI 64 0, zIinc 5 4 1, zGoto 5]),
  (26, 38, [zPush 0, zStI 5 4, zLdI 4, zLdA 1, zGetf 9 3, zJlt iv false true 74]),
  (38, 39, [zNo]),
  (74, 76, [zLdI 3, zRetV zisI])])
noncomputable def tb_X7_solve (scr slen opc : Nat) (iv : Nat → Nat × Nat) (dc db du : List (Nat × Nat)) (cal : zCal) : Nat × zBs := (3, [(0, 11, [zLdA 0, zGetf 13 7, zLdA 1, zGetf 9 5, zJeq iv true 20]),
  (11, 12, [zNo]),
  (20, 39, [zLdA 0, zLdA 1, zGetf 9 5, zPutf zisI 13 7, zLdA 0, zLdI 2, zPutf zisI 13 6, zLdI 2, zPush 784, zJeq iv true 47]),
  (39, 47, [zLdA 0, zLdA 1, zCallV cal 13 [] 126 2, zGoto 53]),
  (47, 53, [zLdA 0, zLdA 1, zLdI 2, zCallV cal 13 [] 127 3]),
  (53, 54, [zRet0])])
noncomputable def tb_X7_solveBand (scr slen opc : Nat) (iv : Nat → Nat × Nat) (dc db du : List (Nat × Nat)) (cal : zCal) : Nat × zBs := (5, [(0, 18, [zLdA 0, zPush 0, zPutf zisI 13 5, zLdA 1, zGetf 9 4, zStI 5 2, zPush 0, zStI 5 3, zLdI 3, zPush 80, zJlt iv false true 49]),
  (18, 22, [zLdI 2, z0eq iv false 49]),
  (22, 23, [zNo]),
  (49, 62, [zLdA 0, zLdA 1, zLdA 1, zGetf 9 4, zPush 0, zPush 0, zCall cal 122 5, zPop, zRet0])])
noncomputable def tb_X7_solveByBeginnings (scr slen opc : Nat) (iv : Nat → Nat × Nat) (dc db du : List (Nat × Nat)) (cal : zCal) : Nat × zBs := (5, [(0, 5, [zLdA 1, zGetf 9 4, zStI 5 3]),
  (5, 9, [zLdI 3, z0lt iv false false 46]),
  (9, 17, [zLdA 1, zLdI 3, zCallV cal 9 [] 97 2, z0eq iv false 40]),
  (17, 40, [zLdA 0, zGetf 13 0, zLdI 3, zLdA 0, zLdA 1, zLdI 2, zLdI 3, zCallV cal 13 [] 120 4, zLdA 0, zLdA 1, zLdI 2, zLdI 3, zCallV cal 13 [] 123 4, zCall cal 285 2, zAst zisI 64 0]),
  (40, 46, [zIinc 5 3 4294967295, zGoto 5]),
  (46, 70, [zLdA 0, zLdA 0, zGetf 13 0, zPush 0, zAld zisI 64 0, zPutf zisI 13 5, zPush 0, zStI 5 3, zPush 0, zStI 5 4, zLdI 4, zLdA 1, zCallV cal 9 [] 92 1, zJlt iv false true 102]),
  (70, 71, [zNo]),
  (102, 103, [zRet0])])
noncomputable def tb_X7_widthAlong (scr slen opc : Nat) (iv : Nat → Nat × Nat) (dc db du : List (Nat × Nat)) (cal : zCal) : Nat × zBs := (8, [(0, 16, [zPush 0, zStI 8 5, zPush 0, zStI 8 6, zPush 0, zStI 8 7, zLdI 7, zLdI 4, zJlt iv false true 86]),
  (16, 18, [zNo]),
  (86, 89, [zLdI 6, zRetV zisI])])
noncomputable def tb_X8_init (scr slen opc : Nat) (iv : Nat → Nat × Nat) (dc db du : List (Nat × Nat)) (cal : zCal) : Nat × zBs := (1, [(0, 44, [zLdA 0, zObj, zLdA 0, zPush 80, zNewA 64, zPutf zisA 14 0, zLdA 0, zPush 88, zNewA 64, zPutf zisA 14 1, zLdA 0, zPush 8192, zNewA 64, zPutf zisA 14 2, zLdA 0, zPush 36864, zNewA 64, zPutf zisA 14 3, zLdA 0, zPush 34359738360, zPutf zisI 14 4, zRet0])])
noncomputable def tb_X8_countColourings (scr slen opc : Nat) (iv : Nat → Nat × Nat) (dc db du : List (Nat × Nat)) (cal : zCal) : Nat × zBs := (8, [(0, 13, [zLdA 0, zLdA 1, zCallV cal 14 [] 133 2, zPush 4, zStL 8 3, zPush 12, zStL 8 5, zPush 0, zStI 8 7]),
  (13, 19, [zLdI 7, zLdI 2, zJlt iv true false 49]),
  (19, 49, [zLdL 3, zLdA 0, zGetf 14 1, zLdI 7, zAld zisI 64 0, zI2l, zLdL 5, zLbin Nat.mul, zLbin Nat.add, zStL 8 3, zLdL 5, zLdI 2, zLdI 7, zBin zfSub, zI2l, zLbin Nat.mul, zStL 8 5, zIinc 8 7 1, zGoto 13]),
  (49, 51, [zLdL 3, zRetV (fun v => zt v 4)])])
noncomputable def tb_X8_countRings (scr slen opc : Nat) (iv : Nat → Nat × Nat) (dc db du : List (Nat × Nat)) (cal : zCal) : Nat × zBs := (7, [(0, 8, [zLdA 1, zCallV cal 9 [] 92 1, zPush 24, zJlt iv false true 10]),
  (8, 10, [zPush 4, zRetV (fun v => zt v 4)]),
  (10, 11, [zNo])])
noncomputable def tb_X8_fewestColours (scr slen opc : Nat) (iv : Nat → Nat × Nat) (dc db du : List (Nat × Nat)) (cal : zCal) : Nat × zBs := (3, [(0, 13, [zLdA 0, zLdA 1, zCallV cal 14 [] 133 2, zPush 0, zStI 3 2, zLdI 2, zPush 80, zJlt iv false true 30]),
  (13, 22, [zLdA 0, zGetf 14 1, zLdI 2, zAld zisI 64 0, z0lt iv true true 24]),
  (22, 24, [zLdI 2, zRetV zisI]),
  (24, 27, [zNo]),
  (30, 32, [zNo])])
noncomputable def tb_X8_readyShadings (scr slen opc : Nat) (iv : Nat → Nat × Nat) (dc db du : List (Nat × Nat)) (cal : zCal) : Nat × zBs := (3, [(0, 11, [zLdA 0, zGetf 14 4, zLdA 1, zGetf 9 5, zJeq iv false 47]),
  (11, 21, [zLdA 0, zLdA 1, zGetf 9 5, zPutf zisI 14 4, zPush 0, zStI 3 2]),
  (21, 27, [zLdI 2, zPush 80, zJlt iv true false 40]),
  (27, 40, [zLdA 0, zGetf 14 1, zLdI 2, zPush 0, zAst zisI 64 0, zIinc 3 2 1, zGoto 21]),
  (40, 47, [zLdA 0, zLdA 1, zPush 0, zPush 0, zCall cal 134 4]),
  (47, 48, [zRet0])])
noncomputable def tb_X8_shadeFrom (scr slen opc : Nat) (iv : Nat → Nat × Nat) (dc db du : List (Nat × Nat)) (cal : zCal) : Nat × zBs := (6, [(0, 8, [zLdI 2, zLdA 1, zGetf 9 3, zJlt iv false true 14]),
  (8, 9, [zNo]),
  (14, 27, [zLdA 0, zGetf 14 1, zLdI 3, zDup2, zAld zisI 64 0, zPush 8, zBin Nat.add, zAst zisI 64 0, zGoto 131]),
  (131, 132, [zRet0])])
noncomputable def tb_X9_init (scr slen opc : Nat) (iv : Nat → Nat × Nat) (dc db du : List (Nat × Nat)) (cal : zCal) : Nat × zBs := (1, [(0, 21, [zLdA 0, zObj, zLdA 0, zPush 80, zNewA 64, zPutf zisA 15 0, zLdA 0, zPush 80, zNewA 64, zPutf zisA 15 1, zRet0])])
noncomputable def tb_X9_boundAbove (scr slen opc : Nat) (iv : Nat → Nat × Nat) (dc db du : List (Nat × Nat)) (cal : zCal) : Nat × zBs := (4, [(0, 15, [zLdA 0, zLdA 1, zCallV cal 15 [] 139 2, zPush 0, zStI 4 2, zPush 0, zStI 4 3, zLdI 3, zPush 80, zJlt iv false true 44]),
  (15, 22, [zLdA 0, zGetf 15 2, z0eq iv false 44]),
  (22, 23, [zNo]),
  (44, 46, [zLdI 2, zRetV zisI])])
noncomputable def tb_X9_boundBelow (scr slen opc : Nat) (iv : Nat → Nat × Nat) (dc db du : List (Nat × Nat)) (cal : zCal) : Nat × zBs := (6, [(0, 15, [zLdA 0, zLdA 1, zCallV cal 15 [] 139 2, zPush 0, zStI 6 2, zPush 0, zStI 6 3, zLdI 3, zPush 80, zJlt iv false true 99]),
  (15, 30, [zLdA 0, zLdA 0, zGetf 15 2, zCallV cal 15 [] 138 2, zStI 6 4, zLdI 4, z0lt iv false true 33]),
  (30, 33, [zGoto 99]),
  (33, 34, [zNo]),
  (99, 101, [zLdI 2, zRetV zisI])])
noncomputable def tb_X9_leastOf (scr slen opc : Nat) (iv : Nat → Nat × Nat) (dc db du : List (Nat × Nat)) (cal : zCal) : Nat × zBs := (4, [(0, 4, [zPush 34359738360, zStI 4 2, zPush 0, zStI 4 3]),
  (4, 10, [zLdI 3, zPush 80, zJlt iv false true 52]),
  (10, 18, [zLdI 1, zLdI 3, zShrS, zPush 8, zAndS, z0eq iv false 46]),
  (18, 19, [zNo]),
  (46, 52, [zIinc 4 3 1, zGoto 4]),
  (52, 54, [zLdI 2, zRetV zisI])])
noncomputable def tb_X9_load (scr slen opc : Nat) (iv : Nat → Nat × Nat) (dc db du : List (Nat × Nat)) (cal : zCal) : Nat × zBs := (2, [(0, 15, [zLdA 1, zGetf 9 0, zPush 0, zLdA 0, zGetf 15 0, zPush 0, zPush 80, zNo])])
noncomputable def tb_X9_lowestWith (scr slen opc : Nat) (iv : Nat → Nat × Nat) (dc db du : List (Nat × Nat)) (cal : zCal) : Nat × zBs := (4, [(0, 2, [zPush 0, zStI 4 3]),
  (2, 8, [zLdI 3, zPush 80, zJlt iv false true 42]),
  (8, 16, [zLdA 0, zLdI 3, zCallV cal 15 [] 143 2, z0eq iv false 36]),
  (16, 17, [zNo]),
  (36, 42, [zIinc 4 3 1, zGoto 2]),
  (42, 44, [zPush 34359738360, zRetV zisI])])
noncomputable def tb_X9_reduceOnce (scr slen opc : Nat) (iv : Nat → Nat × Nat) (dc db du : List (Nat × Nat)) (cal : zCal) : Nat × zBs := (4, [(0, 11, [zLdA 0, zPush 0, zPush 0, zCallV cal 15 [] 140 3, zStI 4 1, zLdI 1, z0lt iv false false 18]),
  (11, 12, [zNo]),
  (18, 35, [zLdA 0, zLdA 0, zGetf 15 3, zPush 8, zBin Nat.add, zPush 80, zCallV cal 15 [] 140 3, zStI 4 2, zLdI 2, z0lt iv false true 61]),
  (35, 46, [zLdA 0, zPush 8, zPush 8, zCallV cal 15 [] 140 3, zStI 4 3, zLdI 3, z0lt iv false true 50]),
  (46, 50, [zPush 34359738360, zGoto 60]),
  (50, 51, [zNo]),
  (60, 61, [zStI 4 2]),
  (61, 65, [zLdI 2, z0lt iv false true 67]),
  (65, 67, [zPush 0, zRetV zisZ]),
  (67, 68, [zNo])])
noncomputable def tb_X9_shrink (scr slen opc : Nat) (iv : Nat → Nat × Nat) (dc db du : List (Nat × Nat)) (cal : zCal) : Nat × zBs := (4, [(0, 18, [zLdA 0, zLdA 1, zCallV cal 15 [] 139 2, zLdA 0, zLdI 2, zPutf zisI 15 3, zPush 0, zStI 4 3, zLdI 3, zPush 80, zJlt iv false true 43]),
  (18, 25, [zLdA 0, zCallV cal 15 [] 141 1, z0eq iv true 28]),
  (25, 28, [zGoto 43]),
  (28, 29, [zNo]),
  (43, 68, [zLdA 0, zGetf 15 0, zLdA 0, zGetf 15 2, zCall cal 94 2, zPush 16, zLdA 0, zGetf 15 3, zBin Nat.mul, zLdA 0, zGetf 15 3, zBin Nat.mul, zJlt iv true false 72]),
  (68, 72, [zPush 8, zGoto 73]),
  (72, 73, [zNo]),
  (73, 74, [zRetV zisZ])])
noncomputable def tb_X9_stands (scr slen opc : Nat) (iv : Nat → Nat × Nat) (dc db du : List (Nat × Nat)) (cal : zCal) : Nat × zBs := (2, [(0, 11, [zLdA 0, zGetf 15 2, zLdI 1, zShrS, zPush 8, zAndS, z0eq iv false 15]),
  (11, 12, [zNo]),
  (15, 17, [zPush 0, zRetV zisZ])])
noncomputable def tb_X10_init (scr slen opc : Nat) (iv : Nat → Nat × Nat) (dc db du : List (Nat × Nat)) (cal : zCal) : Nat × zBs := (1, [(0, 38, [zLdA 0, zObj, zLdA 0, zPush 80, zNewA 64, zPutf zisA 16 0, zLdA 0, zPush 56, zNewA 64, zPutf zisA 16 1, zLdA 0, zPush 56, zNewA 64, zPutf zisA 16 2, zLdA 0, zPush 40320, zNewA 64, zPutf zisA 16 3, zRet0])])
noncomputable def tb_X10_countGroups (scr slen opc : Nat) (iv : Nat → Nat × Nat) (dc db du : List (Nat × Nat)) (cal : zCal) : Nat × zBs := (3, [(0, 4, [zPush 0, zStI 3 1, zPush 0, zStI 3 2]),
  (4, 10, [zLdI 2, zPush 80, zJlt iv false true 27]),
  (10, 18, [zLdA 0, zLdI 2, zCallV cal 16 [] 147 2, z0eq iv false 21]),
  (18, 21, [zNo]),
  (21, 27, [zIinc 3 2 1, zGoto 4]),
  (27, 29, [zLdI 1, zRetV zisI])])
noncomputable def tb_X10_gatherPieces (scr slen opc : Nat) (iv : Nat → Nat × Nat) (dc db du : List (Nat × Nat)) (cal : zCal) : Nat × zBs := (4, [(0, 2, [zPush 0, zStI 4 2]),
  (2, 8, [zLdI 2, zPush 56, zJlt iv false true 21]),
  (8, 21, [zLdA 0, zGetf 16 2, zLdI 2, zPush 0, zAst zisI 64 0, zIinc 4 2 1, zGoto 2]),
  (21, 31, [zPush 0, zStI 4 2, zPush 0, zStI 4 3, zLdI 3, zPush 80, zJlt iv false true 73]),
  (31, 39, [zLdI 2, zLdA 0, zGetf 16 4, zJlt iv false true 73]),
  (39, 40, [zNo]),
  (73, 74, [zRet0])])
noncomputable def tb_X10_leads (scr slen opc : Nat) (iv : Nat → Nat × Nat) (dc db du : List (Nat × Nat)) (cal : zCal) : Nat × zBs := (2, [(0, 9, [zLdA 0, zGetf 16 0, zLdI 1, zAld zisI 64 0, z0eq iv false 33]),
  (9, 10, [zNo]),
  (33, 35, [zPush 0, zRetV zisZ])])
noncomputable def tb_X10_leastAfterJoin (scr slen opc : Nat) (iv : Nat → Nat × Nat) (dc db du : List (Nat × Nat)) (cal : zCal) : Nat × zBs := (4, [(0, 8, [zLdA 0, zGetf 16 5, zPush 16, zJlt iv false true 10]),
  (8, 10, [zPush 0, zRetV zisI]),
  (10, 12, [zNo])])
noncomputable def tb_X10_leastRed (scr slen opc : Nat) (iv : Nat → Nat × Nat) (dc db du : List (Nat × Nat)) (cal : zCal) : Nat × zBs := (4, [(0, 25, [zLdA 0, zLdA 1, zCallV cal 9 [] 92 1, zPush 56, zCall cal 286 2, zPutf zisI 16 4, zPush 8, zStI 4 2, zPush 16, zStI 4 3, zLdI 3, zLdA 0, zGetf 16 4, zJlt iv true false 35]),
  (25, 26, [zNo]),
  (35, 37, [zPush 0, zStI 4 3]),
  (37, 42, [zLdI 3, zLdI 2, zJlt iv false true 79]),
  (42, 50, [zLdA 0, zLdI 3, zCallV cal 16 [] 152 2, z0eq iv false 73]),
  (50, 73, [zLdA 0, zLdA 1, zCallV cal 16 [] 146 2, zLdA 0, zGetf 16 3, zLdI 3, zLdA 0, zLdA 1, zCallV cal 16 [] 151 2, zLdA 0, zCallV cal 16 [] 148 1, zCall cal 285 2, zAst zisI 64 0]),
  (73, 79, [zIinc 4 3 1, zGoto 37]),
  (79, 88, [zLdA 0, zGetf 16 3, zLdI 2, zPush 8, zBin zfSub, zAld zisI 64 0, zRetV zisI])])
noncomputable def tb_X10_mostRed (scr slen opc : Nat) (iv : Nat → Nat × Nat) (dc db du : List (Nat × Nat)) (cal : zCal) : Nat × zBs := (4, [(0, 4, [zPush 0, zStI 4 2, zPush 0, zStI 4 3]),
  (4, 10, [zLdI 3, zPush 80, zJlt iv false true 35]),
  (10, 18, [zLdA 0, zLdI 3, zCallV cal 16 [] 147 2, z0eq iv false 29]),
  (18, 19, [zNo]),
  (29, 35, [zIinc 4 3 1, zGoto 4]),
  (35, 37, [zLdI 2, zRetV zisI])])
noncomputable def tb_X10_mostRedPiece (scr slen opc : Nat) (iv : Nat → Nat × Nat) (dc db du : List (Nat × Nat)) (cal : zCal) : Nat × zBs := (6, [(0, 12, [zPush 0, zStI 6 2, zPush 0, zStI 6 3, zLdI 3, zLdA 0, zGetf 16 5, zJlt iv false true 75]),
  (12, 13, [zNo]),
  (75, 77, [zLdI 2, zRetV zisI])])
noncomputable def tb_X10_readLabels (scr slen opc : Nat) (iv : Nat → Nat × Nat) (dc db du : List (Nat × Nat)) (cal : zCal) : Nat × zBs := (4, [(0, 13, [zLdI 1, zStI 4 2, zLdA 0, zGetf 16 4, zPush 8, zBin zfSub, zStI 4 3, zLdI 3, z0lt iv false false 36]),
  (13, 14, [zNo]),
  (36, 51, [zLdA 0, zPush 0, zPutf zisI 16 5, zPush 0, zStI 4 3, zLdI 3, zLdA 0, zGetf 16 4, zJlt iv false true 91]),
  (51, 52, [zNo]),
  (91, 93, [zPush 8, zRetV zisZ])])
noncomputable def tb_X10_scatter (scr slen opc : Nat) (iv : Nat → Nat × Nat) (dc db du : List (Nat × Nat)) (cal : zCal) : Nat × zBs := (3, [(0, 2, [zPush 0, zStI 3 2]),
  (2, 8, [zLdI 2, zPush 80, zJlt iv false true 25]),
  (8, 25, [zLdA 0, zGetf 16 0, zLdI 2, zLdI 1, zPush 8, zLdI 2, zBin zfShl, zAndS, zAst zisI 64 0, zIinc 3 2 1, zGoto 2]),
  (25, 26, [zRet0])])
noncomputable def tb_X10_seat (scr slen opc : Nat) (iv : Nat → Nat × Nat) (dc db du : List (Nat × Nat)) (cal : zCal) : Nat × zBs := (2, [(0, 10, [zLdA 0, zGetf 16 0, zLdI 1, zPush 8, zLdI 1, zBin zfShl, zAst zisI 64 0, zRet0])])
noncomputable def tb_L_above (scr slen opc : Nat) (iv : Nat → Nat × Nat) (dc db du : List (Nat × Nat)) (cal : zCal) : Nat × zBs := (4, [(0, 8, [zLdA 2, zPush 0, zLdA 0, zLdI 1, zCallH cal 17 [] 2 2 [(2, 8)], zNo])])
noncomputable def tb_L_apex (scr slen opc : Nat) (iv : Nat → Nat × Nat) (dc db du : List (Nat × Nat)) (cal : zCal) : Nat × zBs := (4, [(0, 12, [zLdA 2, zPush 0, zLdA 0, zLdI 1, zCallH cal 17 [] 3 2 [(1, 8)], zI2l, zAst (fun v => zt v 4) 66 4, zGoto 15]),
  (15, 17, [zPush 0, zRetV zisI])])
noncomputable def tb_L_bag (scr slen opc : Nat) (iv : Nat → Nat × Nat) (dc db du : List (Nat × Nat)) (cal : zCal) : Nat × zBs := (5, [(0, 13, [zLdA 3, zPush 0, zLdA 0, zLdI 1, zLdI 2, zCallH cal 17 [] 4 3 [(1, 8), (2, 16)], zI2l, zAst (fun v => zt v 4) 66 4, zGoto 25]),
  (25, 27, [zPush 0, zRetV zisI])])
noncomputable def tb_L_bagAt (scr slen opc : Nat) (iv : Nat → Nat × Nat) (dc db du : List (Nat × Nat)) (cal : zCal) : Nat × zBs := (4, [(0, 8, [zLdA 2, zPush 0, zLdA 0, zLdI 1, zCallH cal 17 [] 5 2 [(2, 8)], zNo])])
noncomputable def tb_L_bagWidth (scr slen opc : Nat) (iv : Nat → Nat × Nat) (dc db du : List (Nat × Nat)) (cal : zCal) : Nat × zBs := (3, [(0, 7, [zLdA 1, zPush 0, zLdA 0, zCallH cal 17 [] 6 1 [(3, 8)], zNo])])
noncomputable def tb_L_bestSet (scr slen opc : Nat) (iv : Nat → Nat × Nat) (dc db du : List (Nat × Nat)) (cal : zCal) : Nat × zBs := (3, [(0, 11, [zLdA 1, zPush 0, zLdA 0, zCallH cal 17 [] 7 1 [(3, 8)], zI2l, zAst (fun v => zt v 4) 66 4, zGoto 14]),
  (14, 16, [zPush 0, zRetV zisI])])
noncomputable def tb_L_clause (scr slen opc : Nat) (iv : Nat → Nat × Nat) (dc db du : List (Nat × Nat)) (cal : zCal) : Nat × zBs := (5, [(0, 11, [zLdA 3, zPush 0, zLdA 0, zLdI 1, zLdI 2, zCallH cal 17 [] 9 3 [(1, 8)], z0eq iv false 15]),
  (11, 12, [zNo]),
  (15, 20, [zPush 4, zAst (fun v => zt v 4) 66 4, zGoto 24]),
  (24, 26, [zPush 0, zRetV zisI])])
noncomputable def tb_L_colourings (scr slen opc : Nat) (iv : Nat → Nat × Nat) (dc db du : List (Nat × Nat)) (cal : zCal) : Nat × zBs := (4, [(0, 11, [zLdA 2, zPush 0, zLdA 0, zLdI 1, zCallH cal 17 [] 14 2 [(1, 8)], zAst (fun v => zt v 4) 66 4, zGoto 14]),
  (14, 16, [zPush 0, zRetV zisI])])
noncomputable def tb_L_contract (scr slen opc : Nat) (iv : Nat → Nat × Nat) (dc db du : List (Nat × Nat)) (cal : zCal) : Nat × zBs := (5, [(0, 9, [zLdA 3, zPush 0, zLdA 0, zLdI 1, zLdI 2, zCallH cal 17 [] 16 3 [(1, 16), (2, 8)], zNo])])
noncomputable def tb_L_cover (scr slen opc : Nat) (iv : Nat → Nat × Nat) (dc db du : List (Nat × Nat)) (cal : zCal) : Nat × zBs := (3, [(0, 11, [zLdA 1, zPush 0, zLdA 0, zCallH cal 17 [] 17 1 [(3, 8)], zI2l, zAst (fun v => zt v 4) 66 4, zGoto 14]),
  (14, 16, [zPush 0, zRetV zisI])])
noncomputable def tb_L_density (scr slen opc : Nat) (iv : Nat → Nat × Nat) (dc db du : List (Nat × Nat)) (cal : zCal) : Nat × zBs := (3, [(0, 7, [zLdA 1, zPush 0, zLdA 0, zCallH cal 17 [] 19 1 [(0, 8)], zNo])])
noncomputable def tb_L_edge (scr slen opc : Nat) (iv : Nat → Nat × Nat) (dc db du : List (Nat × Nat)) (cal : zCal) : Nat × zBs := (6, [(0, 13, [zLdA 4, zPush 0, zLdA 0, zLdI 1, zLdI 2, zLdI 3, zCallH cal 17 [] 20 4 [(1, 16), (2, 8)], zNo])])
noncomputable def tb_L_hasCover (scr slen opc : Nat) (iv : Nat → Nat × Nat) (dc db du : List (Nat × Nat)) (cal : zCal) : Nat × zBs := (4, [(0, 10, [zLdA 2, zPush 0, zLdA 0, zLdI 1, zCallH cal 17 [] 24 2 [(1, 8)], z0eq iv false 14]),
  (10, 14, [zPush 12, zGoto 15]),
  (14, 15, [zNo]),
  (15, 19, [zAst (fun v => zt v 4) 66 4, zGoto 22]),
  (22, 24, [zPush 0, zRetV zisI])])
noncomputable def tb_L_hasMinor (scr slen opc : Nat) (iv : Nat → Nat × Nat) (dc db du : List (Nat × Nat)) (cal : zCal) : Nat × zBs := (4, [(0, 10, [zLdA 2, zPush 0, zLdA 0, zLdI 1, zCallH cal 17 [] 25 2 [(1, 8)], z0eq iv false 14]),
  (10, 11, [zNo]),
  (14, 19, [zPush 4, zAst (fun v => zt v 4) 66 4, zGoto 22]),
  (22, 24, [zPush 0, zRetV zisI])])
noncomputable def tb_L_haven (scr slen opc : Nat) (iv : Nat → Nat × Nat) (dc db du : List (Nat × Nat)) (cal : zCal) : Nat × zBs := (5, [(0, 9, [zLdA 3, zPush 0, zLdA 0, zLdI 1, zLdI 2, zCallH cal 17 [] 26 3 [(1, 8), (3, 16)], zNo])])
noncomputable def tb_L_hyperedge (scr slen opc : Nat) (iv : Nat → Nat × Nat) (dc db du : List (Nat × Nat)) (cal : zCal) : Nat × zBs := (4, [(0, 8, [zLdA 2, zPush 0, zLdA 0, zLdI 1, zCallH cal 17 [] 27 2 [(1, 8)], zNo])])
noncomputable def tb_L_isIn (scr slen opc : Nat) (iv : Nat → Nat × Nat) (dc db du : List (Nat × Nat)) (cal : zCal) : Nat × zBs := (4, [(0, 10, [zLdA 2, zPush 0, zLdA 0, zLdI 1, zCallH cal 17 [] 30 2 [(1, 8)], z0eq iv false 14]),
  (10, 14, [zPush 12, zGoto 15]),
  (14, 15, [zNo]),
  (15, 19, [zAst (fun v => zt v 4) 66 4, zGoto 22]),
  (22, 24, [zPush 0, zRetV zisI])])
noncomputable def tb_L_join (scr slen opc : Nat) (iv : Nat → Nat × Nat) (dc db du : List (Nat × Nat)) (cal : zCal) : Nat × zBs := (5, [(0, 9, [zLdA 3, zPush 0, zLdA 0, zLdI 1, zLdI 2, zCallH cal 17 [] 32 3 [(2, 8)], zNo])])
noncomputable def tb_L_kernel (scr slen opc : Nat) (iv : Nat → Nat × Nat) (dc db du : List (Nat × Nat)) (cal : zCal) : Nat × zBs := (4, [(0, 12, [zLdA 2, zPush 0, zLdA 0, zLdI 1, zCallH cal 17 [] 33 2 [(1, 8), (3, 16)], zI2l, zAst (fun v => zt v 4) 66 4, zGoto 18]),
  (18, 20, [zPush 0, zRetV zisI])])
noncomputable def tb_L_kernelLeft (scr slen opc : Nat) (iv : Nat → Nat × Nat) (dc db du : List (Nat × Nat)) (cal : zCal) : Nat × zBs := (4, [(0, 12, [zLdA 2, zPush 0, zLdA 0, zLdI 1, zCallH cal 17 [] 34 2 [(1, 8), (3, 16)], zI2l, zAst (fun v => zt v 4) 66 4, zGoto 18]),
  (18, 20, [zPush 0, zRetV zisI])])
noncomputable def tb_L_link (scr slen opc : Nat) (iv : Nat → Nat × Nat) (dc db du : List (Nat × Nat)) (cal : zCal) : Nat × zBs := (4, [(0, 12, [zLdA 2, zPush 0, zLdA 0, zLdI 1, zCallH cal 17 [] 35 2 [(1, 8), (3, 16)], zI2l, zAst (fun v => zt v 4) 66 4, zGoto 18]),
  (18, 20, [zPush 0, zRetV zisI])])
noncomputable def tb_L_longest (scr slen opc : Nat) (iv : Nat → Nat × Nat) (dc db du : List (Nat × Nat)) (cal : zCal) : Nat × zBs := (3, [(0, 7, [zLdA 1, zPush 0, zLdA 0, zCallH cal 17 [] 36 1 [(3, 8)], zNo])])
noncomputable def tb_L_meanDegree (scr slen opc : Nat) (iv : Nat → Nat × Nat) (dc db du : List (Nat × Nat)) (cal : zCal) : Nat × zBs := (3, [(0, 7, [zLdA 1, zPush 0, zLdA 0, zCallH cal 17 [] 38 1 [(0, 8)], zNo])])
noncomputable def tb_L_model (scr slen opc : Nat) (iv : Nat → Nat × Nat) (dc db du : List (Nat × Nat)) (cal : zCal) : Nat × zBs := (5, [(0, 9, [zLdA 3, zPush 0, zLdA 0, zLdI 1, zLdI 2, zCallH cal 17 [] 39 3 [(1, 8), (2, 24), (3, 16)], zNo])])
noncomputable def tb_L_neighbours (scr slen opc : Nat) (iv : Nat → Nat × Nat) (dc db du : List (Nat × Nat)) (cal : zCal) : Nat × zBs := (4, [(0, 8, [zLdA 2, zPush 0, zLdA 0, zLdI 1, zCallH cal 17 [] 49 2 [(2, 8)], zNo])])
noncomputable def tb_L_nice (scr slen opc : Nat) (iv : Nat → Nat × Nat) (dc db du : List (Nat × Nat)) (cal : zCal) : Nat × zBs := (3, [(0, 7, [zLdA 1, zPush 0, zLdA 0, zCallH cal 17 [] 50 1 [(3, 8)], zNo])])
noncomputable def tb_L_orderAt (scr slen opc : Nat) (iv : Nat → Nat × Nat) (dc db du : List (Nat × Nat)) (cal : zCal) : Nat × zBs := (5, [(0, 9, [zLdA 3, zPush 0, zLdA 0, zLdI 1, zLdI 2, zCallH cal 17 [] 51 3 [(1, 8), (2, 16)], zNo])])
noncomputable def tb_L_place (scr slen opc : Nat) (iv : Nat → Nat × Nat) (dc db du : List (Nat × Nat)) (cal : zCal) : Nat × zBs := (4, [(0, 8, [zLdA 2, zPush 0, zLdA 0, zLdI 1, zCallH cal 17 [] 53 2 [(2, 8)], zNo])])
noncomputable def tb_L_put (scr slen opc : Nat) (iv : Nat → Nat × Nat) (dc db du : List (Nat × Nat)) (cal : zCal) : Nat × zBs := (4, [(0, 8, [zLdA 2, zPush 0, zLdA 0, zLdI 1, zCallH cal 17 [] 54 2 [(1, 8)], zNo])])
noncomputable def tb_L_remove (scr slen opc : Nat) (iv : Nat → Nat × Nat) (dc db du : List (Nat × Nat)) (cal : zCal) : Nat × zBs := (4, [(0, 8, [zLdA 2, zPush 0, zLdA 0, zLdI 1, zCallH cal 17 [] 56 2 [(2, 8)], zNo])])
noncomputable def tb_L_takeHaven (scr slen opc : Nat) (iv : Nat → Nat × Nat) (dc db du : List (Nat × Nat)) (cal : zCal) : Nat × zBs := (3, [(0, 7, [zLdA 1, zPush 0, zLdA 0, zCallH cal 17 [] 62 1 [(3, 8)], zNo])])
noncomputable def tb_L_twinWidth (scr slen opc : Nat) (iv : Nat → Nat × Nat) (dc db du : List (Nat × Nat)) (cal : zCal) : Nat × zBs := (3, [(0, 11, [zLdA 1, zPush 0, zLdA 0, zCallH cal 17 [] 63 1 [], zI2l, zAst (fun v => zt v 4) 66 4, zGoto 14]),
  (14, 16, [zPush 0, zRetV zisI])])
noncomputable def tb_L_vertex (scr slen opc : Nat) (iv : Nat → Nat × Nat) (dc db du : List (Nat × Nat)) (cal : zCal) : Nat × zBs := (4, [(0, 12, [zLdA 2, zPush 0, zLdA 0, zLdI 1, zCallH cal 17 [] 65 2 [(1, 8)], zI2l, zAst (fun v => zt v 4) 66 4, zGoto 18]),
  (18, 20, [zPush 0, zRetV zisI])])
noncomputable def tb_L_weight (scr slen opc : Nat) (iv : Nat → Nat × Nat) (dc db du : List (Nat × Nat)) (cal : zCal) : Nat × zBs := (4, [(0, 8, [zLdA 2, zPush 0, zLdA 0, zLdI 1, zCallH cal 17 [] 66 2 [(2, 8)], zNo])])
noncomputable def tb_L_width (scr slen opc : Nat) (iv : Nat → Nat × Nat) (dc db du : List (Nat × Nat)) (cal : zCal) : Nat × zBs := (4, [(0, 12, [zLdA 2, zPush 0, zLdA 0, zLdI 1, zCallH cal 17 [] 67 2 [(1, 8)], zI2l, zAst (fun v => zt v 4) 66 4, zGoto 15]),
  (15, 17, [zPush 0, zRetV zisI])])
noncomputable def tb_L_widthOf (scr slen opc : Nat) (iv : Nat → Nat × Nat) (dc db du : List (Nat × Nat)) (cal : zCal) : Nat × zBs := (4, [(0, 12, [zLdA 2, zPush 0, zLdA 0, zLdI 1, zCallH cal 17 [] 68 2 [(1, 8)], zI2l, zAst (fun v => zt v 4) 66 4, zGoto 18]),
  (18, 20, [zPush 0, zRetV zisI])])
noncomputable def tb_L_win (scr slen opc : Nat) (iv : Nat → Nat × Nat) (dc db du : List (Nat × Nat)) (cal : zCal) : Nat × zBs := (4, [(0, 10, [zLdA 2, zPush 0, zLdA 0, zLdI 1, zCallH cal 17 [] 69 2 [(1, 8)], z0eq iv false 14]),
  (10, 14, [zPush 12, zGoto 15]),
  (14, 15, [zNo]),
  (15, 19, [zAst (fun v => zt v 4) 66 4, zGoto 22]),
  (22, 24, [zPush 0, zRetV zisI])])
noncomputable def tb_X12_init (scr slen opc : Nat) (iv : Nat → Nat × Nat) (dc db du : List (Nat × Nat)) (cal : zCal) : Nat × zBs := (1, [(0, 84, [zLdA 0, zObj, zLdA 0, zPush 80, zNewA 64, zPutf zisA 18 3, zLdA 0, zPush 80, zNewA 64, zPutf zisA 18 4, zLdA 0, zNew 5 3 14167099448608935641088, zDup, zCallI cal 302 1, zPutf zisA 18 5, zLdA 0, zNew 5 3 14167099448608935641088, zDup, zCallI cal 302 1, zPutf zisA 18 6, zLdA 0, zNew 5 3 14167099448608935641088, zDup, zCallI cal 302 1, zPutf zisA 18 7, zLdA 0, zPush 48, zNewA 65, zPutf zisA 18 8, zLdA 0, zNew 5 3 14167099448608935641088, zDup, zCallI cal 302 1, zPutf zisA 18 9, zLdA 0, zNew 5 3 14167099448608935641088, zDup, zCallI cal 302 1, zPutf zisA 18 10, zRet0])])
noncomputable def tb_X12_above (scr slen opc : Nat) (iv : Nat → Nat × Nat) (dc db du : List (Nat × Nat)) (cal : zCal) : Nat × zBs := (2, [(0, 24, [zLdA 0, zPush 0, zPutf zisI 18 0, zLdI 1, zPush 0, zLdA 0, zGetf 18 6, zCallF cal 5 311 1, zPush 8, zBin zfSub, zCall cal 231 3, z0eq iv false 42]),
  (24, 25, [zNo]),
  (42, 48, [zLdA 0, zPush 8, zCallV cal 18 [] 218 2, zRetV zisI])])
noncomputable def tb_X12_alone (scr slen opc : Nat) (iv : Nat → Nat × Nat) (dc db du : List (Nat × Nat)) (cal : zCal) : Nat × zBs := (2, [(0, 13, [zLdA 0, zNew 5 3 14167099448608935641088, zDup, zCallI cal 302 1, zPutf zisA 18 10, zPush 0, zStI 2 1]),
  (13, 19, [zLdI 1, zPush 80, zJlt iv false true 49]),
  (19, 27, [zLdA 0, zLdI 1, zCallV cal 18 [] 240 2, z0eq iv false 43]),
  (27, 28, [zNo]),
  (43, 49, [zIinc 2 1 1, zGoto 13]),
  (49, 50, [zRet0])])
noncomputable def tb_X12_apex (scr slen opc : Nat) (iv : Nat → Nat × Nat) (dc db du : List (Nat × Nat)) (cal : zCal) : Nat × zBs := (5, [(0, 15, [zLdA 0, zPush 0, zPutf zisI 18 0, zPush 178, zLdI 1, zCallV cal 0 zsobj 290 2, z0lt iv false true 21]),
  (15, 21, [zLdA 0, zPush 8, zCallV cal 18 [] 218 2, zRetV zisI]),
  (21, 34, [zLdA 0, zCallV cal 18 [] 224 1, zStA 5 2, zPush 0, zStI 5 3, zLdI 3, zPush 80, zJlt iv false true 95]),
  (34, 45, [zPush 0, zStI 5 4, zLdI 4, zPush 8192, zJlt iv false true 89]),
  (45, 54, [zLdA 0, zLdI 4, zCallV cal 18 [] 238 2, z0eq iv false 83]),
  (54, 63, [zLdI 4, zCall cal 270 1, zLdI 3, zJeq iv true 83]),
  (63, 81, [zLdA 0, zLdI 1, zLdA 0, zGetf 18 2, zLdI 4, zPush 34359738360, zBin Nat.xor, zAndS, zLdA 2, zCallV cal 18 [] 232 4, z0eq iv false 83]),
  (81, 83, [zLdI 3, zRetV zisI]),
  (83, 86, [zNo]),
  (89, 92, [zNo]),
  (95, 96, [zNo])])
noncomputable def tb_X12_bag (scr slen opc : Nat) (iv : Nat → Nat × Nat) (dc db du : List (Nat × Nat)) (cal : zCal) : Nat × zBs := (3, [(0, 13, [zLdA 0, zPush 0, zPutf zisI 18 0, zLdA 0, zLdI 1, zCallV cal 18 [] 238 2, z0eq iv true 19]),
  (13, 19, [zLdA 0, zPush 8, zCallV cal 18 [] 218 2, zRetV zisI]),
  (19, 31, [zLdA 0, zGetf 18 6, zCallF cal 5 309 1, z0eq iv false 39]),
  (31, 36, [zLdI 2, zPush 34359738360, zJeq iv false 64]),
  (36, 39, [zGoto 58]),
  (39, 40, [zNo]),
  (58, 64, [zLdA 0, zPush 16, zCallV cal 18 [] 218 2, zRetV zisI]),
  (64, 78, [zLdA 0, zGetf 18 6, zCallF cal 5 311 1, zPush 160, zJeq iv true 84]),
  (78, 79, [zNo]),
  (84, 117, [zLdA 0, zGetf 18 6, zPush 16, zNewA 64, zDup, zPush 0, zLdI 1, zAst zisI 64 0, zDup, zPush 8, zLdI 2, zAst zisI 64 0, zCallF cal 5 304 2, zPop, zLdA 0, zGetf 18 6, zCallF cal 5 311 1, zPush 8, zBin zfSub, zRetV zisI])])
noncomputable def tb_X12_bagAt (scr slen opc : Nat) (iv : Nat → Nat × Nat) (dc db du : List (Nat × Nat)) (cal : zCal) : Nat × zBs := (2, [(0, 24, [zLdA 0, zPush 0, zPutf zisI 18 0, zLdI 1, zPush 0, zLdA 0, zGetf 18 6, zCallF cal 5 311 1, zPush 8, zBin zfSub, zCall cal 231 3, z0eq iv false 42]),
  (24, 25, [zNo]),
  (42, 48, [zLdA 0, zPush 8, zCallV cal 18 [] 218 2, zRetV zisI])])
noncomputable def tb_X12_bagWidth (scr slen opc : Nat) (iv : Nat → Nat × Nat) (dc db du : List (Nat × Nat)) (cal : zCal) : Nat × zBs := (4, [(0, 26, [zLdA 0, zPush 0, zPutf zisI 18 0, zPush 34359738360, zStI 4 1, zLdA 0, zGetf 18 6, zCallF cal 5 310 1, zStA 4 2, zLdA 2, zCallF cal 4 314 1, z0eq iv false 52]),
  (26, 27, [zNo]),
  (52, 64, [zLdA 0, zGetf 18 6, zCallF cal 5 309 1, z0eq iv false 72]),
  (64, 72, [zLdA 0, zPush 8, zCallV cal 18 [] 218 2, zGoto 73]),
  (72, 73, [zNo]),
  (73, 74, [zRetV zisI])])
noncomputable def tb_X12_bestSet (scr slen opc : Nat) (iv : Nat → Nat × Nat) (dc db du : List (Nat × Nat)) (cal : zCal) : Nat × zBs := (6, [(0, 11, [zLdA 0, zPush 0, zPutf zisI 18 0, zPush 34359738360, zStI 6 1, zPush 0, zStI 6 2, zPush 0, zStI 6 3]),
  (11, 18, [zLdI 3, zPush 8192, zJlt iv false true 126]),
  (18, 26, [zLdA 0, zLdI 3, zCallV cal 18 [] 238 2, z0eq iv false 120]),
  (26, 34, [zLdA 0, zLdI 3, zCallV cal 18 [] 243 2, z0eq iv false 120]),
  (34, 40, [zPush 0, zStI 6 4, zPush 0, zStI 6 5]),
  (40, 47, [zLdI 5, zPush 80, zJlt iv false true 79]),
  (47, 59, [zLdI 4, zLdI 3, zLdI 5, zShrS, zPush 8, zAndS, zPush 8, zJeq iv true 69]),
  (59, 60, [zNo]),
  (69, 79, [zPush 0, zBin Nat.add, zStI 6 4, zIinc 6 5 1, zGoto 40]),
  (79, 84, [zLdI 1, zPush 34359738360, zJeq iv false 90]),
  (84, 86, [zNo]),
  (90, 94, [zPush 8, zGoto 95]),
  (95, 102, [zStI 6 5, zLdI 5, z0eq iv false 106]),
  (102, 106, [zLdI 3, zGoto 107]),
  (106, 107, [zNo]),
  (107, 113, [zStI 6 1, zLdI 5, z0eq iv false 118]),
  (113, 118, [zLdI 4, zGoto 119]),
  (118, 119, [zNo]),
  (119, 120, [zStI 6 2]),
  (120, 126, [zIinc 6 3 1, zGoto 11]),
  (126, 131, [zLdI 1, zPush 34359738360, zJeq iv true 139]),
  (131, 132, [zNo]),
  (139, 141, [zLdI 1, zRetV zisI])])
noncomputable def tb_X12_check (scr slen opc : Nat) (iv : Nat → Nat × Nat) (dc db du : List (Nat × Nat)) (cal : zCal) : Nat × zBs := (1, [(0, 10, [zLdA 0, zPush 0, zPutf zisI 18 0, zLdA 0, zCallV cal 18 [] 201 1, zRetV zisC])])
noncomputable def tb_X12_checked (scr slen opc : Nat) (iv : Nat → Nat × Nat) (dc db du : List (Nat × Nat)) (cal : zCal) : Nat × zBs := (7, [(0, 21, [zPush 0, zStI 7 1, zLdA 0, zGetf 18 6, zCallF cal 5 310 1, zStA 7 2, zLdA 2, zCallF cal 4 314 1, z0eq iv false 40]),
  (21, 22, [zNo]),
  (40, 48, [zLdI 1, zLdA 0, zGetf 18 2, zJeq iv false 51]),
  (48, 50, [zNo]),
  (51, 53, [zPush 0, zStI 7 2]),
  (53, 59, [zLdI 2, zPush 80, zJlt iv false true 142]),
  (59, 82, [zPush 0, zStI 7 3, zLdA 0, zGetf 18 6, zCallF cal 5 310 1, zStA 7 4, zLdA 4, zCallF cal 4 314 1, z0eq iv false 120]),
  (82, 84, [zNo]),
  (120, 133, [zLdA 0, zGetf 18 4, zLdI 2, zAld zisI 64 0, zLdI 3, zPush 34359738360, zBin Nat.xor, zAndS, z0eq iv false 136]),
  (133, 135, [zNo]),
  (136, 142, [zIinc 7 2 1, zGoto 53]),
  (142, 144, [zPush 0, zStI 7 2]),
  (144, 150, [zLdI 2, zPush 80, zJlt iv false true 268]),
  (150, 173, [zPush 0, zStI 7 3, zLdA 0, zGetf 18 6, zCallF cal 5 310 1, zStA 7 4, zLdA 4, zCallF cal 4 314 1, z0eq iv false 254]),
  (173, 175, [zNo]),
  (254, 259, [zLdI 3, zPush 8, zJlt iv true true 262]),
  (259, 261, [zNo]),
  (262, 268, [zIinc 7 2 1, zGoto 144]),
  (268, 271, [zPush 360, zRetV zisC])])
noncomputable def tb_X12_clause (scr slen opc : Nat) (iv : Nat → Nat × Nat) (dc db du : List (Nat × Nat)) (cal : zCal) : Nat × zBs := (5, [(0, 12, [zPush 194, zLdI 1, zCallV cal 0 zsobj 290 2, zStI 5 3, zLdI 3, z0lt iv false true 18]),
  (12, 18, [zLdA 0, zPush 8, zCallV cal 18 [] 219 2, zRetV zisZ]),
  (18, 41, [zLdA 0, zPush 0, zPutf zisI 18 0, zLdA 0, zGetf 18 8, zLdI 3, zAld zisI 65 0, zStI 5 4, zLdA 0, zGetf 18 8, zLdI 3, zLdI 2, zAst (fun v => cond (Nat.beq v 0) true (Nat.beq v 8)) 65 0, zLdI 4, zRetV zisZ])])
noncomputable def tb_X12_clearBags (scr slen opc : Nat) (iv : Nat → Nat × Nat) (dc db du : List (Nat × Nat)) (cal : zCal) : Nat × zBs := (2, [(0, 26, [zLdA 0, zPush 0, zPutf zisI 18 0, zLdA 0, zGetf 18 6, zCallF cal 5 311 1, zStI 2 1, zLdA 0, zGetf 18 6, zCallF cal 5 306 1, zLdI 1, zRetV zisI])])
noncomputable def tb_X12_clearFamily (scr slen opc : Nat) (iv : Nat → Nat × Nat) (dc db du : List (Nat × Nat)) (cal : zCal) : Nat × zBs := (2, [(0, 26, [zLdA 0, zPush 0, zPutf zisI 18 0, zLdA 0, zGetf 18 7, zCallF cal 5 311 1, zStI 2 1, zLdA 0, zGetf 18 7, zCallF cal 5 306 1, zLdI 1, zRetV zisI])])
noncomputable def tb_X12_clearHyperedges (scr slen opc : Nat) (iv : Nat → Nat × Nat) (dc db du : List (Nat × Nat)) (cal : zCal) : Nat × zBs := (2, [(0, 26, [zLdA 0, zPush 0, zPutf zisI 18 0, zLdA 0, zGetf 18 9, zCallF cal 5 311 1, zStI 2 1, zLdA 0, zGetf 18 9, zCallF cal 5 306 1, zLdI 1, zRetV zisI])])
noncomputable def tb_X12_clearOrder (scr slen opc : Nat) (iv : Nat → Nat × Nat) (dc db du : List (Nat × Nat)) (cal : zCal) : Nat × zBs := (2, [(0, 26, [zLdA 0, zPush 0, zPutf zisI 18 0, zLdA 0, zGetf 18 5, zCallF cal 5 311 1, zStI 2 1, zLdA 0, zGetf 18 5, zCallF cal 5 306 1, zLdI 1, zRetV zisI])])
noncomputable def tb_X12_coloured (scr slen opc : Nat) (iv : Nat → Nat × Nat) (dc db du : List (Nat × Nat)) (cal : zCal) : Nat × zBs := (10, [(0, 6, [zLdI 2, zPush 80, zJeq iv true 8]),
  (6, 8, [zPush 12, zRetV (fun v => zt v 4)]),
  (8, 16, [zLdA 0, zLdI 2, zCallV cal 18 [] 240 2, z0eq iv true 26]),
  (16, 26, [zLdA 0, zLdA 1, zLdI 2, zPush 8, zBin Nat.add, zLdI 3, zCallV cal 18 [] 207 4, zRetV (fun v => zt v 4)]),
  (26, 27, [zNo])])
noncomputable def tb_X12_colourings (scr slen opc : Nat) (iv : Nat → Nat × Nat) (dc db du : List (Nat × Nat)) (cal : zCal) : Nat × zBs := (2, [(0, 11, [zLdA 0, zLdI 1, zPush 0, zPush 72, zCall cal 231 3, z0eq iv false 15]),
  (11, 15, [zPush 0, zGoto 16]),
  (15, 16, [zPush 8]),
  (16, 26, [zPutf zisI 18 0, zLdA 0, zGetf 18 0, z0lt iv true true 30]),
  (26, 30, [zPush 4, zGoto 40]),
  (30, 40, [zLdA 0, zPush 80, zNewA 64, zPush 0, zLdI 1, zCallV cal 18 [] 207 4]),
  (40, 41, [zRetV (fun v => zt v 4)])])
noncomputable def tb_X12_colours (scr slen opc : Nat) (iv : Nat → Nat × Nat) (dc db du : List (Nat × Nat)) (cal : zCal) : Nat × zBs := (2, [(0, 22, [zLdA 0, zPush 0, zPutf zisI 18 0, zPush 0, zStI 2 1, zLdA 0, zPush 80, zNewA 64, zPush 0, zLdI 1, zCallV cal 18 [] 207 4, zPush 4, zLcmp, z0eq iv true 28]),
  (22, 25, [zNo]),
  (28, 30, [zLdI 1, zRetV zisI])])
noncomputable def tb_X12_contract (scr slen opc : Nat) (iv : Nat → Nat × Nat) (dc db du : List (Nat × Nat)) (cal : zCal) : Nat × zBs := (4, [(0, 13, [zLdA 0, zPush 0, zPutf zisI 18 0, zLdA 0, zLdI 1, zCallV cal 18 [] 240 2, z0eq iv false 21]),
  (13, 14, [zNo]),
  (21, 27, [zLdA 0, zPush 8, zCallV cal 18 [] 218 2, zRetV zisI])])
noncomputable def tb_X12_countEdges (scr slen opc : Nat) (iv : Nat → Nat × Nat) (dc db du : List (Nat × Nat)) (cal : zCal) : Nat × zBs := (3, [(0, 4, [zPush 0, zStI 3 1, zPush 0, zStI 3 2]),
  (4, 10, [zLdI 2, zPush 80, zJlt iv false true 28]),
  (10, 28, [zLdI 1, zLdA 0, zGetf 18 4, zLdI 2, zAld zisI 64 0, zCall cal 270 1, zBin Nat.add, zStI 3 1, zIinc 3 2 1, zGoto 4]),
  (28, 32, [zLdI 1, zPush 16, zDiv Nat.div, zRetV zisI])])
noncomputable def tb_X12_cover (scr slen opc : Nat) (iv : Nat → Nat × Nat) (dc db du : List (Nat × Nat)) (cal : zCal) : Nat × zBs := (8, [(0, 26, [zLdA 0, zPush 0, zPutf zisI 18 0, zPush 0, zStI 8 1, zLdA 0, zGetf 18 6, zCallF cal 5 310 1, zStA 8 2, zLdA 2, zCallF cal 4 314 1, z0eq iv false 167]),
  (26, 27, [zNo]),
  (167, 174, [zLdI 1, zPush 8000, zJeq iv true 182]),
  (174, 175, [zNo]),
  (182, 184, [zLdI 1, zRetV zisI])])
noncomputable def tb_X12_decompose (scr slen opc : Nat) (iv : Nat → Nat × Nat) (dc db du : List (Nat × Nat)) (cal : zCal) : Nat × zBs := (7, [(0, 30, [zLdA 0, zPush 0, zPutf zisI 18 0, zLdA 0, zPush 928, zCallV cal 18 [] 255 2, zStA 7 1, zLdA 0, zGetf 18 6, zCallF cal 5 306 1, zLdA 1, zAlenS (zalen slen), zPush 8, zBin zfSub, zStI 7 2, zLdI 2, z0lt iv false false 193]),
  (30, 31, [zNo]),
  (193, 203, [zLdA 0, zGetf 18 6, zCallF cal 5 311 1, zRetV zisI])])
noncomputable def tb_X12_density (scr slen opc : Nat) (iv : Nat → Nat × Nat) (dc db du : List (Nat × Nat)) (cal : zCal) : Nat × zBs := (2, [(0, 14, [zLdA 0, zGetf 18 2, zCall cal 270 1, zStI 2 1, zLdA 0, zLdI 1, zPush 16, zJlt iv false true 18]),
  (14, 18, [zPush 8, zGoto 19]),
  (18, 19, [zNo]),
  (19, 29, [zPutf zisI 18 0, zLdA 0, zGetf 18 0, z0lt iv true true 33]),
  (29, 33, [zPush 5, zGoto 47]),
  (33, 34, [zNo]),
  (47, 48, [zRetV (fun v => zt v 5)])])
noncomputable def tb_X12_depth (scr slen opc : Nat) (iv : Nat → Nat × Nat) (dc db du : List (Nat × Nat)) (cal : zCal) : Nat × zBs := (7, [(0, 4, [zLdI 1, z0eq iv true 6]),
  (4, 6, [zPush 0, zRetV zisI]),
  (6, 7, [zNo])])
noncomputable def tb_X12_edge (scr slen opc : Nat) (iv : Nat → Nat × Nat) (dc db du : List (Nat × Nat)) (cal : zCal) : Nat × zBs := (5, [(0, 8, [zLdA 0, zLdI 1, zCallV cal 18 [] 240 2, z0eq iv false 16]),
  (8, 9, [zNo]),
  (16, 22, [zLdA 0, zPush 8, zCallV cal 18 [] 219 2, zRetV zisZ])])
noncomputable def tb_X12_edges (scr slen opc : Nat) (iv : Nat → Nat × Nat) (dc db du : List (Nat × Nat)) (cal : zCal) : Nat × zBs := (1, [(0, 10, [zLdA 0, zPush 0, zPutf zisI 18 0, zLdA 0, zCallV cal 18 [] 211 1, zRetV zisI])])
noncomputable def tb_X12_fails (scr slen opc : Nat) (iv : Nat → Nat × Nat) (dc db du : List (Nat × Nat)) (cal : zCal) : Nat × zBs := (2, [(0, 7, [zLdA 0, zLdI 1, zPutf zisI 18 0, zPush 0, zRetV zisI])])
noncomputable def tb_X12_failsBoolean (scr slen opc : Nat) (iv : Nat → Nat × Nat) (dc db du : List (Nat × Nat)) (cal : zCal) : Nat × zBs := (2, [(0, 7, [zLdA 0, zLdI 1, zPutf zisI 18 0, zPush 0, zRetV zisZ])])
noncomputable def tb_X12_familyOrder (scr slen opc : Nat) (iv : Nat → Nat × Nat) (dc db du : List (Nat × Nat)) (cal : zCal) : Nat × zBs := (1, [(0, 10, [zLdA 0, zPush 0, zPutf zisI 18 0, zLdA 0, zCallV cal 18 [] 229 1, zRetV zisI])])
noncomputable def tb_X12_fewest (scr slen opc : Nat) (iv : Nat → Nat × Nat) (dc db du : List (Nat × Nat)) (cal : zCal) : Nat × zBs := (2, [(0, 10, [zPush 0, zStI 2 1, zLdA 0, zLdI 1, zCallV cal 18 [] 282 2, z0eq iv true 16]),
  (10, 13, [zNo]),
  (16, 18, [zLdI 1, zRetV zisI])])
noncomputable def tb_X12_fills (scr slen opc : Nat) (iv : Nat → Nat × Nat) (dc db du : List (Nat × Nat)) (cal : zCal) : Nat × zBs := (13, [(0, 6, [zLdI 3, zLdA 2, zAlenS (zalen slen), zJeq iv true 8]),
  (6, 7, [zNo]),
  (8, 14, [zLdI 1, zPush 784, zJeq iv true 18]),
  (14, 18, [zPush 24, zGoto 29]),
  (18, 24, [zLdI 1, zPush 888, zJeq iv true 28]),
  (24, 28, [zPush 16, zGoto 29]),
  (28, 29, [zPush 0]),
  (29, 35, [zStI 13 6, zLdI 3, z0lt iv true true 45]),
  (35, 36, [zNo]),
  (45, 61, [zPush 0, zStI 13 7, zLdI 4, zNeg, zLdI 4, zAndS, zStI 13 8, zLdI 8, z0eq iv false 219]),
  (61, 63, [zNo]),
  (219, 221, [zPush 0, zRetV zisZ])])
noncomputable def tb_X12_found (scr slen opc : Nat) (iv : Nat → Nat × Nat) (dc db du : List (Nat × Nat)) (cal : zCal) : Nat × zBs := (5, [(0, 21, [zLdI 1, zCall cal 268 1, zNewA 64, zStA 5 4, zLdA 0, zLdI 1, zLdA 4, zPush 0, zLdI 2, zLdA 3, zCallV cal 18 [] 222 6, z0eq iv false 26]),
  (21, 23, [zNo]),
  (26, 28, [zPush 3, zRetV zisA])])
noncomputable def tb_X12_hanging (scr slen opc : Nat) (iv : Nat → Nat × Nat) (dc db du : List (Nat × Nat)) (cal : zCal) : Nat × zBs := (3, [(0, 8, [zPush 8192, zNewA 65, zStA 3 1, zPush 8, zStI 3 2]),
  (8, 15, [zLdI 2, zPush 8192, zJlt iv false true 45]),
  (15, 25, [zLdA 1, zLdI 2, zLdA 0, zLdI 2, zCallV cal 18 [] 238 2, z0eq iv false 37]),
  (25, 26, [zNo]),
  (37, 45, [zPush 0, zAst (fun v => cond (Nat.beq v 0) true (Nat.beq v 8)) 65 0, zIinc 3 2 1, zGoto 8]),
  (45, 47, [zLdA 1, zRetV zisA])])
noncomputable def tb_X12_hangs (scr slen opc : Nat) (iv : Nat → Nat × Nat) (dc db du : List (Nat × Nat)) (cal : zCal) : Nat × zBs := (2, [(0, 4, [zLdI 1, z0eq iv false 19]),
  (4, 5, [zNo]),
  (19, 23, [zPush 8, zGoto 24]),
  (24, 25, [zRetV zisZ])])
noncomputable def tb_X12_hasCover (scr slen opc : Nat) (iv : Nat → Nat × Nat) (dc db du : List (Nat × Nat)) (cal : zCal) : Nat × zBs := (5, [(0, 11, [zLdA 0, zLdI 1, zPush 0, zPush 80, zCall cal 231 3, z0eq iv false 15]),
  (11, 15, [zPush 0, zGoto 16]),
  (15, 16, [zPush 8]),
  (16, 28, [zPutf zisI 18 0, zPush 0, zStI 5 2, zLdI 2, zPush 8192, zJlt iv false true 119]),
  (28, 35, [zLdA 0, zGetf 18 0, z0eq iv true 119]),
  (35, 43, [zLdA 0, zLdI 2, zCallV cal 18 [] 238 2, z0eq iv false 55]),
  (43, 51, [zLdI 2, zCall cal 270 1, zLdI 1, zJlt iv true false 55]),
  (51, 55, [zPush 8, zGoto 56]),
  (55, 56, [zNo]),
  (56, 60, [zStI 5 3, zPush 0, zStI 5 4]),
  (60, 67, [zLdI 4, zPush 80, zJlt iv false true 107]),
  (67, 71, [zLdI 3, z0eq iv false 99]),
  (71, 81, [zLdI 2, zLdI 4, zShrS, zPush 8, zAndS, zPush 8, zJeq iv false 95]),
  (81, 95, [zLdA 0, zGetf 18 4, zLdI 4, zAld zisI 64 0, zLdI 2, zPush 34359738360, zBin Nat.xor, zAndS, z0eq iv true 99]),
  (95, 99, [zPush 8, zGoto 100]),
  (99, 100, [zNo]),
  (100, 107, [zStI 5 3, zIinc 5 4 1, zGoto 60]),
  (107, 111, [zLdI 3, z0eq iv false 113]),
  (111, 113, [zPush 8, zRetV zisZ]),
  (113, 116, [zNo]),
  (119, 121, [zPush 0, zRetV zisZ])])
noncomputable def tb_X12_hasMinor (scr slen opc : Nat) (iv : Nat → Nat × Nat) (dc db du : List (Nat × Nat)) (cal : zCal) : Nat × zBs := (2, [(0, 8, [zLdA 0, zLdI 1, zCall cal 236 1, z0eq iv false 12]),
  (8, 12, [zPush 0, zGoto 13]),
  (12, 13, [zPush 8]),
  (13, 23, [zPutf zisI 18 0, zLdA 0, zGetf 18 0, z0eq iv true 43]),
  (23, 39, [zLdA 0, zLdI 1, zLdA 0, zGetf 18 2, zLdA 0, zCallV cal 18 [] 224 1, zCallV cal 18 [] 223 4, zJnul false 43]),
  (39, 40, [zNo]),
  (43, 45, [zPush 0, zRetV zisZ])])
noncomputable def tb_X12_haven (scr slen opc : Nat) (iv : Nat → Nat × Nat) (dc db du : List (Nat × Nat)) (cal : zCal) : Nat × zBs := (4, [(0, 15, [zLdA 0, zPush 0, zPutf zisI 18 0, zLdI 1, zPush 0, zPush 80, zCall cal 231 3, z0eq iv false 31]),
  (15, 23, [zLdA 0, zLdI 2, zCallV cal 18 [] 238 2, z0eq iv false 31]),
  (23, 31, [zLdI 2, zCall cal 270 1, zLdI 1, zJlt iv true true 37]),
  (31, 37, [zLdA 0, zPush 8, zCallV cal 18 [] 218 2, zRetV zisI]),
  (37, 45, [zLdA 0, zLdI 1, zCallV cal 18 [] 282 2, z0eq iv false 49]),
  (45, 49, [zPush 0, zGoto 60]),
  (49, 50, [zNo]),
  (60, 65, [zStI 4 3, zLdI 3, z0eq iv true 73]),
  (65, 73, [zLdA 0, zPush 16, zCallV cal 18 [] 218 2, zGoto 74]),
  (73, 74, [zNo]),
  (74, 75, [zRetV zisI])])
noncomputable def tb_X12_hitting (scr slen opc : Nat) (iv : Nat → Nat × Nat) (dc db du : List (Nat × Nat)) (cal : zCal) : Nat × zBs := (6, [(0, 6, [zPush 8000, zStI 6 1, zPush 0, zStI 6 2]),
  (6, 13, [zLdI 2, zPush 8192, zJlt iv false true 94]),
  (13, 36, [zPush 8, zStI 6 3, zLdA 0, zGetf 18 7, zCallF cal 5 310 1, zStA 6 4, zLdA 4, zCallF cal 4 314 1, z0eq iv false 71]),
  (36, 38, [zNo]),
  (71, 75, [zLdI 3, z0eq iv false 86]),
  (75, 86, [zLdI 1, zLdI 2, zCall cal 270 1, zCall cal 286 2, zGoto 87]),
  (86, 87, [zNo]),
  (87, 94, [zStI 6 1, zIinc 6 2 1, zGoto 6]),
  (94, 96, [zLdI 1, zRetV zisI])])
noncomputable def tb_X12_hyperedge (scr slen opc : Nat) (iv : Nat → Nat × Nat) (dc db du : List (Nat × Nat)) (cal : zCal) : Nat × zBs := (2, [(0, 9, [zLdA 0, zPush 0, zPutf zisI 18 0, zLdI 1, z0eq iv false 17]),
  (9, 17, [zLdA 0, zLdI 1, zCallV cal 18 [] 238 2, z0eq iv true 23]),
  (17, 23, [zLdA 0, zPush 8, zCallV cal 18 [] 218 2, zRetV zisI]),
  (23, 24, [zNo])])
noncomputable def tb_X12_in (scr slen opc : Nat) (iv : Nat → Nat × Nat) (dc db du : List (Nat × Nat)) (cal : zCal) : Nat × zBs := (3, [(0, 5, [zLdI 0, zLdI 1, zJlt iv false false 14]),
  (5, 10, [zLdI 0, zLdI 2, zJlt iv true false 14]),
  (10, 14, [zPush 8, zGoto 15]),
  (14, 15, [zPush 0]),
  (15, 16, [zRetV zisZ])])
noncomputable def tb_X12_inClass (scr slen opc : Nat) (iv : Nat → Nat × Nat) (dc db du : List (Nat × Nat)) (cal : zCal) : Nat × zBs := (6, [(0, 6, [zLdI 1, zPush 816, zJeq iv true 12]),
  (6, 12, [zPush 98, zGoto 39]),
  (12, 18, [zLdI 1, zPush 920, zJeq iv true 24]),
  (18, 24, [zPush 130, zGoto 39]),
  (24, 30, [zLdI 1, zPush 888, zJeq iv true 36]),
  (30, 36, [zPush 146, zGoto 39]),
  (36, 39, [zPush 162]),
  (39, 44, [zStA 6 4, zPush 0, zStI 6 5]),
  (44, 54, [zLdI 5, zLdA 4, zCallV cal 0 zsobj 293 1, zJlt iv false true 78]),
  (54, 70, [zLdA 0, zLdA 4, zLdI 5, zCallV cal 0 zsobj 287 2, zLdI 2, zLdA 3, zCallV cal 18 [] 223 4, zJnul false 72]),
  (70, 71, [zNo]),
  (72, 78, [zIinc 6 5 1, zGoto 44]),
  (78, 80, [zPush 8, zRetV zisZ])])
noncomputable def tb_X12_isAcyclic (scr slen opc : Nat) (iv : Nat → Nat × Nat) (dc db du : List (Nat × Nat)) (cal : zCal) : Nat × zBs := (7, [(0, 19, [zLdA 0, zPush 0, zPutf zisI 18 0, zNew 5 3 14167099448608935641088, zDup, zLdA 0, zGetf 18 9, zCallI cal 303 2, zStA 7 1, zPush 8, zStI 7 2]),
  (19, 23, [zLdI 2, z0eq iv false 257]),
  (23, 37, [zPush 0, zStI 7 2, zPush 0, zStI 7 3, zLdI 3, zLdA 1, zCallF cal 5 311 1, zJlt iv false true 254]),
  (37, 38, [zNo]),
  (254, 257, [zGoto 19]),
  (257, 264, [zLdA 1, zCallF cal 5 309 1, zRetV zisZ])])
noncomputable def tb_X12_isBramble (scr slen opc : Nat) (iv : Nat → Nat × Nat) (dc db du : List (Nat × Nat)) (cal : zCal) : Nat × zBs := (5, [(0, 24, [zLdA 0, zPush 0, zPutf zisI 18 0, zLdA 0, zGetf 18 7, zCallF cal 5 310 1, zStA 5 1, zLdA 1, zCallF cal 4 314 1, z0eq iv false 104]),
  (24, 25, [zNo]),
  (104, 106, [zPush 8, zRetV zisZ])])
noncomputable def tb_X12_isIn (scr slen opc : Nat) (iv : Nat → Nat × Nat) (dc db du : List (Nat × Nat)) (cal : zCal) : Nat × zBs := (2, [(0, 11, [zLdA 0, zPush 178, zLdI 1, zCallV cal 0 zsobj 290 2, z0lt iv false false 15]),
  (11, 15, [zPush 0, zGoto 16]),
  (15, 16, [zPush 8]),
  (16, 26, [zPutf zisI 18 0, zLdA 0, zGetf 18 0, z0eq iv true 46]),
  (26, 42, [zLdA 0, zLdI 1, zLdA 0, zGetf 18 2, zLdA 0, zCallV cal 18 [] 224 1, zCallV cal 18 [] 232 4, z0eq iv false 46]),
  (42, 46, [zPush 8, zGoto 47]),
  (46, 47, [zPush 0]),
  (47, 48, [zRetV zisZ])])
noncomputable def tb_X12_isMinor (scr slen opc : Nat) (iv : Nat → Nat × Nat) (dc db du : List (Nat × Nat)) (cal : zCal) : Nat × zBs := (1, [(0, 9, [zPush 114, zLdI 0, zCallV cal 0 zsobj 290 2, z0lt iv false false 13]),
  (9, 13, [zPush 8, zGoto 14]),
  (13, 14, [zPush 0]),
  (14, 15, [zRetV zisZ])])
noncomputable def tb_X12_isOrdered (scr slen opc : Nat) (iv : Nat → Nat × Nat) (dc db du : List (Nat × Nat)) (cal : zCal) : Nat × zBs := (1, [(0, 9, [zPush 210, zLdI 0, zCallV cal 0 zsobj 290 2, z0lt iv false false 13]),
  (9, 13, [zPush 8, zGoto 14]),
  (13, 14, [zPush 0]),
  (14, 15, [zRetV zisZ])])
noncomputable def tb_X12_isSet (scr slen opc : Nat) (iv : Nat → Nat × Nat) (dc db du : List (Nat × Nat)) (cal : zCal) : Nat × zBs := (2, [(0, 11, [zLdI 1, zLdA 0, zGetf 18 2, zPush 34359738360, zBin Nat.xor, zAndS, z0eq iv true 15]),
  (11, 15, [zPush 8, zGoto 16]),
  (15, 16, [zPush 0]),
  (16, 17, [zRetV zisZ])])
noncomputable def tb_X12_isTrue (scr slen opc : Nat) (iv : Nat → Nat × Nat) (dc db du : List (Nat × Nat)) (cal : zCal) : Nat × zBs := (1, [(0, 7, [zLdA 0, zPush 0, zPutf zisI 18 0, zPush 8, zRetV zisZ])])
noncomputable def tb_X12_isVertex (scr slen opc : Nat) (iv : Nat → Nat × Nat) (dc db du : List (Nat × Nat)) (cal : zCal) : Nat × zBs := (2, [(0, 10, [zLdI 1, zPush 0, zPush 72, zCall cal 231 3, z0eq iv false 26]),
  (10, 22, [zLdA 0, zGetf 18 2, zLdI 1, zShrS, zPush 8, zAndS, zPush 8, zJeq iv true 26]),
  (22, 23, [zNo]),
  (26, 28, [zPush 0, zRetV zisZ])])
noncomputable def tb_X12_join (scr slen opc : Nat) (iv : Nat → Nat × Nat) (dc db du : List (Nat × Nat)) (cal : zCal) : Nat × zBs := (5, [(0, 13, [zLdA 0, zPush 0, zPutf zisI 18 0, zLdA 0, zLdI 1, zCallV cal 18 [] 240 2, z0eq iv false 21]),
  (13, 14, [zNo]),
  (21, 27, [zLdA 0, zPush 8, zCallV cal 18 [] 218 2, zRetV zisI])])
noncomputable def tb_X12_joins (scr slen opc : Nat) (iv : Nat → Nat × Nat) (dc db du : List (Nat × Nat)) (cal : zCal) : Nat × zBs := (7, [(0, 10, [zLdA 1, zCallF cal 5 311 1, zPush 16, zJlt iv false true 12]),
  (10, 12, [zPush 8, zRetV zisZ]),
  (12, 13, [zNo])])
noncomputable def tb_X12_keeps (scr slen opc : Nat) (iv : Nat → Nat × Nat) (dc db du : List (Nat × Nat)) (cal : zCal) : Nat × zBs := (6, [(0, 9, [zLdA 0, zGetf 18 8, zPush 32, zAld zisI 65 0, z0eq iv false 17]),
  (9, 10, [zNo]),
  (17, 21, [zPush 8, zGoto 22]),
  (22, 25, [zStI 6 2, zPush 0, zStI 6 3]),
  (25, 31, [zLdI 3, zPush 80, zJlt iv false true 237]),
  (31, 39, [zLdA 0, zLdI 3, zCallV cal 18 [] 240 2, z0eq iv false 231]),
  (39, 40, [zNo]),
  (231, 237, [zIinc 6 3 1, zGoto 25]),
  (237, 239, [zLdI 2, zRetV zisZ])])
noncomputable def tb_X12_kernel (scr slen opc : Nat) (iv : Nat → Nat × Nat) (dc db du : List (Nat × Nat)) (cal : zCal) : Nat × zBs := (3, [(0, 15, [zLdA 0, zPush 0, zPutf zisI 18 0, zLdI 1, zPush 0, zPush 80, zCall cal 231 3, z0eq iv true 21]),
  (15, 21, [zLdA 0, zPush 8, zCallV cal 18 [] 218 2, zRetV zisI]),
  (21, 32, [zLdA 0, zLdI 1, zCallV cal 18 [] 246 2, zStI 3 2, zLdI 2, zPush 34359738360, zJeq iv true 40]),
  (32, 33, [zNo]),
  (40, 45, [zLdI 2, zPush 800, zDiv Nat.div, zRetV zisI])])
noncomputable def tb_X12_kernelLeft (scr slen opc : Nat) (iv : Nat → Nat × Nat) (dc db du : List (Nat × Nat)) (cal : zCal) : Nat × zBs := (3, [(0, 15, [zLdA 0, zPush 0, zPutf zisI 18 0, zLdI 1, zPush 0, zPush 80, zCall cal 231 3, z0eq iv true 21]),
  (15, 21, [zLdA 0, zPush 8, zCallV cal 18 [] 218 2, zRetV zisI]),
  (21, 32, [zLdA 0, zLdI 1, zCallV cal 18 [] 246 2, zStI 3 2, zLdI 2, zPush 34359738360, zJeq iv true 40]),
  (32, 33, [zNo]),
  (40, 45, [zLdI 2, zPush 800, zDiv Nat.mod, zRetV zisI])])
noncomputable def tb_X12_kernelOf (scr slen opc : Nat) (iv : Nat → Nat × Nat) (dc db du : List (Nat × Nat)) (cal : zCal) : Nat × zBs := (10, [(0, 11, [zLdA 0, zGetf 18 2, zStI 10 2, zLdI 1, zStI 10 3, zLdI 3, z0lt iv false false 199]),
  (11, 27, [zPush 34359738360, zStI 10 4, zPush 34359738360, zStI 10 5, zPush 34359738360, zStI 10 6, zPush 0, zStI 10 7, zPush 72, zStI 10 8]),
  (27, 32, [zLdI 8, z0lt iv false false 113]),
  (32, 42, [zLdI 2, zLdI 8, zShrS, zPush 8, zAndS, zPush 8, zJeq iv true 107]),
  (42, 43, [zNo]),
  (107, 113, [zIinc 10 8 4294967295, zGoto 27]),
  (113, 119, [zLdI 4, zPush 34359738360, zJeq iv false 129]),
  (119, 120, [zNo]),
  (129, 135, [zLdI 5, zPush 34359738360, zJeq iv true 141]),
  (135, 141, [zLdI 6, zPush 34359738360, zJeq iv false 175]),
  (141, 142, [zNo]),
  (175, 185, [zLdI 7, zPush 16, zDiv Nat.div, zLdI 3, zLdI 3, zBin Nat.mul, zJlt iv true true 189]),
  (185, 186, [zNo]),
  (189, 196, [zPush 800, zLdI 2, zBin Nat.mul, zLdI 3, zBin Nat.add, zRetV zisI]),
  (199, 200, [zNo])])
noncomputable def tb_X12_leasts (scr slen opc : Nat) (iv : Nat → Nat × Nat) (dc db du : List (Nat × Nat)) (cal : zCal) : Nat × zBs := (5, [(0, 10, [zPush 8192, zNewA 64, zStA 5 2, zPush 8184, zStI 5 3]),
  (10, 14, [zLdI 3, z0lt iv false false 104]),
  (14, 22, [zLdA 0, zLdI 3, zCallV cal 18 [] 238 2, z0eq iv false 98]),
  (22, 30, [zLdI 3, zLdA 0, zGetf 18 2, zJeq iv false 98]),
  (30, 31, [zNo]),
  (98, 104, [zIinc 5 3 4294967295, zGoto 10]),
  (104, 106, [zLdA 2, zRetV zisA])])
noncomputable def tb_X12_link (scr slen opc : Nat) (iv : Nat → Nat × Nat) (dc db du : List (Nat × Nat)) (cal : zCal) : Nat × zBs := (4, [(0, 13, [zLdA 0, zPush 0, zPutf zisI 18 0, zLdA 0, zLdI 1, zCallV cal 18 [] 238 2, z0eq iv true 19]),
  (13, 19, [zLdA 0, zPush 8, zCallV cal 18 [] 218 2, zRetV zisI]),
  (19, 25, [zPush 8000, zStI 4 2, zPush 0, zStI 4 3]),
  (25, 32, [zLdI 3, zPush 8192, zJlt iv false true 74]),
  (32, 40, [zLdA 0, zLdI 3, zCallV cal 18 [] 238 2, z0eq iv false 66]),
  (40, 47, [zLdI 3, zLdI 1, zAndS, zLdI 1, zJeq iv true 66]),
  (47, 55, [zLdA 0, zLdI 3, zCallV cal 18 [] 225 2, z0eq iv false 66]),
  (55, 66, [zLdI 2, zLdI 3, zCall cal 270 1, zCall cal 286 2, zGoto 67]),
  (66, 67, [zLdI 2]),
  (67, 74, [zStI 4 2, zIinc 4 3 1, zGoto 25]),
  (74, 81, [zLdI 2, zPush 8000, zJeq iv true 89]),
  (81, 82, [zNo]),
  (89, 91, [zLdI 2, zRetV zisI])])
noncomputable def tb_X12_longest (scr slen opc : Nat) (iv : Nat → Nat × Nat) (dc db du : List (Nat × Nat)) (cal : zCal) : Nat × zBs := (3, [(0, 9, [zLdA 0, zPush 0, zPutf zisI 18 0, zPush 0, zStI 3 1, zPush 0, zStI 3 2]),
  (9, 15, [zLdI 2, zPush 80, zJlt iv false true 51]),
  (15, 23, [zLdA 0, zLdI 2, zCallV cal 18 [] 240 2, z0eq iv false 43]),
  (23, 24, [zNo]),
  (43, 51, [zLdI 1, zStI 3 1, zIinc 3 2 1, zGoto 9]),
  (51, 58, [zLdA 0, zGetf 18 2, z0eq iv true 66]),
  (58, 66, [zLdA 0, zPush 8, zCallV cal 18 [] 218 2, zGoto 67]),
  (66, 67, [zNo]),
  (67, 68, [zRetV zisI])])
noncomputable def tb_X12_lower (scr slen opc : Nat) (iv : Nat → Nat × Nat) (dc db du : List (Nat × Nat)) (cal : zCal) : Nat × zBs := (7, [(0, 20, [zLdA 0, zPush 0, zPutf zisI 18 0, zLdA 0, zGetf 18 4, zClone, zCastA 64, zStA 7 1, zPush 0, zStI 7 2, zPush 34359738360, zStI 7 3]),
  (20, 26, [zPush 34359738360, zStI 7 3, zPush 72, zStI 7 4]),
  (26, 31, [zLdI 4, z0lt iv false false 72]),
  (31, 38, [zLdA 1, zLdI 4, zAld zisI 64 0, z0eq iv false 64]),
  (38, 39, [zNo]),
  (64, 72, [zLdI 3, zStI 7 3, zIinc 7 4 4294967295, zGoto 26]),
  (72, 77, [zLdI 3, zPush 34359738360, zJeq iv false 227]),
  (77, 78, [zNo]),
  (227, 232, [zLdI 3, zPush 34359738360, zJeq iv true 20]),
  (232, 234, [zLdI 2, zRetV zisI])])
noncomputable def tb_X12_meanDegree (scr slen opc : Nat) (iv : Nat → Nat × Nat) (dc db du : List (Nat × Nat)) (cal : zCal) : Nat × zBs := (1, [(0, 8, [zLdA 0, zLdA 0, zGetf 18 2, z0eq iv true 12]),
  (8, 12, [zPush 8, zGoto 13]),
  (12, 13, [zNo]),
  (13, 23, [zPutf zisI 18 0, zLdA 0, zGetf 18 0, z0lt iv true true 27]),
  (23, 27, [zPush 6, zGoto 43]),
  (27, 28, [zNo]),
  (43, 44, [zRetV (fun v => zt v 6)])])
noncomputable def tb_X12_model (scr slen opc : Nat) (iv : Nat → Nat × Nat) (dc db du : List (Nat × Nat)) (cal : zCal) : Nat × zBs := (4, [(0, 12, [zLdA 0, zPush 0, zPutf zisI 18 0, zLdI 1, zCall cal 236 1, z0eq iv true 18]),
  (12, 18, [zLdA 0, zPush 8, zCallV cal 18 [] 218 2, zRetV zisI]),
  (18, 36, [zLdA 0, zLdI 1, zLdA 0, zGetf 18 2, zLdA 0, zCallV cal 18 [] 224 1, zCallV cal 18 [] 223 4, zStA 4 3, zLdA 3, zJnul true 42]),
  (36, 42, [zLdA 0, zPush 16, zCallV cal 18 [] 218 2, zRetV zisI]),
  (42, 43, [zNo])])
noncomputable def tb_X12_neighbours (scr slen opc : Nat) (iv : Nat → Nat × Nat) (dc db du : List (Nat × Nat)) (cal : zCal) : Nat × zBs := (2, [(0, 13, [zLdA 0, zPush 0, zPutf zisI 18 0, zLdA 0, zLdI 1, zCallV cal 18 [] 240 2, z0eq iv false 22]),
  (13, 14, [zNo]),
  (22, 28, [zLdA 0, zPush 8, zCallV cal 18 [] 218 2, zRetV zisI])])
noncomputable def tb_X12_nice (scr slen opc : Nat) (iv : Nat → Nat × Nat) (dc db du : List (Nat × Nat)) (cal : zCal) : Nat × zBs := (6, [(0, 17, [zLdA 0, zPush 0, zPutf zisI 18 0, zLdA 0, zGetf 18 6, zCallF cal 5 309 1, z0eq iv false 23]),
  (17, 23, [zLdA 0, zPush 8, zCallV cal 18 [] 218 2, zRetV zisI]),
  (23, 24, [zNo])])
noncomputable def tb_X12_order (scr slen opc : Nat) (iv : Nat → Nat × Nat) (dc db du : List (Nat × Nat)) (cal : zCal) : Nat × zBs := (10, [(0, 18, [zLdA 0, zGetf 18 2, zCall cal 270 1, zStI 10 2, zLdI 2, zNewA 64, zStA 10 3, zLdI 1, zPush 784, zJeq iv true 41]),
  (18, 33, [zPush 0, zStI 10 4, zLdA 0, zLdA 3, zPush 0, zPush 0, zLdI 4, zCallV cal 18 [] 260 5, z0eq iv true 39]),
  (33, 36, [zNo]),
  (39, 41, [zLdA 3, zRetV zisA]),
  (41, 60, [zLdA 0, zLdI 1, zCallV cal 18 [] 247 2, zStA 10 4, zPush 0, zStI 10 5, zPush 0, zStI 10 6, zLdI 6, zLdI 2, zJlt iv false true 168]),
  (60, 61, [zNo]),
  (168, 170, [zLdA 3, zRetV zisA])])
noncomputable def tb_X12_orderAt (scr slen opc : Nat) (iv : Nat → Nat × Nat) (dc db du : List (Nat × Nat)) (cal : zCal) : Nat × zBs := (3, [(0, 12, [zLdA 0, zPush 0, zPutf zisI 18 0, zLdI 1, zCall cal 237 1, z0eq iv true 18]),
  (12, 18, [zLdA 0, zPush 8, zCallV cal 18 [] 218 2, zRetV zisI]),
  (18, 35, [zLdI 2, zPush 0, zLdA 0, zGetf 18 2, zCall cal 270 1, zPush 8, zBin zfSub, zCall cal 231 3, z0eq iv false 45]),
  (35, 36, [zNo]),
  (45, 51, [zLdA 0, zPush 16, zCallV cal 18 [] 218 2, zRetV zisI])])
noncomputable def tb_X12_parts (scr slen opc : Nat) (iv : Nat → Nat × Nat) (dc db du : List (Nat × Nat)) (cal : zCal) : Nat × zBs := (1, [(0, 19, [zLdA 0, zPush 0, zPutf zisI 18 0, zLdA 0, zLdA 0, zGetf 18 2, zCallV cal 18 [] 258 2, zCallF cal 5 311 1, zRetV zisI])])
noncomputable def tb_X12_partsOf (scr slen opc : Nat) (iv : Nat → Nat × Nat) (dc db du : List (Nat × Nat)) (cal : zCal) : Nat × zBs := (5, [(0, 14, [zNew 5 3 14167099448608935641088, zDup, zCallI cal 302 1, zStA 5 2, zLdI 1, zStI 5 3, zLdI 3, z0eq iv false 49]),
  (14, 15, [zNo]),
  (49, 51, [zLdA 2, zRetV zisA])])
noncomputable def tb_X12_place (scr slen opc : Nat) (iv : Nat → Nat × Nat) (dc db du : List (Nat × Nat)) (cal : zCal) : Nat × zBs := (2, [(0, 13, [zLdA 0, zPush 0, zPutf zisI 18 0, zLdA 0, zLdI 1, zCallV cal 18 [] 240 2, z0eq iv true 19]),
  (13, 19, [zLdA 0, zPush 8, zCallV cal 18 [] 218 2, zRetV zisI]),
  (19, 20, [zNo])])
noncomputable def tb_X12_places (scr slen opc : Nat) (iv : Nat → Nat × Nat) (dc db du : List (Nat × Nat)) (cal : zCal) : Nat × zBs := (7, [(0, 9, [zPush 0, zStI 7 5, zLdI 5, zLdI 2, zJlt iv false true 54]),
  (9, 10, [zNo]),
  (54, 60, [zLdI 2, zLdA 1, zAlenS (zalen slen), zJeq iv true 62]),
  (60, 62, [zPush 8, zRetV zisZ]),
  (62, 63, [zNo])])
noncomputable def tb_X12_put (scr slen opc : Nat) (iv : Nat → Nat × Nat) (dc db du : List (Nat × Nat)) (cal : zCal) : Nat × zBs := (2, [(0, 9, [zLdA 0, zPush 0, zPutf zisI 18 0, zLdI 1, z0eq iv false 17]),
  (9, 17, [zLdA 0, zLdI 1, zCallV cal 18 [] 238 2, z0eq iv true 23]),
  (17, 23, [zLdA 0, zPush 8, zCallV cal 18 [] 218 2, zRetV zisI]),
  (23, 24, [zNo])])
noncomputable def tb_X12_red (scr slen opc : Nat) (iv : Nat → Nat × Nat) (dc db du : List (Nat × Nat)) (cal : zCal) : Nat × zBs := (1, [(0, 14, [zLdA 0, zPush 0, zPutf zisI 18 0, zLdA 0, zLdA 0, zGetf 18 10, zCallV cal 18 [] 263 2, zRetV zisI])])
noncomputable def tb_X12_redOf (scr slen opc : Nat) (iv : Nat → Nat × Nat) (dc db du : List (Nat × Nat)) (cal : zCal) : Nat × zBs := (8, [(0, 18, [zPush 0, zStI 8 2, zLdA 1, zCallF cal 5 310 1, zStA 8 3, zLdA 3, zCallF cal 4 314 1, z0eq iv false 109]),
  (18, 19, [zNo]),
  (109, 111, [zLdI 2, zRetV zisI])])
noncomputable def tb_X12_remove (scr slen opc : Nat) (iv : Nat → Nat × Nat) (dc db du : List (Nat × Nat)) (cal : zCal) : Nat × zBs := (3, [(0, 13, [zLdA 0, zPush 0, zPutf zisI 18 0, zLdA 0, zLdI 1, zCallV cal 18 [] 240 2, z0eq iv true 19]),
  (13, 19, [zLdA 0, zPush 8, zCallV cal 18 [] 218 2, zRetV zisI]),
  (19, 20, [zNo])])
noncomputable def tb_X12_rings (scr slen opc : Nat) (iv : Nat → Nat × Nat) (dc db du : List (Nat × Nat)) (cal : zCal) : Nat × zBs := (2, [(0, 16, [zLdA 0, zPush 0, zPutf zisI 18 0, zLdA 0, zGetf 18 2, zCall cal 270 1, zPush 24, zJlt iv false true 18]),
  (16, 18, [zPush 4, zRetV (fun v => zt v 4)]),
  (18, 19, [zNo])])
noncomputable def tb_X12_searchers (scr slen opc : Nat) (iv : Nat → Nat × Nat) (dc db du : List (Nat × Nat)) (cal : zCal) : Nat × zBs := (1, [(0, 10, [zLdA 0, zPush 0, zPutf zisI 18 0, zLdA 0, zCallV cal 18 [] 221 1, zRetV zisI])])
noncomputable def tb_X12_sets (scr slen opc : Nat) (iv : Nat → Nat × Nat) (dc db du : List (Nat × Nat)) (cal : zCal) : Nat × zBs := (3, [(0, 9, [zLdA 0, zPush 0, zPutf zisI 18 0, zPush 0, zStI 3 1, zPush 0, zStI 3 2]),
  (9, 16, [zLdI 2, zPush 8192, zJlt iv false true 46]),
  (16, 25, [zLdI 1, zLdA 0, zLdI 2, zCallV cal 18 [] 238 2, z0eq iv false 37]),
  (25, 33, [zLdA 0, zLdI 2, zCallV cal 18 [] 243 2, z0eq iv false 37]),
  (33, 37, [zPush 8, zGoto 38]),
  (37, 38, [zPush 0]),
  (38, 46, [zBin Nat.add, zStI 3 1, zIinc 3 2 1, zGoto 9]),
  (46, 48, [zLdI 1, zRetV zisI])])
noncomputable def tb_X12_setsOf (scr slen opc : Nat) (iv : Nat → Nat × Nat) (dc db du : List (Nat × Nat)) (cal : zCal) : Nat × zBs := (1, [(0, 6, [zLdI 0, zPush 408, zJeq iv true 10]),
  (6, 10, [zPush 24, zGoto 42]),
  (10, 16, [zLdI 0, zPush 416, zJeq iv true 20]),
  (16, 20, [zPush 32, zGoto 42]),
  (20, 26, [zLdI 0, zPush 424, zJeq iv true 30]),
  (26, 30, [zPush 40, zGoto 42]),
  (30, 36, [zLdI 0, zPush 784, zJeq iv true 41]),
  (36, 41, [zPush 48, zGoto 42]),
  (41, 42, [zPush 40]),
  (42, 43, [zRetV zisI])])
noncomputable def tb_X12_size_ (scr slen opc : Nat) (iv : Nat → Nat × Nat) (dc db du : List (Nat × Nat)) (cal : zCal) : Nat × zBs := (1, [(0, 13, [zLdA 0, zPush 0, zPutf zisI 18 0, zLdA 0, zGetf 18 2, zCall cal 270 1, zRetV zisI])])
noncomputable def tb_X12_size (scr slen opc : Nat) (iv : Nat → Nat × Nat) (dc db du : List (Nat × Nat)) (cal : zCal) : Nat × zBs := (1, [(0, 5, [zLdI 0, zCall cal 283 1, zRetV zisI])])
noncomputable def tb_X12_split (scr slen opc : Nat) (iv : Nat → Nat × Nat) (dc db du : List (Nat × Nat)) (cal : zCal) : Nat × zBs := (2, [(0, 21, [zLdA 0, zPush 0, zPutf zisI 18 0, zLdA 0, zGetf 18 10, zCallF cal 5 311 1, zStI 2 1, zLdA 0, zCallV cal 18 [] 194 1, zLdI 1, zRetV zisI])])
noncomputable def tb_X12_takeHaven (scr slen opc : Nat) (iv : Nat → Nat × Nat) (dc db du : List (Nat × Nat)) (cal : zCal) : Nat × zBs := (5, [(0, 12, [zLdA 0, zPush 0, zPutf zisI 18 0, zLdA 0, zGetf 18 2, z0eq iv true 18]),
  (12, 18, [zLdA 0, zPush 8, zCallV cal 18 [] 218 2, zRetV zisI]),
  (18, 19, [zNo])])
noncomputable def tb_X12_thrown (scr slen opc : Nat) (iv : Nat → Nat × Nat) (dc db du : List (Nat × Nat)) (cal : zCal) : Nat × zBs := (1, [(0, 5, [zLdA 0, zGetf 18 0, zRetV zisI])])
noncomputable def tb_X12_twinWidth (scr slen opc : Nat) (iv : Nat → Nat × Nat) (dc db du : List (Nat × Nat)) (cal : zCal) : Nat × zBs := (3, [(0, 17, [zLdA 0, zPush 0, zPutf zisI 18 0, zLdA 0, zGetf 18 2, zCall cal 270 1, zPush 56, zJlt iv true true 23]),
  (17, 18, [zNo]),
  (23, 33, [zNew 5 3 14167099448608935641088, zDup, zCallI cal 302 1, zStA 3 1, zPush 0, zStI 3 2]),
  (33, 39, [zLdI 2, zPush 80, zJlt iv false true 66]),
  (39, 47, [zLdA 0, zLdI 2, zCallV cal 18 [] 240 2, z0eq iv false 60]),
  (47, 48, [zNo]),
  (60, 66, [zIinc 3 2 1, zGoto 33]),
  (66, 84, [zPush 0, zStI 3 2, zLdA 0, zLdA 1, zLdI 2, zNew 22 1 3, zDup, zCallI cal 318 1, zCallV cal 18 [] 242 4, z0eq iv true 90]),
  (84, 87, [zNo]),
  (90, 92, [zLdI 2, zRetV zisI])])
noncomputable def tb_X12_upper (scr slen opc : Nat) (iv : Nat → Nat × Nat) (dc db du : List (Nat × Nat)) (cal : zCal) : Nat × zBs := (9, [(0, 27, [zLdA 0, zPush 0, zPutf zisI 18 0, zLdA 0, zGetf 18 4, zClone, zCastA 64, zStA 9 1, zLdA 0, zGetf 18 2, zStI 9 2, zPush 0, zStI 9 3, zLdI 2, z0eq iv false 255]),
  (27, 28, [zNo]),
  (255, 257, [zLdI 3, zRetV zisI])])
noncomputable def tb_X12_vertex (scr slen opc : Nat) (iv : Nat → Nat × Nat) (dc db du : List (Nat × Nat)) (cal : zCal) : Nat × zBs := (2, [(0, 15, [zLdA 0, zPush 0, zPutf zisI 18 0, zLdI 1, zPush 0, zPush 792, zCall cal 231 3, z0eq iv true 21]),
  (15, 21, [zLdA 0, zPush 8, zCallV cal 18 [] 218 2, zRetV zisI]),
  (21, 30, [zLdA 0, zGetf 18 1, zPush 80, zJeq iv true 36]),
  (30, 31, [zNo]),
  (36, 97, [zLdA 0, zGetf 18 3, zLdA 0, zGetf 18 1, zLdI 1, zAst zisI 64 0, zLdA 0, zDup, zGetf 18 2, zPush 8, zLdA 0, zGetf 18 1, zBin zfShl, zOrS, zPutf zisI 18 2, zLdA 0, zGetf 18 10, zPush 8, zLdA 0, zGetf 18 1, zBin zfShl, zCall cal 284 1, zCallF cal 5 304 2, zPop, zLdA 0, zDup, zGetf 18 1, zPush 8, zBin Nat.add, zPutf zisI 18 1, zLdA 0, zGetf 18 1, zPush 8, zBin zfSub, zRetV zisI])])
noncomputable def tb_X12_weight (scr slen opc : Nat) (iv : Nat → Nat × Nat) (dc db du : List (Nat × Nat)) (cal : zCal) : Nat × zBs := (2, [(0, 13, [zLdA 0, zPush 0, zPutf zisI 18 0, zLdA 0, zLdI 1, zCallV cal 18 [] 240 2, z0eq iv false 22]),
  (13, 14, [zNo]),
  (22, 28, [zLdA 0, zPush 8, zCallV cal 18 [] 218 2, zRetV zisI])])
noncomputable def tb_X12_width (scr slen opc : Nat) (iv : Nat → Nat × Nat) (dc db du : List (Nat × Nat)) (cal : zCal) : Nat × zBs := (6, [(0, 12, [zLdA 0, zPush 0, zPutf zisI 18 0, zLdI 1, zCall cal 237 1, z0eq iv false 23]),
  (12, 23, [zLdA 0, zLdI 1, zLdA 0, zLdI 1, zCallV cal 18 [] 255 2, zCallV cal 18 [] 279 3, zRetV zisI]),
  (23, 29, [zLdI 1, zPush 800, zJeq iv true 43]),
  (29, 43, [zLdA 0, zLdA 0, zGetf 18 2, zPush 8192, zNewA 64, zCallV cal 18 [] 215 3, zRetV zisI]),
  (43, 47, [zPush 0, zStI 6 2, zPush 8, zStI 6 3]),
  (47, 54, [zLdI 3, zPush 8192, zJlt iv false true 190]),
  (54, 62, [zPush 8000, zStI 6 4, zPush 0, zStI 6 5]),
  (62, 69, [zLdI 5, zPush 80, zJlt iv false true 109]),
  (69, 79, [zLdI 3, zLdI 5, zShrS, zPush 8, zAndS, zPush 8, zJeq iv true 99]),
  (79, 99, [zLdI 4, zLdA 0, zGetf 18 4, zLdI 5, zAld zisI 64 0, zLdI 3, zAndS, zCall cal 270 1, zCall cal 286 2, zGoto 101]),
  (99, 101, [zLdI 4]),
  (101, 109, [zStI 6 4, zIinc 6 5 1, zGoto 62]),
  (109, 115, [zLdI 1, zPush 824, zJeq iv true 137]),
  (115, 123, [zLdA 0, zLdI 3, zCallV cal 18 [] 238 2, z0eq iv false 132]),
  (123, 124, [zNo]),
  (132, 137, [zLdI 2, zStI 6 2, zGoto 184]),
  (137, 143, [zLdI 1, zPush 904, zJeq iv true 178]),
  (143, 151, [zLdA 0, zLdI 3, zCallV cal 18 [] 238 2, z0eq iv false 173]),
  (151, 153, [zNo]),
  (173, 178, [zLdI 2, zStI 6 2, zGoto 184]),
  (178, 184, [zLdA 0, zPush 8, zCallV cal 18 [] 218 2, zRetV zisI]),
  (184, 190, [zIinc 6 3 1, zGoto 47]),
  (190, 192, [zLdI 2, zRetV zisI])])
noncomputable def tb_X12_widthBy (scr slen opc : Nat) (iv : Nat → Nat × Nat) (dc db du : List (Nat × Nat)) (cal : zCal) : Nat × zBs := (7, [(0, 15, [zPush 0, zStI 7 3, zPush 0, zStI 7 4, zPush 0, zStI 7 5, zLdI 5, zLdA 2, zAlenS (zalen slen), zJlt iv false true 107]),
  (15, 16, [zNo]),
  (107, 109, [zLdI 3, zRetV zisI])])
noncomputable def tb_X12_widthOf (scr slen opc : Nat) (iv : Nat → Nat × Nat) (dc db du : List (Nat × Nat)) (cal : zCal) : Nat × zBs := (4, [(0, 12, [zLdA 0, zPush 0, zPutf zisI 18 0, zLdI 1, zCall cal 237 1, z0eq iv true 18]),
  (12, 18, [zLdA 0, zPush 8, zCallV cal 18 [] 218 2, zRetV zisI]),
  (18, 37, [zLdA 0, zGetf 18 5, zCallF cal 5 311 1, zLdA 0, zGetf 18 2, zCall cal 270 1, zJlt iv false true 43]),
  (37, 38, [zNo]),
  (43, 63, [zLdA 0, zGetf 18 5, zCallF cal 5 311 1, zNewA 64, zStA 4 2, zPush 0, zStI 4 3, zLdI 3, zLdA 2, zAlenS (zalen slen), zJlt iv false true 88]),
  (63, 64, [zNo]),
  (88, 95, [zLdA 0, zLdI 1, zLdA 2, zCallV cal 18 [] 279 3, zRetV zisI])])
noncomputable def tb_X12_win (scr slen opc : Nat) (iv : Nat → Nat × Nat) (dc db du : List (Nat × Nat)) (cal : zCal) : Nat × zBs := (2, [(0, 11, [zLdA 0, zLdI 1, zPush 0, zPush 80, zCall cal 231 3, z0eq iv false 15]),
  (11, 15, [zPush 0, zGoto 16]),
  (15, 16, [zPush 8]),
  (16, 26, [zPutf zisI 18 0, zLdA 0, zGetf 18 0, z0eq iv true 38]),
  (26, 34, [zLdA 0, zLdI 1, zCallV cal 18 [] 282 2, z0eq iv false 38]),
  (34, 38, [zPush 8, zGoto 39]),
  (38, 39, [zPush 0]),
  (39, 40, [zRetV zisZ])])
noncomputable def tb_X12_wins (scr slen opc : Nat) (iv : Nat → Nat × Nat) (dc db du : List (Nat × Nat)) (cal : zCal) : Nat × zBs := (5, [(0, 29, [zPush 8192, zNewA 64, zStA 5 2, zLdA 0, zLdA 0, zGetf 18 2, zCallV cal 18 [] 258 2, zCallF cal 5 310 1, zStA 5 3, zLdA 3, zCallF cal 4 314 1, z0eq iv false 59]),
  (29, 30, [zNo]),
  (59, 61, [zPush 8, zRetV zisZ])])
noncomputable def tb_J6_bitCount_0f7a4 (scr slen opc : Nat) (iv : Nat → Nat × Nat) (dc db du : List (Nat × Nat)) (cal : zCal) : Nat × zBs := (1, [(0, 53, [zLdI 0, zLdI 0, zPush 8, zBin zfUshr, zPush 11453246120, zAndS, zBin zfSub, zStI 1 0, zLdI 0, zPush 6871947672, zAndS, zLdI 0, zPush 16, zBin zfUshr, zPush 6871947672, zAndS, zBin Nat.add, zStI 1 0, zLdI 0, zLdI 0, zPush 32, zBin zfUshr, zBin Nat.add, zPush 2021161080, zAndS, zStI 1 0, zLdI 0, zLdI 0, zPush 64, zBin zfUshr, zBin Nat.add, zStI 1 0, zLdI 0, zLdI 0, zPush 128, zBin zfUshr, zBin Nat.add, zStI 1 0, zLdI 0, zPush 504, zAndS, zRetV zisI])])
noncomputable def tb_J6_valueOf_2dffe (scr slen opc : Nat) (iv : Nat → Nat × Nat) (dc db du : List (Nat × Nat)) (cal : zCal) : Nat × zBs := (1, [(0, 6, [zLdI 0, zPush 34359737344, zJlt iv false false 23]),
  (6, 13, [zLdI 0, zPush 1016, zJlt iv true false 23]),
  (13, 23, [zPush 18, zLdI 0, zPush 1024, zBin Nat.add, zAldS zscac, zRetV zisA]),
  (23, 26, [zNo])])
noncomputable def tb_J9_max_7cf53 (scr slen opc : Nat) (iv : Nat → Nat × Nat) (dc db du : List (Nat × Nat)) (cal : zCal) : Nat × zBs := (2, [(0, 5, [zLdI 0, zLdI 1, zJlt iv false false 9]),
  (5, 9, [zLdI 0, zGoto 10]),
  (9, 10, [zNo]),
  (10, 11, [zRetV zisI])])
noncomputable def tb_J9_min_7cf53 (scr slen opc : Nat) (iv : Nat → Nat × Nat) (dc db du : List (Nat × Nat)) (cal : zCal) : Nat × zBs := (2, [(0, 5, [zLdI 0, zLdI 1, zJlt iv true false 9]),
  (5, 9, [zLdI 0, zGoto 10]),
  (9, 10, [zLdI 1]),
  (10, 11, [zRetV zisI])])
noncomputable def tb_J0_charAt_5068e (scr slen opc : Nat) (iv : Nat → Nat × Nat) (dc db du : List (Nat × Nat)) (cal : zCal) : Nat × zBs := (2, [(0, 7, [zLdA 0, zCallV cal 0 zsobj 292 1, z0eq iv false 16]),
  (7, 16, [zLdA 0, zGetS zsval, zLdI 1, zCall cal 295 2, zRetV zisC]),
  (16, 17, [zNo])])
noncomputable def tb_J0_checkIndex_df160 (scr slen opc : Nat) (iv : Nat → Nat × Nat) (dc db du : List (Nat × Nat)) (cal : zCal) : Nat × zBs := (2, [(0, 10, [zLdI 0, zLdI 1, zPush 42, zCall cal 319 3, zPop, zRet0])])
noncomputable def tb_J0_coder_7d493 (scr slen opc : Nat) (iv : Nat → Nat × Nat) (dc db du : List (Nat × Nat)) (cal : zCal) : Nat × zBs := (1, [(0, 6, [zPush 8, z0eq iv false 13]),
  (6, 13, [zLdA 0, zGetS zscod, zGoto 14]),
  (13, 14, [zNo]),
  (14, 15, [zRetV zisZ])])
noncomputable def tb_J0_indexOf_0f7a4 (scr slen opc : Nat) (iv : Nat → Nat × Nat) (dc db du : List (Nat × Nat)) (cal : zCal) : Nat × zBs := (2, [(0, 7, [zLdA 0, zLdI 1, zPush 0, zCallV cal 0 zsobj 291 3, zRetV zisI])])
noncomputable def tb_J0_indexOf_7cf53 (scr slen opc : Nat) (iv : Nat → Nat × Nat) (dc db du : List (Nat × Nat)) (cal : zCal) : Nat × zBs := (3, [(0, 7, [zLdA 0, zCallV cal 0 zsobj 292 1, z0eq iv false 23]),
  (7, 23, [zLdA 0, zGetS zsval, zLdI 1, zLdI 2, zLdA 0, zCallV cal 0 zsobj 293 1, zCall cal 296 4, zGoto 36]),
  (23, 24, [zNo]),
  (36, 37, [zRetV zisI])])
noncomputable def tb_J0_isLatin1_aae02 (scr slen opc : Nat) (iv : Nat → Nat × Nat) (dc db du : List (Nat × Nat)) (cal : zCal) : Nat × zBs := (1, [(0, 6, [zPush 8, z0eq iv false 17]),
  (6, 13, [zLdA 0, zGetS zscod, z0eq iv true 17]),
  (13, 17, [zPush 8, zGoto 18]),
  (17, 18, [zNo]),
  (18, 19, [zRetV zisZ])])
noncomputable def tb_J0_length_8abf5 (scr slen opc : Nat) (iv : Nat → Nat × Nat) (dc db du : List (Nat × Nat)) (cal : zCal) : Nat × zBs := (1, [(0, 11, [zLdA 0, zGetS zsval, zAlenS (zalen slen), zLdA 0, zCallV cal 0 zsobj 289 1, zShrS, zRetV zisI])])
noncomputable def tb_J1_canEncode_9a6ad (scr slen opc : Nat) (iv : Nat → Nat × Nat) (dc db du : List (Nat × Nat)) (cal : zCal) : Nat × zBs := (1, [(0, 4, [zLdI 0, z0lt iv false false 15]),
  (4, 11, [zLdI 0, zPush 2040, zJlt iv true false 15]),
  (11, 15, [zPush 8, zGoto 16]),
  (15, 16, [zPush 0]),
  (16, 17, [zRetV zisZ])])
noncomputable def tb_J1_charAt_3b067 (scr slen opc : Nat) (iv : Nat → Nat × Nat) (dc db du : List (Nat × Nat)) (cal : zCal) : Nat × zBs := (2, [(0, 15, [zLdI 1, zLdA 0, zAlenS (zalen slen), zCall cal 288 2, zLdA 0, zLdI 1, zAldS zsbyt, zPush 2040, zAndS, zI2cT dc, zRetV zisC])])
noncomputable def tb_J1_indexOf_4cfef (scr slen opc : Nat) (iv : Nat → Nat × Nat) (dc db du : List (Nat × Nat)) (cal : zCal) : Nat × zBs := (4, [(0, 7, [zLdI 1, zCall cal 294 1, z0eq iv true 9]),
  (7, 9, [zPush 34359738360, zRetV zisI]),
  (9, 27, [zLdI 2, zPush 0, zCall cal 285 2, zStI 4 2, zLdI 3, zLdA 0, zAlenS (zalen slen), zCall cal 286 2, zStI 4 3, zLdI 2, zLdI 3, zJlt iv false false 29]),
  (27, 28, [zNo]),
  (29, 37, [zLdA 0, zLdI 1, zLdI 2, zLdI 3, zCall cal 297 4, zRetV zisI])])
noncomputable def tb_J1_indexOfChar_4cfef (scr slen opc : Nat) (iv : Nat → Nat × Nat) (dc db du : List (Nat × Nat)) (cal : zCal) : Nat × zBs := (6, [(0, 7, [zLdI 1, zI2bT db, zStI 6 4, zLdI 2, zStI 6 5]),
  (7, 13, [zLdI 5, zLdI 3, zJlt iv false true 31]),
  (13, 22, [zLdA 0, zLdI 5, zAldS zsbyt, zLdI 4, zJeq iv true 25]),
  (22, 25, [zLdI 5, zRetV zisI]),
  (25, 31, [zIinc 6 5 1, zGoto 7]),
  (31, 33, [zPush 34359738360, zRetV zisI])])
noncomputable def tb_Jxa1e45_init_da8c8 (scr slen opc : Nat) (iv : Nat → Nat × Nat) (dc db du : List (Nat × Nat)) (cal : zCal) : Nat × zBs := (1, [(0, 5, [zLdA 0, zObj, zRet0])])
noncomputable def tb_Jxc12de_init_da8c8 (scr slen opc : Nat) (iv : Nat → Nat × Nat) (dc db du : List (Nat × Nat)) (cal : zCal) : Nat × zBs := (1, [(0, 10, [zLdA 0, zCallI cal 298 1, zLdA 0, zPush 0, zPutf zisI 5 0, zRet0])])
noncomputable def tb_X13_init (scr slen opc : Nat) (iv : Nat → Nat × Nat) (dc db du : List (Nat × Nat)) (cal : zCal) : Nat × zBs := (1, [(0, 5, [zLdA 0, zObj, zRet0])])
noncomputable def tb_X14_init (scr slen opc : Nat) (iv : Nat → Nat × Nat) (dc db du : List (Nat × Nat)) (cal : zCal) : Nat × zBs := (1, [(0, 5, [zLdA 0, zCallI cal 298 1, zRet0])])
noncomputable def tb_Jx4a65c_init_da8c8 (scr slen opc : Nat) (iv : Nat → Nat × Nat) (dc db du : List (Nat × Nat)) (cal : zCal) : Nat × zBs := (1, [(0, 12, [zLdA 0, zCallI cal 299 1, zLdA 0, zPush 10, zPutf zisA 5 1, zRet0])])
noncomputable def tb_Jx4a65c_init_4bcb3 (scr slen opc : Nat) (iv : Nat → Nat × Nat) (dc db du : List (Nat × Nat)) (cal : zCal) : Nat × zBs := (3, [(0, 21, [zLdA 0, zCallI cal 299 1, zLdA 1, zCallF cal 5 312 1, zStA 3 2, zLdA 0, zLdA 2, zAlenS (zalen slen), zDupX1, zPutf zisI 5 2, z0eq iv false 57]),
  (21, 22, [zNo]),
  (57, 65, [zLdA 0, zPush 26, zPutf zisA 5 1, zRet0])])
noncomputable def tb_Jx4a65c_add_9ea2d (scr slen opc : Nat) (iv : Nat → Nat × Nat) (dc db du : List (Nat × Nat)) (cal : zCal) : Nat × zBs := (2, [(0, 25, [zLdA 0, zDup, zGetf 5 0, zPush 8, zBin Nat.add, zPutf zisI 5 0, zLdA 0, zLdA 1, zLdA 0, zGetf 5 1, zLdA 0, zGetf 5 2, zCallV cal 5 [] 305 4, zPush 8, zRetV zisZ])])
noncomputable def tb_Jx4a65c_add_72be8 (scr slen opc : Nat) (iv : Nat → Nat × Nat) (dc db du : List (Nat × Nat)) (cal : zCal) : Nat × zBs := (4, [(0, 6, [zLdI 3, zLdA 2, zAlenS (zalen slen), zJeq iv true 11]),
  (6, 11, [zLdA 0, zCallV cal 5 [] 307 1, zStA 4 2]),
  (11, 23, [zLdA 2, zLdI 3, zLdA 1, zAst zisA 68 3, zLdA 0, zLdI 3, zPush 8, zBin Nat.add, zPutf zisI 5 2, zRet0])])
noncomputable def tb_Jx4a65c_clear_da8c8 (scr slen opc : Nat) (iv : Nat → Nat × Nat) (dc db du : List (Nat × Nat)) (cal : zCal) : Nat × zBs := (4, [(0, 32, [zLdA 0, zDup, zGetf 5 0, zPush 8, zBin Nat.add, zPutf zisI 5 0, zLdA 0, zGetf 5 1, zStA 4 1, zLdA 0, zGetf 5 2, zStI 4 2, zLdA 0, zPush 0, zDupX1, zPutf zisI 5 2, zStI 4 3, zLdI 3, zLdI 2, zJlt iv false true 42]),
  (32, 33, [zNo]),
  (42, 43, [zRet0])])
noncomputable def tb_Jx4a65c_grow_d5877 (scr slen opc : Nat) (iv : Nat → Nat × Nat) (dc db du : List (Nat × Nat)) (cal : zCal) : Nat × zBs := (1, [(0, 11, [zLdA 0, zLdA 0, zGetf 5 2, zPush 8, zBin Nat.add, zCallV cal 5 [] 308 2, zRetV zisA])])
noncomputable def tb_Jx4a65c_grow_92f84 (scr slen opc : Nat) (iv : Nat → Nat × Nat) (dc db du : List (Nat × Nat)) (cal : zCal) : Nat × zBs := (4, [(0, 10, [zLdA 0, zGetf 5 1, zAlenS (zalen slen), zStI 4 2, zLdI 2, z0lt iv true false 20]),
  (10, 20, [zLdA 0, zGetf 5 1, zPush 10, zAcmp false 45]),
  (20, 21, [zNo]),
  (45, 60, [zLdA 0, zPush 80, zLdI 1, zCall cal 285 2, zNewO, zDupX1, zPutf zisA 5 1, zRetV zisA])])
noncomputable def tb_Jx4a65c_isEmpty_aae02 (scr slen opc : Nat) (iv : Nat → Nat × Nat) (dc db du : List (Nat × Nat)) (cal : zCal) : Nat × zBs := (1, [(0, 7, [zLdA 0, zGetf 5 2, z0eq iv true 11]),
  (7, 11, [zPush 8, zGoto 12]),
  (11, 12, [zNo]),
  (12, 13, [zRetV zisZ])])
noncomputable def tb_Jx4a65c_iterator_32c93 (scr slen opc : Nat) (iv : Nat → Nat × Nat) (dc db du : List (Nat × Nat)) (cal : zCal) : Nat × zBs := (1, [(0, 9, [zNew 4 4 315936875005671560093754083051011296956685286201647333762932932608, zDup, zLdA 0, zCallI cal 313 2, zRetV zisA])])
noncomputable def tb_Jx4a65c_size_8abf5 (scr slen opc : Nat) (iv : Nat → Nat × Nat) (dc db du : List (Nat × Nat)) (cal : zCal) : Nat × zBs := (1, [(0, 5, [zLdA 0, zGetf 5 2, zRetV zisI])])
noncomputable def tb_Jx4a65c_toArray_d5877 (scr slen opc : Nat) (iv : Nat → Nat × Nat) (dc db du : List (Nat × Nat)) (cal : zCal) : Nat × zBs := (1, [(0, 12, [zLdA 0, zGetf 5 1, zLdA 0, zGetf 5 2, zCall cal 315 2, zRetV zisA])])
noncomputable def tb_Jx35411_init_45d68 (scr slen opc : Nat) (iv : Nat → Nat × Nat) (dc db du : List (Nat × Nat)) (cal : zCal) : Nat × zBs := (2, [(0, 26, [zLdA 0, zLdA 1, zPutf zisA 4 3, zLdA 0, zObj, zLdA 0, zPush 34359738360, zPutf zisI 4 1, zLdA 0, zLdA 0, zGetf 4 3, zGetf 5 0, zPutf zisI 4 2, zRet0])])
noncomputable def tb_Jx35411_hasNext_aae02 (scr slen opc : Nat) (iv : Nat → Nat × Nat) (dc db du : List (Nat × Nat)) (cal : zCal) : Nat × zBs := (1, [(0, 14, [zLdA 0, zGetf 4 0, zLdA 0, zGetf 4 3, zGetf 5 2, zJeq iv false 18]),
  (14, 15, [zNo]),
  (18, 20, [zPush 0, zRetV zisZ])])
noncomputable def tb_J7_copyOf_1904c (scr slen opc : Nat) (iv : Nat → Nat × Nat) (dc db du : List (Nat × Nat)) (cal : zCal) : Nat × zBs := (2, [(0, 6, [zLdA 0, zLdI 1, zLdA 0, zNo])])
noncomputable def tb_J7_copyOf_6403c (scr slen opc : Nat) (iv : Nat → Nat × Nat) (dc db du : List (Nat × Nat)) (cal : zCal) : Nat × zBs := (4, [(0, 3, [zLdA 2, zNo]),
  (6, 13, [zLdI 1, zNewO, zGoto 24]),
  (13, 14, [zNo]),
  (24, 38, [zStA 4 3, zLdA 0, zPush 0, zLdA 3, zPush 0, zLdA 0, zAlenS (zalen slen), zLdI 1, zCall cal 286 2, zNo])])
noncomputable def tb_X17_init (scr slen opc : Nat) (iv : Nat → Nat × Nat) (dc db du : List (Nat × Nat)) (cal : zCal) : Nat × zBs := (1, [(0, 11, [zLdA 0, zCallI cal 300 1, zLdA 0, zPush 8489271301, zPutf (fun v => zt v 5) 21 7, zRet0])])
noncomputable def tb_X18_init (scr slen opc : Nat) (iv : Nat → Nat × Nat) (dc db du : List (Nat × Nat)) (cal : zCal) : Nat × zBs := (1, [(0, 16, [zLdA 0, zCallI cal 301 1, zLdA 0, zNew 21 8 261871248631691349601055175746207932177331363683445183158663309447690703712373964390661923322947338243631028551190092287626206633578355008993738593665027, zDup, zCallI cal 317 1, zPutf zisA 22 0, zRet0])])
noncomputable def tb_J3_checkIndex_8e157 (scr slen opc : Nat) (iv : Nat → Nat × Nat) (dc db du : List (Nat × Nat)) (cal : zCal) : Nat × zBs := (3, [(0, 4, [zLdI 0, z0lt iv false false 9]),
  (4, 9, [zLdI 0, zLdI 1, zJlt iv false false 16]),
  (9, 10, [zNo]),
  (16, 18, [zLdI 0, zRetV zisI])])
noncomputable def tbr_0 (scr slen opc : Nat) (iv : Nat → Nat × Nat) (dc db du : List (Nat × Nat)) (cal : zCal) : List (Nat × zBs) := [tb_L_law scr slen opc iv dc db du cal, tb_X11_init scr slen opc iv dc db du cal, tb_X11_above scr slen opc iv dc db du cal, tb_X11_apex scr slen opc iv dc db du cal, tb_X11_bag scr slen opc iv dc db du cal, tb_X11_bagAt scr slen opc iv dc db du cal, tb_X11_bagWidth scr slen opc iv dc db du cal, tb_X11_bestSet scr slen opc iv dc db du cal, tb_X11_check scr slen opc iv dc db du cal, tb_X11_clause scr slen opc iv dc db du cal, tb_X11_clearBags scr slen opc iv dc db du cal, tb_X11_clearFamily scr slen opc iv dc db du cal, tb_X11_clearHyperedges scr slen opc iv dc db du cal, tb_X11_clearOrder scr slen opc iv dc db du cal, tb_X11_colourings scr slen opc iv dc db du cal, tb_X11_colours scr slen opc iv dc db du cal, tb_X11_contract scr slen opc iv dc db du cal, tb_X11_cover scr slen opc iv dc db du cal]
noncomputable def tbr_1 (scr slen opc : Nat) (iv : Nat → Nat × Nat) (dc db du : List (Nat × Nat)) (cal : zCal) : List (Nat × zBs) := [tb_X11_decompose scr slen opc iv dc db du cal, tb_X11_density scr slen opc iv dc db du cal, tb_X11_edge scr slen opc iv dc db du cal, tb_X11_edges scr slen opc iv dc db du cal, tb_X11_familyOrder scr slen opc iv dc db du cal, tb_X11_fewestSearchers scr slen opc iv dc db du cal, tb_X11_hasCover scr slen opc iv dc db du cal, tb_X11_hasMinor scr slen opc iv dc db du cal, tb_X11_haven scr slen opc iv dc db du cal, tb_X11_hyperedge scr slen opc iv dc db du cal, tb_X11_isAcyclic scr slen opc iv dc db du cal, tb_X11_isBramble scr slen opc iv dc db du cal, tb_X11_isIn scr slen opc iv dc db du cal, tb_X11_isTrue scr slen opc iv dc db du cal, tb_X11_join scr slen opc iv dc db du cal, tb_X11_kernel scr slen opc iv dc db du cal, tb_X11_kernelLeft scr slen opc iv dc db du cal, tb_X11_link scr slen opc iv dc db du cal]
noncomputable def tbr_2 (scr slen opc : Nat) (iv : Nat → Nat × Nat) (dc db du : List (Nat × Nat)) (cal : zCal) : List (Nat × zBs) := [tb_X11_longest scr slen opc iv dc db du cal, tb_X11_lower scr slen opc iv dc db du cal, tb_X11_meanDegree scr slen opc iv dc db du cal, tb_X11_model scr slen opc iv dc db du cal, tb_X11_needBags scr slen opc iv dc db du cal, tb_X11_needFilledSet scr slen opc iv dc db du cal, tb_X11_needIndex scr slen opc iv dc db du cal, tb_X11_needKernel scr slen opc iv dc db du cal, tb_X11_needKind scr slen opc iv dc db du cal, tb_X11_needPair scr slen opc iv dc db du cal, tb_X11_needRange scr slen opc iv dc db du cal, tb_X11_needSet scr slen opc iv dc db du cal, tb_X11_needVertex scr slen opc iv dc db du cal, tb_X11_neighbours scr slen opc iv dc db du cal, tb_X11_nice scr slen opc iv dc db du cal, tb_X11_orderAt scr slen opc iv dc db du cal, tb_X11_parts scr slen opc iv dc db du cal, tb_X11_place scr slen opc iv dc db du cal]
noncomputable def tbr_3 (scr slen opc : Nat) (iv : Nat → Nat × Nat) (dc db du : List (Nat × Nat)) (cal : zCal) : List (Nat × zBs) := [tb_X11_put scr slen opc iv dc db du cal, tb_X11_red scr slen opc iv dc db du cal, tb_X11_remove scr slen opc iv dc db du cal, tb_X11_rings scr slen opc iv dc db du cal, tb_X11_searchers scr slen opc iv dc db du cal, tb_X11_sets scr slen opc iv dc db du cal, tb_X11_size scr slen opc iv dc db du cal, tb_X11_split scr slen opc iv dc db du cal, tb_X11_takeHaven scr slen opc iv dc db du cal, tb_X11_twinWidth scr slen opc iv dc db du cal, tb_X11_upper scr slen opc iv dc db du cal, tb_X11_vertex scr slen opc iv dc db du cal, tb_X11_weight scr slen opc iv dc db du cal, tb_X11_width scr slen opc iv dc db du cal, tb_X11_widthOf scr slen opc iv dc db du cal, tb_X11_win scr slen opc iv dc db du cal, tb_X0_init scr slen opc iv dc db du cal, tb_X0_everyVertexHangs scr slen opc iv dc db du cal]
noncomputable def tbr_4 (scr slen opc : Nat) (iv : Nat → Nat × Nat) (dc db du : List (Nat × Nat)) (cal : zCal) : List (Nat × zBs) := [tb_X0_fault scr slen opc iv dc db du cal, tb_X0_hang scr slen opc iv dc db du cal, tb_X0_holdsAllEdges scr slen opc iv dc db du cal, tb_X0_make scr slen opc iv dc db du cal, tb_X0_union scr slen opc iv dc db du cal, tb_X1_init scr slen opc iv dc db du cal, tb_X1_countKept scr slen opc iv dc db du cal, tb_X1_densestCore scr slen opc iv dc db du cal, tb_X1_fewestThatCover scr slen opc iv dc db du cal, tb_X1_fewestThatLink scr slen opc iv dc db du cal, tb_X1_keepsAll scr slen opc iv dc db du cal, tb_X1_largestClique scr slen opc iv dc db du cal, tb_X1_lightest scr slen opc iv dc db du cal, tb_X1_tell scr slen opc iv dc db du cal, tb_X1_weigh scr slen opc iv dc db du cal, tb_X2_init scr slen opc iv dc db du cal, tb_X2_brambles scr slen opc iv dc db du cal, tb_X2_fewestThatMeet scr slen opc iv dc db du cal]
noncomputable def tbr_5 (scr slen opc : Nat) (iv : Nat → Nat × Nat) (dc db du : List (Nat × Nat)) (cal : zCal) : List (Nat × zBs) := [tb_X3_init scr slen opc iv dc db du cal, tb_X3_add scr slen opc iv dc db du cal, tb_X3_count scr slen opc iv dc db du cal, tb_X3_edgesWithin scr slen opc iv dc db du cal, tb_X3_ends scr slen opc iv dc db du cal, tb_X3_hangs scr slen opc iv dc db du cal, tb_X3_has scr slen opc iv dc db du cal, tb_X3_holds scr slen opc iv dc db du cal, tb_X3_partsWithin scr slen opc iv dc db du cal, tb_X3_reach scr slen opc iv dc db du cal, tb_X3_refresh scr slen opc iv dc db du cal, tb_X4_init scr slen opc iv dc db du cal, tb_X4_ready scr slen opc iv dc db du cal, tb_X5_init scr slen opc iv dc db du cal, tb_X5_dropInner scr slen opc iv dc db du cal, tb_X5_mostNeeded scr slen opc iv dc db du cal, tb_X5_stripLone scr slen opc iv dc db du cal, tb_X5_union scr slen opc iv dc db du cal]
noncomputable def tbr_6 (scr slen opc : Nat) (iv : Nat → Nat × Nat) (dc db du : List (Nat × Nat)) (cal : zCal) : List (Nat × zBs) := [tb_X5_unionOf scr slen opc iv dc db du cal, tb_X5_vanish scr slen opc iv dc db du cal, tb_X6_init scr slen opc iv dc db du cal, tb_X6_extend scr slen opc iv dc db du cal, tb_X6_fewestTooMany scr slen opc iv dc db du cal, tb_X6_find scr slen opc iv dc db du cal, tb_X6_firstSide scr slen opc iv dc db du cal, tb_X6_inClass scr slen opc iv dc db du cal, tb_X6_ready scr slen opc iv dc db du cal, tb_X6_roomIsLeft scr slen opc iv dc db du cal, tb_X6_setsOf scr slen opc iv dc db du cal, tb_X7_init scr slen opc iv dc db du cal, tb_X7_cutCost scr slen opc iv dc db du cal, tb_X7_edgesAcross scr slen opc iv dc db du cal, tb_X7_extendBand scr slen opc iv dc db du cal, tb_X7_leastAhead scr slen opc iv dc db du cal, tb_X7_rank scr slen opc iv dc db du cal, tb_X7_solve scr slen opc iv dc db du cal]
noncomputable def tbr_7 (scr slen opc : Nat) (iv : Nat → Nat × Nat) (dc db du : List (Nat × Nat)) (cal : zCal) : List (Nat × zBs) := [tb_X7_solveBand scr slen opc iv dc db du cal, tb_X7_solveByBeginnings scr slen opc iv dc db du cal, tb_X7_widthAlong scr slen opc iv dc db du cal, tb_X8_init scr slen opc iv dc db du cal, tb_X8_countColourings scr slen opc iv dc db du cal, tb_X8_countRings scr slen opc iv dc db du cal, tb_X8_fewestColours scr slen opc iv dc db du cal, tb_X8_readyShadings scr slen opc iv dc db du cal, tb_X8_shadeFrom scr slen opc iv dc db du cal, tb_X9_init scr slen opc iv dc db du cal, tb_X9_boundAbove scr slen opc iv dc db du cal, tb_X9_boundBelow scr slen opc iv dc db du cal, tb_X9_leastOf scr slen opc iv dc db du cal, tb_X9_load scr slen opc iv dc db du cal, tb_X9_lowestWith scr slen opc iv dc db du cal, tb_X9_reduceOnce scr slen opc iv dc db du cal, tb_X9_shrink scr slen opc iv dc db du cal, tb_X9_stands scr slen opc iv dc db du cal]
noncomputable def tbr_8 (scr slen opc : Nat) (iv : Nat → Nat × Nat) (dc db du : List (Nat × Nat)) (cal : zCal) : List (Nat × zBs) := [tb_X10_init scr slen opc iv dc db du cal, tb_X10_countGroups scr slen opc iv dc db du cal, tb_X10_gatherPieces scr slen opc iv dc db du cal, tb_X10_leads scr slen opc iv dc db du cal, tb_X10_leastAfterJoin scr slen opc iv dc db du cal, tb_X10_leastRed scr slen opc iv dc db du cal, tb_X10_mostRed scr slen opc iv dc db du cal, tb_X10_mostRedPiece scr slen opc iv dc db du cal, tb_X10_readLabels scr slen opc iv dc db du cal, tb_X10_scatter scr slen opc iv dc db du cal, tb_X10_seat scr slen opc iv dc db du cal, tb_L_above scr slen opc iv dc db du cal, tb_L_apex scr slen opc iv dc db du cal, tb_L_bag scr slen opc iv dc db du cal, tb_L_bagAt scr slen opc iv dc db du cal, tb_L_bagWidth scr slen opc iv dc db du cal, tb_L_bestSet scr slen opc iv dc db du cal, tb_L_clause scr slen opc iv dc db du cal]
noncomputable def tbr_9 (scr slen opc : Nat) (iv : Nat → Nat × Nat) (dc db du : List (Nat × Nat)) (cal : zCal) : List (Nat × zBs) := [tb_L_colourings scr slen opc iv dc db du cal, tb_L_contract scr slen opc iv dc db du cal, tb_L_cover scr slen opc iv dc db du cal, tb_L_density scr slen opc iv dc db du cal, tb_L_edge scr slen opc iv dc db du cal, tb_L_hasCover scr slen opc iv dc db du cal, tb_L_hasMinor scr slen opc iv dc db du cal, tb_L_haven scr slen opc iv dc db du cal, tb_L_hyperedge scr slen opc iv dc db du cal, tb_L_isIn scr slen opc iv dc db du cal, tb_L_join scr slen opc iv dc db du cal, tb_L_kernel scr slen opc iv dc db du cal, tb_L_kernelLeft scr slen opc iv dc db du cal, tb_L_link scr slen opc iv dc db du cal, tb_L_longest scr slen opc iv dc db du cal, tb_L_meanDegree scr slen opc iv dc db du cal, tb_L_model scr slen opc iv dc db du cal, tb_L_neighbours scr slen opc iv dc db du cal]
noncomputable def tbr_10 (scr slen opc : Nat) (iv : Nat → Nat × Nat) (dc db du : List (Nat × Nat)) (cal : zCal) : List (Nat × zBs) := [tb_L_nice scr slen opc iv dc db du cal, tb_L_orderAt scr slen opc iv dc db du cal, tb_L_place scr slen opc iv dc db du cal, tb_L_put scr slen opc iv dc db du cal, tb_L_remove scr slen opc iv dc db du cal, tb_L_takeHaven scr slen opc iv dc db du cal, tb_L_twinWidth scr slen opc iv dc db du cal, tb_L_vertex scr slen opc iv dc db du cal, tb_L_weight scr slen opc iv dc db du cal, tb_L_width scr slen opc iv dc db du cal, tb_L_widthOf scr slen opc iv dc db du cal, tb_L_win scr slen opc iv dc db du cal, tb_X12_init scr slen opc iv dc db du cal, tb_X12_above scr slen opc iv dc db du cal, tb_X12_alone scr slen opc iv dc db du cal, tb_X12_apex scr slen opc iv dc db du cal, tb_X12_bag scr slen opc iv dc db du cal, tb_X12_bagAt scr slen opc iv dc db du cal]
noncomputable def tbr_11 (scr slen opc : Nat) (iv : Nat → Nat × Nat) (dc db du : List (Nat × Nat)) (cal : zCal) : List (Nat × zBs) := [tb_X12_bagWidth scr slen opc iv dc db du cal, tb_X12_bestSet scr slen opc iv dc db du cal, tb_X12_check scr slen opc iv dc db du cal, tb_X12_checked scr slen opc iv dc db du cal, tb_X12_clause scr slen opc iv dc db du cal, tb_X12_clearBags scr slen opc iv dc db du cal, tb_X12_clearFamily scr slen opc iv dc db du cal, tb_X12_clearHyperedges scr slen opc iv dc db du cal, tb_X12_clearOrder scr slen opc iv dc db du cal, tb_X12_coloured scr slen opc iv dc db du cal, tb_X12_colourings scr slen opc iv dc db du cal, tb_X12_colours scr slen opc iv dc db du cal, tb_X12_contract scr slen opc iv dc db du cal, tb_X12_countEdges scr slen opc iv dc db du cal, tb_X12_cover scr slen opc iv dc db du cal, tb_X12_decompose scr slen opc iv dc db du cal, tb_X12_density scr slen opc iv dc db du cal, tb_X12_depth scr slen opc iv dc db du cal]
noncomputable def tbr_12 (scr slen opc : Nat) (iv : Nat → Nat × Nat) (dc db du : List (Nat × Nat)) (cal : zCal) : List (Nat × zBs) := [tb_X12_edge scr slen opc iv dc db du cal, tb_X12_edges scr slen opc iv dc db du cal, tb_X12_fails scr slen opc iv dc db du cal, tb_X12_failsBoolean scr slen opc iv dc db du cal, tb_X12_familyOrder scr slen opc iv dc db du cal, tb_X12_fewest scr slen opc iv dc db du cal, tb_X12_fills scr slen opc iv dc db du cal, tb_X12_found scr slen opc iv dc db du cal, tb_X12_hanging scr slen opc iv dc db du cal, tb_X12_hangs scr slen opc iv dc db du cal, tb_X12_hasCover scr slen opc iv dc db du cal, tb_X12_hasMinor scr slen opc iv dc db du cal, tb_X12_haven scr slen opc iv dc db du cal, tb_X12_hitting scr slen opc iv dc db du cal, tb_X12_hyperedge scr slen opc iv dc db du cal, tb_X12_in scr slen opc iv dc db du cal, tb_X12_inClass scr slen opc iv dc db du cal, tb_X12_isAcyclic scr slen opc iv dc db du cal]
noncomputable def tbr_13 (scr slen opc : Nat) (iv : Nat → Nat × Nat) (dc db du : List (Nat × Nat)) (cal : zCal) : List (Nat × zBs) := [tb_X12_isBramble scr slen opc iv dc db du cal, tb_X12_isIn scr slen opc iv dc db du cal, tb_X12_isMinor scr slen opc iv dc db du cal, tb_X12_isOrdered scr slen opc iv dc db du cal, tb_X12_isSet scr slen opc iv dc db du cal, tb_X12_isTrue scr slen opc iv dc db du cal, tb_X12_isVertex scr slen opc iv dc db du cal, tb_X12_join scr slen opc iv dc db du cal, tb_X12_joins scr slen opc iv dc db du cal, tb_X12_keeps scr slen opc iv dc db du cal, tb_X12_kernel scr slen opc iv dc db du cal, tb_X12_kernelLeft scr slen opc iv dc db du cal, tb_X12_kernelOf scr slen opc iv dc db du cal, tb_X12_leasts scr slen opc iv dc db du cal, tb_X12_link scr slen opc iv dc db du cal, tb_X12_longest scr slen opc iv dc db du cal, tb_X12_lower scr slen opc iv dc db du cal, tb_X12_meanDegree scr slen opc iv dc db du cal]
noncomputable def tbr_14 (scr slen opc : Nat) (iv : Nat → Nat × Nat) (dc db du : List (Nat × Nat)) (cal : zCal) : List (Nat × zBs) := [tb_X12_model scr slen opc iv dc db du cal, tb_X12_neighbours scr slen opc iv dc db du cal, tb_X12_nice scr slen opc iv dc db du cal, tb_X12_order scr slen opc iv dc db du cal, tb_X12_orderAt scr slen opc iv dc db du cal, tb_X12_parts scr slen opc iv dc db du cal, tb_X12_partsOf scr slen opc iv dc db du cal, tb_X12_place scr slen opc iv dc db du cal, tb_X12_places scr slen opc iv dc db du cal, tb_X12_put scr slen opc iv dc db du cal, tb_X12_red scr slen opc iv dc db du cal, tb_X12_redOf scr slen opc iv dc db du cal, tb_X12_remove scr slen opc iv dc db du cal, tb_X12_rings scr slen opc iv dc db du cal, tb_X12_searchers scr slen opc iv dc db du cal, tb_X12_sets scr slen opc iv dc db du cal, tb_X12_setsOf scr slen opc iv dc db du cal, tb_X12_size_ scr slen opc iv dc db du cal]
noncomputable def tbr_15 (scr slen opc : Nat) (iv : Nat → Nat × Nat) (dc db du : List (Nat × Nat)) (cal : zCal) : List (Nat × zBs) := [tb_X12_size scr slen opc iv dc db du cal, tb_X12_split scr slen opc iv dc db du cal, tb_X12_takeHaven scr slen opc iv dc db du cal, tb_X12_thrown scr slen opc iv dc db du cal, tb_X12_twinWidth scr slen opc iv dc db du cal, tb_X12_upper scr slen opc iv dc db du cal, tb_X12_vertex scr slen opc iv dc db du cal, tb_X12_weight scr slen opc iv dc db du cal, tb_X12_width scr slen opc iv dc db du cal, tb_X12_widthBy scr slen opc iv dc db du cal, tb_X12_widthOf scr slen opc iv dc db du cal, tb_X12_win scr slen opc iv dc db du cal, tb_X12_wins scr slen opc iv dc db du cal, tb_J6_bitCount_0f7a4 scr slen opc iv dc db du cal, tb_J6_valueOf_2dffe scr slen opc iv dc db du cal, tb_J9_max_7cf53 scr slen opc iv dc db du cal, tb_J9_min_7cf53 scr slen opc iv dc db du cal, tb_J0_charAt_5068e scr slen opc iv dc db du cal]
noncomputable def tbr_16 (scr slen opc : Nat) (iv : Nat → Nat × Nat) (dc db du : List (Nat × Nat)) (cal : zCal) : List (Nat × zBs) := [tb_J0_checkIndex_df160 scr slen opc iv dc db du cal, tb_J0_coder_7d493 scr slen opc iv dc db du cal, tb_J0_indexOf_0f7a4 scr slen opc iv dc db du cal, tb_J0_indexOf_7cf53 scr slen opc iv dc db du cal, tb_J0_isLatin1_aae02 scr slen opc iv dc db du cal, tb_J0_length_8abf5 scr slen opc iv dc db du cal, tb_J1_canEncode_9a6ad scr slen opc iv dc db du cal, tb_J1_charAt_3b067 scr slen opc iv dc db du cal, tb_J1_indexOf_4cfef scr slen opc iv dc db du cal, tb_J1_indexOfChar_4cfef scr slen opc iv dc db du cal, tb_Jxa1e45_init_da8c8 scr slen opc iv dc db du cal, tb_Jxc12de_init_da8c8 scr slen opc iv dc db du cal, tb_X13_init scr slen opc iv dc db du cal, tb_X14_init scr slen opc iv dc db du cal, tb_Jx4a65c_init_da8c8 scr slen opc iv dc db du cal, tb_Jx4a65c_init_4bcb3 scr slen opc iv dc db du cal, tb_Jx4a65c_add_9ea2d scr slen opc iv dc db du cal, tb_Jx4a65c_add_72be8 scr slen opc iv dc db du cal]
noncomputable def tbr_17 (scr slen opc : Nat) (iv : Nat → Nat × Nat) (dc db du : List (Nat × Nat)) (cal : zCal) : List (Nat × zBs) := [tb_Jx4a65c_clear_da8c8 scr slen opc iv dc db du cal, tb_Jx4a65c_grow_d5877 scr slen opc iv dc db du cal, tb_Jx4a65c_grow_92f84 scr slen opc iv dc db du cal, tb_Jx4a65c_isEmpty_aae02 scr slen opc iv dc db du cal, tb_Jx4a65c_iterator_32c93 scr slen opc iv dc db du cal, tb_Jx4a65c_size_8abf5 scr slen opc iv dc db du cal, tb_Jx4a65c_toArray_d5877 scr slen opc iv dc db du cal, tb_Jx35411_init_45d68 scr slen opc iv dc db du cal, tb_Jx35411_hasNext_aae02 scr slen opc iv dc db du cal, tb_J7_copyOf_1904c scr slen opc iv dc db du cal, tb_J7_copyOf_6403c scr slen opc iv dc db du cal, tb_X17_init scr slen opc iv dc db du cal, tb_X18_init scr slen opc iv dc db du cal, tb_J3_checkIndex_8e157 scr slen opc iv dc db du cal]
noncomputable def zln {α : Type} (d : α) (l : List α) : Nat → α := List.rec (motive := fun _ => Nat → α) (fun _ => d) (fun q _ ih i => Nat.rec (motive := fun _ => α) q (fun i _ => ih i) i) l
noncomputable def ztab (scr slen opc : Nat) (iv : Nat → Nat × Nat) (dc db du : List (Nat × Nat)) (cal : zCal) : zTab := fun i => zln (0, []) (zln [] [tbr_0 scr slen opc iv dc db du cal, tbr_1 scr slen opc iv dc db du cal, tbr_2 scr slen opc iv dc db du cal, tbr_3 scr slen opc iv dc db du cal, tbr_4 scr slen opc iv dc db du cal, tbr_5 scr slen opc iv dc db du cal, tbr_6 scr slen opc iv dc db du cal, tbr_7 scr slen opc iv dc db du cal, tbr_8 scr slen opc iv dc db du cal, tbr_9 scr slen opc iv dc db du cal, tbr_10 scr slen opc iv dc db du cal, tbr_11 scr slen opc iv dc db du cal, tbr_12 scr slen opc iv dc db du cal, tbr_13 scr slen opc iv dc db du cal, tbr_14 scr slen opc iv dc db du cal, tbr_15 scr slen opc iv dc db du cal, tbr_16 scr slen opc iv dc db du cal, tbr_17 scr slen opc iv dc db du cal] (Nat.div i 18)) (Nat.mod i 18)
