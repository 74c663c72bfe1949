set_option maxRecDepth 100000 in
theorem mv_mw192 : mv_mwP mv_m192 := ⟨⟨1925, rfl⟩, ⟨132, by decide +kernel⟩, ⟨1924, by decide +kernel⟩, fun _ => ⟨78, by decide +kernel⟩, by decide +kernel⟩
set_option maxRecDepth 100000 in
theorem mv_mw193 : mv_mwP mv_m193 := ⟨⟨1929, rfl⟩, ⟨132, by decide +kernel⟩, ⟨1928, by decide +kernel⟩, fun _ => ⟨79, by decide +kernel⟩, by decide +kernel⟩
set_option maxRecDepth 100000 in
theorem mv_mw194 : mv_mwP mv_m194 := ⟨⟨1921, rfl⟩, ⟨132, by decide +kernel⟩, ⟨1920, by decide +kernel⟩, fun _ => ⟨77, by decide +kernel⟩, by decide +kernel⟩
set_option maxRecDepth 100000 in
theorem mv_mw195 : mv_mwP mv_m195 := ⟨⟨1948, rfl⟩, ⟨132, by decide +kernel⟩, ⟨1947, by decide +kernel⟩, fun h => absurd h (by decide), by decide +kernel⟩
set_option maxRecDepth 100000 in
theorem mv_mw196 : mv_mwP mv_m196 := ⟨⟨1945, rfl⟩, ⟨132, by decide +kernel⟩, ⟨1943, by decide +kernel⟩, fun _ => ⟨1944, by decide +kernel⟩, by decide +kernel⟩
set_option maxRecDepth 100000 in
theorem mv_mw197 : mv_mwP mv_m197 := ⟨⟨1956, rfl⟩, ⟨132, by decide +kernel⟩, ⟨1955, by decide +kernel⟩, fun _ => ⟨83, by decide +kernel⟩, by decide +kernel⟩
set_option maxRecDepth 100000 in
theorem mv_mw198 : mv_mwP mv_m198 := ⟨⟨1968, rfl⟩, ⟨132, by decide +kernel⟩, ⟨1967, by decide +kernel⟩, fun _ => ⟨86, by decide +kernel⟩, by decide +kernel⟩
set_option maxRecDepth 100000 in
theorem mv_mw199 : mv_mwP mv_m199 := ⟨⟨1964, rfl⟩, ⟨132, by decide +kernel⟩, ⟨1963, by decide +kernel⟩, fun _ => ⟨85, by decide +kernel⟩, by decide +kernel⟩
set_option maxRecDepth 100000 in
theorem mv_mw200 : mv_mwP mv_m200 := ⟨⟨1960, rfl⟩, ⟨132, by decide +kernel⟩, ⟨1959, by decide +kernel⟩, fun _ => ⟨84, by decide +kernel⟩, by decide +kernel⟩
set_option maxRecDepth 100000 in
theorem mv_mw201 : mv_mwP mv_m201 := ⟨⟨1952, rfl⟩, ⟨132, by decide +kernel⟩, ⟨1950, by decide +kernel⟩, fun _ => ⟨1951, by decide +kernel⟩, by decide +kernel⟩
set_option maxRecDepth 100000 in
theorem mv_mw202 : mv_mwP mv_m202 := ⟨⟨1980, rfl⟩, ⟨132, by decide +kernel⟩, ⟨1979, by decide +kernel⟩, fun _ => ⟨88, by decide +kernel⟩, by decide +kernel⟩
set_option maxRecDepth 100000 in
theorem mv_mw203 : mv_mwP mv_m203 := ⟨⟨1976, rfl⟩, ⟨132, by decide +kernel⟩, ⟨1974, by decide +kernel⟩, fun _ => ⟨1975, by decide +kernel⟩, by decide +kernel⟩
set_option maxRecDepth 100000 in
theorem mv_mw204 : mv_mwP mv_m204 := ⟨⟨2003, rfl⟩, ⟨132, by decide +kernel⟩, ⟨2002, by decide +kernel⟩, fun _ => ⟨92, by decide +kernel⟩, by decide +kernel⟩
set_option maxRecDepth 100000 in
theorem mv_mw205 : mv_mwP mv_m205 := ⟨⟨2006, rfl⟩, ⟨132, by decide +kernel⟩, ⟨2005, by decide +kernel⟩, fun h => absurd h (by decide), by decide +kernel⟩
set_option maxRecDepth 100000 in
theorem mv_mw206 : mv_mwP mv_m206 := ⟨⟨1999, rfl⟩, ⟨132, by decide +kernel⟩, ⟨1998, by decide +kernel⟩, fun h => absurd h (by decide), by decide +kernel⟩
set_option maxRecDepth 100000 in
theorem mv_mw207 : mv_mwP mv_m207 := ⟨⟨1996, rfl⟩, ⟨132, by decide +kernel⟩, ⟨1995, by decide +kernel⟩, fun _ => ⟨91, by decide +kernel⟩, by decide +kernel⟩
set_option maxRecDepth 100000 in
theorem mv_mw208 : mv_mwP mv_m208 := ⟨⟨1992, rfl⟩, ⟨132, by decide +kernel⟩, ⟨1991, by decide +kernel⟩, fun _ => ⟨90, by decide +kernel⟩, by decide +kernel⟩
set_option maxRecDepth 100000 in
theorem mv_mw209 : mv_mwP mv_m209 := ⟨⟨1988, rfl⟩, ⟨132, by decide +kernel⟩, ⟨1987, by decide +kernel⟩, fun _ => ⟨89, by decide +kernel⟩, by decide +kernel⟩
set_option maxRecDepth 100000 in
theorem mv_mw210 : mv_mwP mv_m210 := ⟨⟨1984, rfl⟩, ⟨132, by decide +kernel⟩, ⟨1982, by decide +kernel⟩, fun _ => ⟨1983, by decide +kernel⟩, by decide +kernel⟩
set_option maxRecDepth 100000 in
theorem mv_mw211 : mv_mwP mv_m211 := ⟨⟨2013, rfl⟩, ⟨132, by decide +kernel⟩, ⟨2012, by decide +kernel⟩, fun h => absurd h (by decide), by decide +kernel⟩
set_option maxRecDepth 100000 in
theorem mv_mw212 : mv_mwP mv_m212 := ⟨⟨2017, rfl⟩, ⟨132, by decide +kernel⟩, ⟨2016, by decide +kernel⟩, fun _ => ⟨93, by decide +kernel⟩, by decide +kernel⟩
set_option maxRecDepth 100000 in
theorem mv_mw213 : mv_mwP mv_m213 := ⟨⟨2010, rfl⟩, ⟨132, by decide +kernel⟩, ⟨2008, by decide +kernel⟩, fun _ => ⟨2009, by decide +kernel⟩, by decide +kernel⟩
set_option maxRecDepth 100000 in
theorem mv_mw214 : mv_mwP mv_m214 := ⟨⟨2021, rfl⟩, ⟨132, by decide +kernel⟩, ⟨2019, by decide +kernel⟩, fun _ => ⟨2020, by decide +kernel⟩, by decide +kernel⟩
set_option maxRecDepth 100000 in
theorem mv_mw215 : mv_mwP mv_m215 := ⟨⟨2025, rfl⟩, ⟨132, by decide +kernel⟩, ⟨2023, by decide +kernel⟩, fun _ => ⟨2024, by decide +kernel⟩, by decide +kernel⟩
set_option maxRecDepth 100000 in
theorem mv_mw216 : mv_mwP mv_m216 := ⟨⟨2029, rfl⟩, ⟨132, by decide +kernel⟩, ⟨2027, by decide +kernel⟩, fun _ => ⟨2028, by decide +kernel⟩, by decide +kernel⟩
set_option maxRecDepth 100000 in
theorem mv_mw217 : mv_mwP mv_m217 := ⟨⟨2042, rfl⟩, ⟨132, by decide +kernel⟩, ⟨2041, by decide +kernel⟩, fun _ => ⟨95, by decide +kernel⟩, by decide +kernel⟩
set_option maxRecDepth 100000 in
theorem mv_mw218 : mv_mwP mv_m218 := ⟨⟨2038, rfl⟩, ⟨132, by decide +kernel⟩, ⟨2037, by decide +kernel⟩, fun _ => ⟨94, by decide +kernel⟩, by decide +kernel⟩
set_option maxRecDepth 100000 in
theorem mv_mw219 : mv_mwP mv_m219 := ⟨⟨2034, rfl⟩, ⟨132, by decide +kernel⟩, ⟨2032, by decide +kernel⟩, fun _ => ⟨2033, by decide +kernel⟩, by decide +kernel⟩
set_option maxRecDepth 100000 in
theorem mv_mw220 : mv_mwP mv_m220 := ⟨⟨2058, rfl⟩, ⟨132, by decide +kernel⟩, ⟨2057, by decide +kernel⟩, fun _ => ⟨98, by decide +kernel⟩, by decide +kernel⟩
set_option maxRecDepth 100000 in
theorem mv_mw221 : mv_mwP mv_m221 := ⟨⟨2070, rfl⟩, ⟨132, by decide +kernel⟩, ⟨2069, by decide +kernel⟩, fun _ => ⟨101, by decide +kernel⟩, by decide +kernel⟩
set_option maxRecDepth 100000 in
theorem mv_mw222 : mv_mwP mv_m222 := ⟨⟨2074, rfl⟩, ⟨132, by decide +kernel⟩, ⟨2073, by decide +kernel⟩, fun _ => ⟨102, by decide +kernel⟩, by decide +kernel⟩
set_option maxRecDepth 100000 in
theorem mv_mw223 : mv_mwP mv_m223 := ⟨⟨2066, rfl⟩, ⟨132, by decide +kernel⟩, ⟨2065, by decide +kernel⟩, fun _ => ⟨100, by decide +kernel⟩, by decide +kernel⟩
set_option maxRecDepth 100000 in
theorem mv_mw224 : mv_mwP mv_m224 := ⟨⟨2062, rfl⟩, ⟨132, by decide +kernel⟩, ⟨2061, by decide +kernel⟩, fun _ => ⟨99, by decide +kernel⟩, by decide +kernel⟩
set_option maxRecDepth 100000 in
theorem mv_mw225 : mv_mwP mv_m225 := ⟨⟨2054, rfl⟩, ⟨132, by decide +kernel⟩, ⟨2053, by decide +kernel⟩, fun _ => ⟨97, by decide +kernel⟩, by decide +kernel⟩
set_option maxRecDepth 100000 in
theorem mv_mw226 : mv_mwP mv_m226 := ⟨⟨2050, rfl⟩, ⟨132, by decide +kernel⟩, ⟨2049, by decide +kernel⟩, fun _ => ⟨96, by decide +kernel⟩, by decide +kernel⟩
set_option maxRecDepth 100000 in
theorem mv_mw227 : mv_mwP mv_m227 := ⟨⟨2046, rfl⟩, ⟨132, by decide +kernel⟩, ⟨2044, by decide +kernel⟩, fun _ => ⟨2045, by decide +kernel⟩, by decide +kernel⟩
set_option maxRecDepth 100000 in
theorem mv_mw228 : mv_mwP mv_m228 := ⟨⟨2078, rfl⟩, ⟨132, by decide +kernel⟩, ⟨2076, by decide +kernel⟩, fun _ => ⟨2077, by decide +kernel⟩, by decide +kernel⟩
set_option maxRecDepth 100000 in
theorem mv_mw229 : mv_mwP mv_m229 := ⟨⟨2082, rfl⟩, ⟨132, by decide +kernel⟩, ⟨2080, by decide +kernel⟩, fun _ => ⟨2081, by decide +kernel⟩, by decide +kernel⟩
set_option maxRecDepth 100000 in
theorem mv_mw230 : mv_mwP mv_m230 := ⟨⟨2086, rfl⟩, ⟨132, by decide +kernel⟩, ⟨2084, by decide +kernel⟩, fun _ => ⟨2085, by decide +kernel⟩, by decide +kernel⟩
set_option maxRecDepth 100000 in
theorem mv_mw231 : mv_mwP mv_m231 := ⟨⟨2090, rfl⟩, ⟨132, by decide +kernel⟩, ⟨2088, by decide +kernel⟩, fun _ => ⟨2089, by decide +kernel⟩, by decide +kernel⟩
set_option maxRecDepth 100000 in
theorem mv_mw232 : mv_mwP mv_m232 := ⟨⟨2095, rfl⟩, ⟨132, by decide +kernel⟩, ⟨2093, by decide +kernel⟩, fun _ => ⟨2094, by decide +kernel⟩, by decide +kernel⟩
set_option maxRecDepth 100000 in
theorem mv_mw233 : mv_mwP mv_m233 := ⟨⟨2111, rfl⟩, ⟨132, by decide +kernel⟩, ⟨2110, by decide +kernel⟩, fun _ => ⟨105, by decide +kernel⟩, by decide +kernel⟩
set_option maxRecDepth 100000 in
theorem mv_mw234 : mv_mwP mv_m234 := ⟨⟨2115, rfl⟩, ⟨132, by decide +kernel⟩, ⟨2114, by decide +kernel⟩, fun _ => ⟨106, by decide +kernel⟩, by decide +kernel⟩
set_option maxRecDepth 100000 in
theorem mv_mw235 : mv_mwP mv_m235 := ⟨⟨2107, rfl⟩, ⟨132, by decide +kernel⟩, ⟨2106, by decide +kernel⟩, fun _ => ⟨104, by decide +kernel⟩, by decide +kernel⟩
set_option maxRecDepth 100000 in
theorem mv_mw236 : mv_mwP mv_m236 := ⟨⟨2120, rfl⟩, ⟨132, by decide +kernel⟩, ⟨2119, by decide +kernel⟩, fun _ => ⟨107, by decide +kernel⟩, by decide +kernel⟩
set_option maxRecDepth 100000 in
theorem mv_mw237 : mv_mwP mv_m237 := ⟨⟨2103, rfl⟩, ⟨132, by decide +kernel⟩, ⟨2102, by decide +kernel⟩, fun _ => ⟨103, by decide +kernel⟩, by decide +kernel⟩
set_option maxRecDepth 100000 in
theorem mv_mw238 : mv_mwP mv_m238 := ⟨⟨2124, rfl⟩, ⟨132, by decide +kernel⟩, ⟨2123, by decide +kernel⟩, fun _ => ⟨108, by decide +kernel⟩, by decide +kernel⟩
set_option maxRecDepth 100000 in
theorem mv_mw239 : mv_mwP mv_m239 := ⟨⟨2099, rfl⟩, ⟨132, by decide +kernel⟩, ⟨2097, by decide +kernel⟩, fun _ => ⟨2098, by decide +kernel⟩, by decide +kernel⟩
set_option maxRecDepth 100000 in
theorem mv_mw240 : mv_mwP mv_m240 := ⟨⟨2128, rfl⟩, ⟨132, by decide +kernel⟩, ⟨2126, by decide +kernel⟩, fun _ => ⟨2127, by decide +kernel⟩, by decide +kernel⟩
set_option maxRecDepth 100000 in
theorem mv_mw241 : mv_mwP mv_m241 := ⟨⟨2132, rfl⟩, ⟨132, by decide +kernel⟩, ⟨2130, by decide +kernel⟩, fun _ => ⟨2131, by decide +kernel⟩, by decide +kernel⟩
set_option maxRecDepth 100000 in
theorem mv_mw242 : mv_mwP mv_m242 := ⟨⟨2136, rfl⟩, ⟨132, by decide +kernel⟩, ⟨2134, by decide +kernel⟩, fun _ => ⟨2135, by decide +kernel⟩, by decide +kernel⟩
set_option maxRecDepth 100000 in
theorem mv_mw243 : mv_mwP mv_m243 := ⟨⟨2148, rfl⟩, ⟨132, by decide +kernel⟩, ⟨2147, by decide +kernel⟩, fun _ => ⟨110, by decide +kernel⟩, by decide +kernel⟩
set_option maxRecDepth 100000 in
theorem mv_mw244 : mv_mwP mv_m244 := ⟨⟨2152, rfl⟩, ⟨132, by decide +kernel⟩, ⟨2151, by decide +kernel⟩, fun _ => ⟨111, by decide +kernel⟩, by decide +kernel⟩
set_option maxRecDepth 100000 in
theorem mv_mw245 : mv_mwP mv_m245 := ⟨⟨2144, rfl⟩, ⟨132, by decide +kernel⟩, ⟨2143, by decide +kernel⟩, fun _ => ⟨109, by decide +kernel⟩, by decide +kernel⟩
set_option maxRecDepth 100000 in
theorem mv_mw246 : mv_mwP mv_m246 := ⟨⟨2140, rfl⟩, ⟨132, by decide +kernel⟩, ⟨2138, by decide +kernel⟩, fun _ => ⟨2139, by decide +kernel⟩, by decide +kernel⟩
set_option maxRecDepth 100000 in
theorem mv_mw247 : mv_mwP mv_m247 := ⟨⟨2156, rfl⟩, ⟨132, by decide +kernel⟩, ⟨2154, by decide +kernel⟩, fun _ => ⟨2155, by decide +kernel⟩, by decide +kernel⟩
set_option maxRecDepth 100000 in
theorem mv_mw248 : mv_mwP mv_m248 := ⟨⟨2165, rfl⟩, ⟨132, by decide +kernel⟩, ⟨2164, by decide +kernel⟩, fun _ => ⟨112, by decide +kernel⟩, by decide +kernel⟩
set_option maxRecDepth 100000 in
theorem mv_mw249 : mv_mwP mv_m249 := ⟨⟨2160, rfl⟩, ⟨132, by decide +kernel⟩, ⟨2158, by decide +kernel⟩, fun _ => ⟨2159, by decide +kernel⟩, by decide +kernel⟩
set_option maxRecDepth 100000 in
theorem mv_mw250 : mv_mwP mv_m250 := ⟨⟨2173, rfl⟩, ⟨132, by decide +kernel⟩, ⟨2172, by decide +kernel⟩, fun _ => ⟨113, by decide +kernel⟩, by decide +kernel⟩
set_option maxRecDepth 100000 in
theorem mv_mw251 : mv_mwP mv_m251 := ⟨⟨2169, rfl⟩, ⟨132, by decide +kernel⟩, ⟨2167, by decide +kernel⟩, fun _ => ⟨2168, by decide +kernel⟩, by decide +kernel⟩
set_option maxRecDepth 100000 in
theorem mv_mw252 : mv_mwP mv_m252 := ⟨⟨2177, rfl⟩, ⟨132, by decide +kernel⟩, ⟨2175, by decide +kernel⟩, fun _ => ⟨2176, by decide +kernel⟩, by decide +kernel⟩
set_option maxRecDepth 100000 in
theorem mv_mw253 : mv_mwP mv_m253 := ⟨⟨2181, rfl⟩, ⟨132, by decide +kernel⟩, ⟨2179, by decide +kernel⟩, fun _ => ⟨2180, by decide +kernel⟩, by decide +kernel⟩
set_option maxRecDepth 100000 in
theorem mv_mw254 : mv_mwP mv_m254 := ⟨⟨2185, rfl⟩, ⟨132, by decide +kernel⟩, ⟨2183, by decide +kernel⟩, fun _ => ⟨2184, by decide +kernel⟩, by decide +kernel⟩
set_option maxRecDepth 100000 in
theorem mv_mw255 : mv_mwP mv_m255 := ⟨⟨1335, rfl⟩, ⟨134, by decide +kernel⟩, ⟨1334, by decide +kernel⟩, fun h => absurd h (by decide), by decide +kernel⟩
