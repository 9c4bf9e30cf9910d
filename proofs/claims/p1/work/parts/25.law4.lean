theorem dL_law_1853 : decode cL_law 1853 = .ok (.aload_n 1, 1) := by decide +kernel
theorem dL_law_1854 : decode cL_law 1854 = .ok (.invokevirtual 220, 3) := by decide +kernel
theorem dL_law_1857 : decode cL_law 1857 = .ok (.aload_n 2, 1) := by decide +kernel
theorem dL_law_1858 : decode cL_law 1858 = .ok (.invokevirtual 223, 3) := by decide +kernel
theorem dL_law_1861 : decode cL_law 1861 = .ok (.if_icmp .eq 957, 3) := by decide +kernel
theorem dL_law_1866 : decode cL_law 1866 = .ok (.aload_n 1, 1) := by decide +kernel
theorem dL_law_1867 : decode cL_law 1867 = .ok (.invokevirtual 224, 3) := by decide +kernel
theorem dL_law_1870 : decode cL_law 1870 = .ok (.aload_n 2, 1) := by decide +kernel
theorem dL_law_1871 : decode cL_law 1871 = .ok (.invokevirtual 227, 3) := by decide +kernel
theorem dL_law_1874 : decode cL_law 1874 = .ok (.if_icmp .eq 944, 3) := by decide +kernel
theorem dL_law_1879 : decode cL_law 1879 = .ok (.aload_n 1, 1) := by decide +kernel
theorem dL_law_1880 : decode cL_law 1880 = .ok (.invokevirtual 228, 3) := by decide +kernel
theorem dL_law_1883 : decode cL_law 1883 = .ok (.aload_n 2, 1) := by decide +kernel
theorem dL_law_1884 : decode cL_law 1884 = .ok (.invokevirtual 231, 3) := by decide +kernel
theorem dL_law_1887 : decode cL_law 1887 = .ok (.if_icmp .eq 931, 3) := by decide +kernel
theorem dL_law_1892 : decode cL_law 1892 = .ok (.aload_n 1, 1) := by decide +kernel
theorem dL_law_1893 : decode cL_law 1893 = .ok (.invokevirtual 232, 3) := by decide +kernel
theorem dL_law_1896 : decode cL_law 1896 = .ok (.aload_n 2, 1) := by decide +kernel
theorem dL_law_1897 : decode cL_law 1897 = .ok (.invokevirtual 235, 3) := by decide +kernel
theorem dL_law_1900 : decode cL_law 1900 = .ok (.if_icmp .eq 918, 3) := by decide +kernel
theorem dL_law_1905 : decode cL_law 1905 = .ok (.aload_n 1, 1) := by decide +kernel
theorem dL_law_1906 : decode cL_law 1906 = .ok (.invokevirtual 236, 3) := by decide +kernel
theorem dL_law_1909 : decode cL_law 1909 = .ok (.aload_n 2, 1) := by decide +kernel
theorem dL_law_1910 : decode cL_law 1910 = .ok (.invokevirtual 239, 3) := by decide +kernel
theorem dL_law_1913 : decode cL_law 1913 = .ok (.if_icmp .eq 905, 3) := by decide +kernel
theorem dL_law_1918 : decode cL_law 1918 = .ok (.aload_n 1, 1) := by decide +kernel
theorem dL_law_1919 : decode cL_law 1919 = .ok (.aload_n 0, 1) := by decide +kernel
theorem dL_law_1920 : decode cL_law 1920 = .ok (.iload 4, 2) := by decide +kernel
theorem dL_law_1922 : decode cL_law 1922 = .ok (.iconst 1, 1) := by decide +kernel
theorem dL_law_1923 : decode cL_law 1923 = .ok (.iadd, 1) := by decide +kernel
theorem dL_law_1924 : decode cL_law 1924 = .ok (.iaload, 1) := by decide +kernel
theorem dL_law_1925 : decode cL_law 1925 = .ok (.aload_n 3, 1) := by decide +kernel
theorem dL_law_1926 : decode cL_law 1926 = .ok (.invokestatic 240, 3) := by decide +kernel
theorem dL_law_1929 : decode cL_law 1929 = .ok (.istore 5, 2) := by decide +kernel
theorem dL_law_1931 : decode cL_law 1931 = .ok (.aload_n 2, 1) := by decide +kernel
theorem dL_law_1932 : decode cL_law 1932 = .ok (.aload_n 0, 1) := by decide +kernel
theorem dL_law_1933 : decode cL_law 1933 = .ok (.iload 4, 2) := by decide +kernel
theorem dL_law_1935 : decode cL_law 1935 = .ok (.iconst 1, 1) := by decide +kernel
theorem dL_law_1936 : decode cL_law 1936 = .ok (.iadd, 1) := by decide +kernel
theorem dL_law_1937 : decode cL_law 1937 = .ok (.iaload, 1) := by decide +kernel
theorem dL_law_1938 : decode cL_law 1938 = .ok (.invokevirtual 242, 3) := by decide +kernel
theorem dL_law_1941 : decode cL_law 1941 = .ok (.istore 6, 2) := by decide +kernel
theorem dL_law_1943 : decode cL_law 1943 = .ok (.aload_n 2, 1) := by decide +kernel
theorem dL_law_1944 : decode cL_law 1944 = .ok (.invokevirtual 131, 3) := by decide +kernel
theorem dL_law_1947 : decode cL_law 1947 = .ok (.iload 5, 2) := by decide +kernel
theorem dL_law_1949 : decode cL_law 1949 = .ok (.if_icmp .eq 5, 3) := by decide +kernel
theorem dL_law_1954 : decode cL_law 1954 = .ok (.iload 5, 2) := by decide +kernel
theorem dL_law_1956 : decode cL_law 1956 = .ok (.ifCond .ne 15, 3) := by decide +kernel
theorem dL_law_1971 : decode cL_law 1971 = .ok (.goto 847, 3) := by decide +kernel
theorem dL_law_1974 : decode cL_law 1974 = .ok (.aload_n 1, 1) := by decide +kernel
theorem dL_law_1975 : decode cL_law 1975 = .ok (.aload_n 0, 1) := by decide +kernel
theorem dL_law_1976 : decode cL_law 1976 = .ok (.iload 4, 2) := by decide +kernel
theorem dL_law_1978 : decode cL_law 1978 = .ok (.iconst 1, 1) := by decide +kernel
theorem dL_law_1979 : decode cL_law 1979 = .ok (.iadd, 1) := by decide +kernel
theorem dL_law_1980 : decode cL_law 1980 = .ok (.iaload, 1) := by decide +kernel
theorem dL_law_1981 : decode cL_law 1981 = .ok (.aload_n 3, 1) := by decide +kernel
theorem dL_law_1982 : decode cL_law 1982 = .ok (.invokestatic 243, 3) := by decide +kernel
theorem dL_law_1985 : decode cL_law 1985 = .ok (.istore 5, 2) := by decide +kernel
theorem dL_law_1987 : decode cL_law 1987 = .ok (.aload_n 2, 1) := by decide +kernel
theorem dL_law_1988 : decode cL_law 1988 = .ok (.aload_n 0, 1) := by decide +kernel
theorem dL_law_1989 : decode cL_law 1989 = .ok (.iload 4, 2) := by decide +kernel
theorem dL_law_1991 : decode cL_law 1991 = .ok (.iconst 1, 1) := by decide +kernel
theorem dL_law_1992 : decode cL_law 1992 = .ok (.iadd, 1) := by decide +kernel
theorem dL_law_1993 : decode cL_law 1993 = .ok (.iaload, 1) := by decide +kernel
theorem dL_law_1994 : decode cL_law 1994 = .ok (.invokevirtual 245, 3) := by decide +kernel
theorem dL_law_1997 : decode cL_law 1997 = .ok (.istore 6, 2) := by decide +kernel
theorem dL_law_1999 : decode cL_law 1999 = .ok (.aload_n 2, 1) := by decide +kernel
theorem dL_law_2000 : decode cL_law 2000 = .ok (.invokevirtual 131, 3) := by decide +kernel
theorem dL_law_2003 : decode cL_law 2003 = .ok (.iload 5, 2) := by decide +kernel
theorem dL_law_2005 : decode cL_law 2005 = .ok (.if_icmp .eq 5, 3) := by decide +kernel
theorem dL_law_2010 : decode cL_law 2010 = .ok (.iload 5, 2) := by decide +kernel
theorem dL_law_2012 : decode cL_law 2012 = .ok (.ifCond .ne 15, 3) := by decide +kernel
theorem dL_law_2027 : decode cL_law 2027 = .ok (.goto 791, 3) := by decide +kernel
theorem dL_law_2030 : decode cL_law 2030 = .ok (.aload_n 1, 1) := by decide +kernel
theorem dL_law_2031 : decode cL_law 2031 = .ok (.aload_n 0, 1) := by decide +kernel
theorem dL_law_2032 : decode cL_law 2032 = .ok (.iload 4, 2) := by decide +kernel
theorem dL_law_2034 : decode cL_law 2034 = .ok (.iconst 1, 1) := by decide +kernel
theorem dL_law_2035 : decode cL_law 2035 = .ok (.iadd, 1) := by decide +kernel
theorem dL_law_2036 : decode cL_law 2036 = .ok (.iaload, 1) := by decide +kernel
theorem dL_law_2037 : decode cL_law 2037 = .ok (.aload_n 0, 1) := by decide +kernel
theorem dL_law_2038 : decode cL_law 2038 = .ok (.iload 4, 2) := by decide +kernel
theorem dL_law_2040 : decode cL_law 2040 = .ok (.iconst 2, 1) := by decide +kernel
theorem dL_law_2041 : decode cL_law 2041 = .ok (.iadd, 1) := by decide +kernel
theorem dL_law_2042 : decode cL_law 2042 = .ok (.iaload, 1) := by decide +kernel
theorem dL_law_2043 : decode cL_law 2043 = .ok (.aload_n 3, 1) := by decide +kernel
theorem dL_law_2044 : decode cL_law 2044 = .ok (.invokestatic 246, 3) := by decide +kernel
theorem dL_law_2047 : decode cL_law 2047 = .ok (.istore 5, 2) := by decide +kernel
theorem dL_law_2049 : decode cL_law 2049 = .ok (.aload_n 2, 1) := by decide +kernel
theorem dL_law_2050 : decode cL_law 2050 = .ok (.aload_n 0, 1) := by decide +kernel
theorem dL_law_2051 : decode cL_law 2051 = .ok (.iload 4, 2) := by decide +kernel
theorem dL_law_2053 : decode cL_law 2053 = .ok (.iconst 1, 1) := by decide +kernel
theorem dL_law_2054 : decode cL_law 2054 = .ok (.iadd, 1) := by decide +kernel
theorem dL_law_2055 : decode cL_law 2055 = .ok (.iaload, 1) := by decide +kernel
theorem dL_law_2056 : decode cL_law 2056 = .ok (.aload_n 0, 1) := by decide +kernel
theorem dL_law_2057 : decode cL_law 2057 = .ok (.iload 4, 2) := by decide +kernel
theorem dL_law_2059 : decode cL_law 2059 = .ok (.iconst 2, 1) := by decide +kernel
theorem dL_law_2060 : decode cL_law 2060 = .ok (.iadd, 1) := by decide +kernel
theorem dL_law_2061 : decode cL_law 2061 = .ok (.iaload, 1) := by decide +kernel
theorem dL_law_2062 : decode cL_law 2062 = .ok (.invokevirtual 248, 3) := by decide +kernel
theorem dL_law_2065 : decode cL_law 2065 = .ok (.istore 6, 2) := by decide +kernel
theorem dL_law_2067 : decode cL_law 2067 = .ok (.aload_n 2, 1) := by decide +kernel
theorem dL_law_2068 : decode cL_law 2068 = .ok (.invokevirtual 131, 3) := by decide +kernel
theorem dL_law_2071 : decode cL_law 2071 = .ok (.iload 5, 2) := by decide +kernel
theorem dL_law_2073 : decode cL_law 2073 = .ok (.if_icmp .eq 5, 3) := by decide +kernel
theorem dL_law_2078 : decode cL_law 2078 = .ok (.iload 5, 2) := by decide +kernel
theorem dL_law_2080 : decode cL_law 2080 = .ok (.ifCond .ne 15, 3) := by decide +kernel
theorem dL_law_2095 : decode cL_law 2095 = .ok (.goto 723, 3) := by decide +kernel
theorem dL_law_2098 : decode cL_law 2098 = .ok (.aload_n 1, 1) := by decide +kernel
theorem dL_law_2099 : decode cL_law 2099 = .ok (.aload_n 0, 1) := by decide +kernel
theorem dL_law_2100 : decode cL_law 2100 = .ok (.iload 4, 2) := by decide +kernel
theorem dL_law_2102 : decode cL_law 2102 = .ok (.iconst 1, 1) := by decide +kernel
theorem dL_law_2103 : decode cL_law 2103 = .ok (.iadd, 1) := by decide +kernel
theorem dL_law_2104 : decode cL_law 2104 = .ok (.iaload, 1) := by decide +kernel
theorem dL_law_2105 : decode cL_law 2105 = .ok (.aload_n 0, 1) := by decide +kernel
theorem dL_law_2106 : decode cL_law 2106 = .ok (.iload 4, 2) := by decide +kernel
theorem dL_law_2108 : decode cL_law 2108 = .ok (.iconst 2, 1) := by decide +kernel
theorem dL_law_2109 : decode cL_law 2109 = .ok (.iadd, 1) := by decide +kernel
theorem dL_law_2110 : decode cL_law 2110 = .ok (.iaload, 1) := by decide +kernel
theorem dL_law_2111 : decode cL_law 2111 = .ok (.aload_n 3, 1) := by decide +kernel
theorem dL_law_2112 : decode cL_law 2112 = .ok (.invokestatic 249, 3) := by decide +kernel
theorem dL_law_2115 : decode cL_law 2115 = .ok (.istore 5, 2) := by decide +kernel
theorem dL_law_2117 : decode cL_law 2117 = .ok (.aload_n 2, 1) := by decide +kernel
theorem dL_law_2118 : decode cL_law 2118 = .ok (.aload_n 0, 1) := by decide +kernel
theorem dL_law_2119 : decode cL_law 2119 = .ok (.iload 4, 2) := by decide +kernel
theorem dL_law_2121 : decode cL_law 2121 = .ok (.iconst 1, 1) := by decide +kernel
theorem dL_law_2122 : decode cL_law 2122 = .ok (.iadd, 1) := by decide +kernel
theorem dL_law_2123 : decode cL_law 2123 = .ok (.iaload, 1) := by decide +kernel
theorem dL_law_2124 : decode cL_law 2124 = .ok (.aload_n 0, 1) := by decide +kernel
theorem dL_law_2125 : decode cL_law 2125 = .ok (.iload 4, 2) := by decide +kernel
theorem dL_law_2127 : decode cL_law 2127 = .ok (.iconst 2, 1) := by decide +kernel
theorem dL_law_2128 : decode cL_law 2128 = .ok (.iadd, 1) := by decide +kernel
theorem dL_law_2129 : decode cL_law 2129 = .ok (.iaload, 1) := by decide +kernel
theorem dL_law_2130 : decode cL_law 2130 = .ok (.invokevirtual 251, 3) := by decide +kernel
theorem dL_law_2133 : decode cL_law 2133 = .ok (.istore 6, 2) := by decide +kernel
theorem dL_law_2135 : decode cL_law 2135 = .ok (.aload_n 2, 1) := by decide +kernel
theorem dL_law_2136 : decode cL_law 2136 = .ok (.invokevirtual 131, 3) := by decide +kernel
theorem dL_law_2139 : decode cL_law 2139 = .ok (.iload 5, 2) := by decide +kernel
theorem dL_law_2141 : decode cL_law 2141 = .ok (.if_icmp .eq 5, 3) := by decide +kernel
theorem dL_law_2146 : decode cL_law 2146 = .ok (.iload 5, 2) := by decide +kernel
theorem dL_law_2148 : decode cL_law 2148 = .ok (.ifCond .ne 15, 3) := by decide +kernel
theorem dL_law_2163 : decode cL_law 2163 = .ok (.goto 655, 3) := by decide +kernel
theorem dL_law_2166 : decode cL_law 2166 = .ok (.aload_n 1, 1) := by decide +kernel
theorem dL_law_2167 : decode cL_law 2167 = .ok (.aload_n 0, 1) := by decide +kernel
theorem dL_law_2168 : decode cL_law 2168 = .ok (.iload 4, 2) := by decide +kernel
theorem dL_law_2170 : decode cL_law 2170 = .ok (.iconst 1, 1) := by decide +kernel
theorem dL_law_2171 : decode cL_law 2171 = .ok (.iadd, 1) := by decide +kernel
theorem dL_law_2172 : decode cL_law 2172 = .ok (.iaload, 1) := by decide +kernel
theorem dL_law_2173 : decode cL_law 2173 = .ok (.aload_n 0, 1) := by decide +kernel
theorem dL_law_2174 : decode cL_law 2174 = .ok (.iload 4, 2) := by decide +kernel
theorem dL_law_2176 : decode cL_law 2176 = .ok (.iconst 2, 1) := by decide +kernel
theorem dL_law_2177 : decode cL_law 2177 = .ok (.iadd, 1) := by decide +kernel
theorem dL_law_2178 : decode cL_law 2178 = .ok (.iaload, 1) := by decide +kernel
theorem dL_law_2179 : decode cL_law 2179 = .ok (.aload_n 3, 1) := by decide +kernel
theorem dL_law_2180 : decode cL_law 2180 = .ok (.invokestatic 252, 3) := by decide +kernel
theorem dL_law_2183 : decode cL_law 2183 = .ok (.istore 5, 2) := by decide +kernel
theorem dL_law_2185 : decode cL_law 2185 = .ok (.aload_n 2, 1) := by decide +kernel
theorem dL_law_2186 : decode cL_law 2186 = .ok (.aload_n 0, 1) := by decide +kernel
theorem dL_law_2187 : decode cL_law 2187 = .ok (.iload 4, 2) := by decide +kernel
theorem dL_law_2189 : decode cL_law 2189 = .ok (.iconst 1, 1) := by decide +kernel
theorem dL_law_2190 : decode cL_law 2190 = .ok (.iadd, 1) := by decide +kernel
theorem dL_law_2191 : decode cL_law 2191 = .ok (.iaload, 1) := by decide +kernel
theorem dL_law_2192 : decode cL_law 2192 = .ok (.aload_n 0, 1) := by decide +kernel
theorem dL_law_2193 : decode cL_law 2193 = .ok (.iload 4, 2) := by decide +kernel
theorem dL_law_2195 : decode cL_law 2195 = .ok (.iconst 2, 1) := by decide +kernel
theorem dL_law_2196 : decode cL_law 2196 = .ok (.iadd, 1) := by decide +kernel
theorem dL_law_2197 : decode cL_law 2197 = .ok (.iaload, 1) := by decide +kernel
theorem dL_law_2198 : decode cL_law 2198 = .ok (.invokevirtual 254, 3) := by decide +kernel
theorem dL_law_2201 : decode cL_law 2201 = .ok (.istore 6, 2) := by decide +kernel
theorem dL_law_2203 : decode cL_law 2203 = .ok (.aload_n 2, 1) := by decide +kernel
theorem dL_law_2204 : decode cL_law 2204 = .ok (.invokevirtual 131, 3) := by decide +kernel
theorem dL_law_2207 : decode cL_law 2207 = .ok (.iload 5, 2) := by decide +kernel
theorem dL_law_2209 : decode cL_law 2209 = .ok (.if_icmp .eq 5, 3) := by decide +kernel
theorem dL_law_2214 : decode cL_law 2214 = .ok (.iload 5, 2) := by decide +kernel
theorem dL_law_2216 : decode cL_law 2216 = .ok (.ifCond .ne 15, 3) := by decide +kernel
theorem dL_law_2231 : decode cL_law 2231 = .ok (.goto 587, 3) := by decide +kernel
theorem qw844 : Cond.methodLink RL 220 yX11_same ∈ gw := mq_8 (i := 7) rfl rfl
theorem qw845 : Cond.code yX24_same cX24_same 1 (Option.some Jvm.ClassFile.FieldType.int) ∈ gw := mq_17 (i := 91) rfl rfl
theorem qw846 : Cond.methodLink RL 223 yX24_same ∈ gw := mq_17 (i := 88) rfl rfl
theorem qw847 : Cond.instanceMethod yX24_same ∈ gw := mq_17 (i := 89) rfl rfl
theorem qw848 : Cond.selects RX24 yX24_same yX24_same ∈ gw := mq_17 (i := 90) rfl rfl
theorem qw849 : Cond.methodLink RL 224 yX11_drop ∈ gw := mq_8 (i := 89) rfl rfl
theorem qw850 : Cond.code yX24_drop cX24_drop 1 (Option.some Jvm.ClassFile.FieldType.int) ∈ gw := mq_17 (i := 95) rfl rfl
theorem qw851 : Cond.methodLink RL 227 yX24_drop ∈ gw := mq_17 (i := 92) rfl rfl
theorem qw852 : Cond.instanceMethod yX24_drop ∈ gw := mq_17 (i := 93) rfl rfl
theorem qw853 : Cond.selects RX24 yX24_drop yX24_drop ∈ gw := mq_17 (i := 94) rfl rfl
theorem qw854 : Cond.methodLink RL 228 yX11_lift ∈ gw := mq_8 (i := 125) rfl rfl
theorem qw855 : Cond.code yX24_lift cX24_lift 1 (Option.some Jvm.ClassFile.FieldType.int) ∈ gw := mq_17 (i := 99) rfl rfl
theorem qw856 : Cond.methodLink RL 231 yX24_lift ∈ gw := mq_17 (i := 96) rfl rfl
theorem qw857 : Cond.instanceMethod yX24_lift ∈ gw := mq_17 (i := 97) rfl rfl
theorem qw858 : Cond.selects RX24 yX24_lift yX24_lift ∈ gw := mq_17 (i := 98) rfl rfl
theorem qw859 : Cond.methodLink RL 232 yX11_merge ∈ gw := mq_8 (i := 144) rfl rfl
theorem qw860 : Cond.code yX24_merge cX24_merge 1 (Option.some Jvm.ClassFile.FieldType.int) ∈ gw := mq_17 (i := 103) rfl rfl
theorem qw861 : Cond.methodLink RL 235 yX24_merge ∈ gw := mq_17 (i := 100) rfl rfl
theorem qw862 : Cond.instanceMethod yX24_merge ∈ gw := mq_17 (i := 101) rfl rfl
theorem qw863 : Cond.selects RX24 yX24_merge yX24_merge ∈ gw := mq_17 (i := 102) rfl rfl
theorem qw864 : Cond.code yX11_settle cX11_settle 5 (Option.some Jvm.ClassFile.FieldType.int) ∈ gw := mq_8 (i := 167) rfl rfl
theorem qw865 : Cond.methodLink RL 236 yX11_settle ∈ gw := mq_8 (i := 164) rfl rfl
theorem qw866 : Cond.instanceMethod yX11_settle ∈ gw := mq_8 (i := 165) rfl rfl
theorem qw867 : Cond.selects RX11 yX11_settle yX11_settle ∈ gw := mq_8 (i := 166) rfl rfl
theorem qw868 : Cond.code yX24_settle cX24_settle 4 (Option.some Jvm.ClassFile.FieldType.int) ∈ gw := mq_17 (i := 107) rfl rfl
theorem qw869 : Cond.methodLink RL 239 yX24_settle ∈ gw := mq_17 (i := 104) rfl rfl
theorem qw870 : Cond.instanceMethod yX24_settle ∈ gw := mq_17 (i := 105) rfl rfl
theorem qw871 : Cond.selects RX24 yX24_settle yX24_settle ∈ gw := mq_17 (i := 106) rfl rfl
theorem qw872 : Cond.codeWith yL_allocate cL_allocate 4 (Option.some Jvm.ClassFile.FieldType.int) [(0, 9, 12, 19), (0, 9, 15, 13)] ∈ gw := mq_9 (i := 207) rfl rfl
theorem qw873 : Cond.methodLink RL 240 yL_allocate ∈ gw := mq_9 (i := 205) rfl rfl
theorem qw874 : Cond.static yL_allocate ∈ gw := mq_9 (i := 206) rfl rfl
theorem qw875 : Cond.code yX24_allocate cX24_allocate 6 (Option.some Jvm.ClassFile.FieldType.int) ∈ gw := mq_17 (i := 111) rfl rfl
theorem qw876 : Cond.methodLink RL 242 yX24_allocate ∈ gw := mq_17 (i := 108) rfl rfl
theorem qw877 : Cond.instanceMethod yX24_allocate ∈ gw := mq_17 (i := 109) rfl rfl
theorem qw878 : Cond.selects RX24 yX24_allocate yX24_allocate ∈ gw := mq_17 (i := 110) rfl rfl
theorem qw879 : Cond.codeWith yL_lines cL_lines 4 (Option.some Jvm.ClassFile.FieldType.int) [(0, 9, 12, 24)] ∈ gw := mq_10 (i := 198) rfl rfl
theorem qw880 : Cond.methodLink RL 243 yL_lines ∈ gw := mq_10 (i := 196) rfl rfl
theorem qw881 : Cond.static yL_lines ∈ gw := mq_10 (i := 197) rfl rfl
theorem qw882 : Cond.code yX24_lines cX24_lines 2 (Option.some Jvm.ClassFile.FieldType.int) ∈ gw := mq_18 (i := 125) rfl rfl
theorem qw883 : Cond.methodLink RL 245 yX24_lines ∈ gw := mq_18 (i := 122) rfl rfl
theorem qw884 : Cond.instanceMethod yX24_lines ∈ gw := mq_18 (i := 123) rfl rfl
theorem qw885 : Cond.selects RX24 yX24_lines yX24_lines ∈ gw := mq_18 (i := 124) rfl rfl
theorem qw886 : Cond.codeWith yL_codeKind cL_codeKind 5 (Option.some Jvm.ClassFile.FieldType.int) [(0, 10, 13, 24)] ∈ gw := mq_10 (i := 205) rfl rfl
theorem qw887 : Cond.methodLink RL 246 yL_codeKind ∈ gw := mq_10 (i := 203) rfl rfl
theorem qw888 : Cond.static yL_codeKind ∈ gw := mq_10 (i := 204) rfl rfl
theorem qw889 : Cond.code yX24_codeKind cX24_codeKind 3 (Option.some Jvm.ClassFile.FieldType.int) ∈ gw := mq_18 (i := 133) rfl rfl
theorem qw890 : Cond.methodLink RL 248 yX24_codeKind ∈ gw := mq_18 (i := 130) rfl rfl
theorem qw891 : Cond.instanceMethod yX24_codeKind ∈ gw := mq_18 (i := 131) rfl rfl
theorem qw892 : Cond.selects RX24 yX24_codeKind yX24_codeKind ∈ gw := mq_18 (i := 132) rfl rfl
theorem qw893 : Cond.codeWith yL_codeGives cL_codeGives 5 (Option.some Jvm.ClassFile.FieldType.int) [(0, 10, 13, 24)] ∈ gw := mq_10 (i := 216) rfl rfl
theorem qw894 : Cond.methodLink RL 249 yL_codeGives ∈ gw := mq_10 (i := 214) rfl rfl
theorem qw895 : Cond.static yL_codeGives ∈ gw := mq_10 (i := 215) rfl rfl
theorem qw896 : Cond.code yX24_codeGives cX24_codeGives 3 (Option.some Jvm.ClassFile.FieldType.int) ∈ gw := mq_18 (i := 142) rfl rfl
theorem qw897 : Cond.methodLink RL 251 yX24_codeGives ∈ gw := mq_18 (i := 139) rfl rfl
theorem qw898 : Cond.instanceMethod yX24_codeGives ∈ gw := mq_18 (i := 140) rfl rfl
theorem qw899 : Cond.selects RX24 yX24_codeGives yX24_codeGives ∈ gw := mq_18 (i := 141) rfl rfl
theorem qw900 : Cond.codeWith yL_codeLeft cL_codeLeft 5 (Option.some Jvm.ClassFile.FieldType.int) [(0, 10, 13, 24)] ∈ gw := mq_10 (i := 223) rfl rfl
theorem qw901 : Cond.methodLink RL 252 yL_codeLeft ∈ gw := mq_10 (i := 221) rfl rfl
theorem qw902 : Cond.static yL_codeLeft ∈ gw := mq_10 (i := 222) rfl rfl
theorem qw903 : Cond.code yX24_codeLeft cX24_codeLeft 3 (Option.some Jvm.ClassFile.FieldType.int) ∈ gw := mq_18 (i := 146) rfl rfl
theorem qw904 : Cond.methodLink RL 254 yX24_codeLeft ∈ gw := mq_18 (i := 143) rfl rfl
theorem qw905 : Cond.instanceMethod yX24_codeLeft ∈ gw := mq_18 (i := 144) rfl rfl
theorem qw906 : Cond.selects RX24 yX24_codeLeft yX24_codeLeft ∈ gw := mq_18 (i := 145) rfl rfl
set_option maxHeartbeats 4000000 in
set_option maxRecDepth 100000 in
theorem law_26 {zs : Nat × Nat} {p : Program} {e : Env} {s : State} {m : MethodId} {below : List Frame} {meth : Method} {c : Code} {l : Launch} {b : Nat} {xs : Nat → Int32} {dC : Nat → ClassId} {dI : Nat → Nat → Nat} {A : Nat → Prop} (C0 : lw_At p s m meth c b 7 xs) (hl9 : l.stackTraces = false) (hA : ∀ q, s.heap.size ≤ q → A q) (hA2 : ∀ q, A q → s.heap.size ≤ q) (hE : ENV zs A s s.heap) {H : Heap} {locs : List Loc} (q1 : Nat) (q2 : Nat) (q5 : Nat) (q14 : Nat) (q15 : Nat) (q16 : Nat) (q17 : Nat) (q29 : Nat) (q30 : Nat) (q31 : Nat) (q32 : Nat) (q33 : Nat) (q34 : Nat) (q35 : Nat) (q36 : Nat) (q37 : Nat) (q38 : Nat) (q39 : Nat) (q40 : Nat) (q51 : Nat) (q63 : Nat) (q64 : Nat) (q65 : Nat) (q67 : Nat) (q68 : Nat) (c69 : ClassId) (q70 : Nat) (q72 : Nat) (q86 : Nat) (q87 : Nat) (hP : va_P (dC, dI) cls [(q1, .inr (11, [.ref q2, .ref q5, .ref q14, .ref q15, .ref q16, .ref q17, .ref q51, .ref q63, .ref q29, .ref q40, .int (-1)])), (q29, .inr (2, [.int 0, .ref q30, .ref q31, .ref q32, .ref q33, .ref q34, .ref q35, .int 0, .ref q36, .ref q37, .ref q38, .int 0, .ref q39])), (q64, .inr (15, [.ref q65, .int 0, .int (-1), .int 0, .ref q67, .ref q68, .ref q70, .ref q72, .ref q86])), (q68, .inl (c69, 0, .inr (.inr (.inr (.inr (fun _ => none))))))] H) (hD : va_D A [(q1, .inr (11, [.ref q2, .ref q5, .ref q14, .ref q15, .ref q16, .ref q17, .ref q51, .ref q63, .ref q29, .ref q40, .int (-1)])), (q29, .inr (2, [.int 0, .ref q30, .ref q31, .ref q32, .ref q33, .ref q34, .ref q35, .int 0, .ref q36, .ref q37, .ref q38, .int 0, .ref q39])), (q64, .inr (15, [.ref q65, .int 0, .int (-1), .int 0, .ref q67, .ref q68, .ref q70, .ref q72, .ref q86])), (q68, .inl (c69, 0, .inr (.inr (.inr (.inr (fun _ => none))))))]) (hK : va_K (dC, dI) cls [(c69, .object RX14)] s) (hS : va_S A s.heap H locs) {ls : Array Slot} (hl : lv_has ls 9 [(4, .int 0), (3, .ref q87), (2, .ref q64), (1, .ref q1), (0, .ref b)])  : W p l e room_1 s m #[Value.ref b] below meth c H locs 369 122514 (lw_Z below #[Value.ref b] s) (F0 m 1853 ls []) := by
  obtain ⟨hx, hb, hr, hml, hown, hts0, hX, hbl, hlocks, hgv⟩ := id C0
  have hts : ∀ w ∈ gw, w.before #[Value.ref b] s = true := fun w h => hts0 w (gw_tbl h)
  have hbA : ¬ A b := fun h => absurd (hA2 b h) (Nat.not_le.mpr hbl)
  refine lv_aload_n hx hb dL_law_1853 rfl (lv_at hl 3 rfl) ?_
  have hPc := hP.sub (ws' := [(q1, .inr (11, [.ref q2, .ref q5, .ref q14, .ref q15, .ref q16, .ref q17, .ref q51, .ref q63, .ref q29, .ref q40, .int (-1)])), (q29, .inr (2, [.int 0, .ref q30, .ref q31, .ref q32, .ref q33, .ref q34, .ref q35, .int 0, .ref q36, .ref q37, .ref q38, .int 0, .ref q39]))]) [0, 1] rfl
  have hDc := hD.sub (ws' := [(q1, .inr (11, [.ref q2, .ref q5, .ref q14, .ref q15, .ref q16, .ref q17, .ref q51, .ref q63, .ref q29, .ref q40, .int (-1)])), (q29, .inr (2, [.int 0, .ref q30, .ref q31, .ref q32, .ref q33, .ref q34, .ref q35, .int 0, .ref q36, .ref q37, .ref q38, .int 0, .ref q39]))]) [0, 1] (by decide) rfl
  have hKc := hK.sub (tys' := []) [] rfl
  have hFc := va_free (wc := [(q1, .inr (11, [.ref q2, .ref q5, .ref q14, .ref q15, .ref q16, .ref q17, .ref q51, .ref q63, .ref q29, .ref q40, .int (-1)])), (q29, .inr (2, [.int 0, .ref q30, .ref q31, .ref q32, .ref q33, .ref q34, .ref q35, .int 0, .ref q36, .ref q37, .ref q38, .int 0, .ref q39]))]) hD hS hA [0, 1] rfl
  refine va_calli (va_runV (As := []) (rest := []) ⟨hx, hb, hml, hown, hts⟩ (kX11_same l dC dI (gx := q1) (gq1 := q2) (gq4 := q5) (gq13 := q14) (gq136 := q15) (gq137 := q16) (gq138 := q17) (gq150 := q29) (gq151 := q30) (gq152 := q31) (gq153 := q32) (gq154 := q33) (gq155 := q34) (gq156 := q35) (gq157 := q36) (gq158 := q37) (gq159 := q38) (gq160 := q39) (gq161 := q40) (gq172 := q51) (gq184 := q63) (sz := _)) (cwV 0 hts (gi_V qw844 qw225 qw226 qw222 (gi_z qw223)) rfl rfl rfl (by decide +kernel) ⟨Nat.le_of_ble_eq_true rfl, Nat.le_of_ble_eq_true rfl⟩) ⟨PRE.blind, va_recv hKc hPc (ci := 11) (q0 := 0) rfl rfl, PRE.of hE hS hFc hPc hKc hDc⟩ rfl rfl hl.1 rfl (lv_room (Nat.le_of_ble_eq_true rfl)) dL_law_1854 ⟨Nat.le_of_ble_eq_true rfl, Nat.le_of_ble_eq_true rfl⟩) hS (fun q _ h => hFc q h) hFc (fun r90 u t H locs ht hvm hw hB hz1 hk1 hS => ?_)
  obtain ⟨hP, hD, hK⟩ := JOIN (wr := [(q64, .inr (15, [.ref q65, .int 0, .int (-1), .int 0, .ref q67, .ref q68, .ref q70, .ref q72, .ref q86])), (q68, .inl (c69, 0, .inr (.inr (.inr (.inr (fun _ => none))))))]) hP hD hK [0, 1] [2, 3] [0] rfl rfl (by decide) (by decide) rfl hk1 hFc ht hvm hB
  have hP : va_P (dC, dI) cls [(q64, .inr (15, [.ref q65, .int 0, .int (-1), .int 0, .ref q67, .ref q68, .ref q70, .ref q72, .ref q86])), (q68, .inl (c69, 0, .inr (.inr (.inr (.inr (fun _ => none)))))), (q1, .inr (11, [.ref q2, .ref q5, .ref q14, .ref q15, .ref q16, .ref q17, .ref q51, .ref q63, .ref q29, .ref q40, .int (-1)])), (q29, .inr (2, [.int 0, .ref q30, .ref q31, .ref q32, .ref q33, .ref q34, .ref q35, .int 0, .ref q36, .ref q37, .ref q38, .int 0, .ref q39]))] H := hP
  have hD : va_D A [(q64, .inr (15, [.ref q65, .int 0, .int (-1), .int 0, .ref q67, .ref q68, .ref q70, .ref q72, .ref q86])), (q68, .inl (c69, 0, .inr (.inr (.inr (.inr (fun _ => none)))))), (q1, .inr (11, [.ref q2, .ref q5, .ref q14, .ref q15, .ref q16, .ref q17, .ref q51, .ref q63, .ref q29, .ref q40, .int (-1)])), (q29, .inr (2, [.int 0, .ref q30, .ref q31, .ref q32, .ref q33, .ref q34, .ref q35, .int 0, .ref q36, .ref q37, .ref q38, .int 0, .ref q39]))] := hD
  have hK : va_K (dC, dI) cls [(c69, .object RX14)] s := hK
  refine W.widen (k := 369) (n := 122514) (Nat.le_of_ble_eq_true rfl) (Nat.le_of_ble_eq_true rfl) ?_
  obtain rfl : r90 = 0 := hw
  refine lv_aload_n hx hb dL_law_1857 rfl (lv_at hl 2 rfl) ?_
  have hPc := hP.sub (ws' := [(q64, .inr (15, [.ref q65, .int 0, .int (-1), .int 0, .ref q67, .ref q68, .ref q70, .ref q72, .ref q86])), (q68, .inl (c69, 0, .inr (.inr (.inr (.inr (fun _ => none))))))]) [0, 1] rfl
  have hDc := hD.sub (ws' := [(q64, .inr (15, [.ref q65, .int 0, .int (-1), .int 0, .ref q67, .ref q68, .ref q70, .ref q72, .ref q86])), (q68, .inl (c69, 0, .inr (.inr (.inr (.inr (fun _ => none))))))]) [0, 1] (by decide) rfl
  have hKc := hK.sub (tys' := [(c69, .object RX14)]) [0] rfl
  have hFc := va_free (wc := [(q64, .inr (15, [.ref q65, .int 0, .int (-1), .int 0, .ref q67, .ref q68, .ref q70, .ref q72, .ref q86])), (q68, .inl (c69, 0, .inr (.inr (.inr (.inr (fun _ => none))))))]) hD hS hA [0, 1] rfl
  refine va_calli (va_runV (As := []) (rest := [.int 0]) ⟨hx, hb, hml, hown, hts⟩ (kX24_same l dC dI (mx := q64) (mq1 := q65) (mq3 := q67) (mq4 := q68) (mc5 := c69) (mq6 := q70) (mq8 := q72) (mq22 := q86) (sz := _)) (cwV 0 hts (gi_V qw846 qw847 qw848 qw434 (gi_z qw845)) rfl rfl rfl (by decide +kernel) ⟨Nat.le_of_ble_eq_true rfl, Nat.le_of_ble_eq_true rfl⟩) ⟨PRE.blind, va_recv hKc hPc (ci := 15) (q0 := 0) rfl rfl, PRE.of hE hS hFc hPc hKc hDc⟩ rfl rfl hl.1 rfl (lv_room (Nat.le_of_ble_eq_true rfl)) dL_law_1858 ⟨Nat.le_of_ble_eq_true rfl, Nat.le_of_ble_eq_true rfl⟩) hS (fun q _ h => hFc q h) hFc (fun r91 u t H locs ht hvm hw hB hz1 hk1 hS => ?_)
  obtain ⟨hP, hD, hK⟩ := JOIN (wr := [(q1, .inr (11, [.ref q2, .ref q5, .ref q14, .ref q15, .ref q16, .ref q17, .ref q51, .ref q63, .ref q29, .ref q40, .int (-1)])), (q29, .inr (2, [.int 0, .ref q30, .ref q31, .ref q32, .ref q33, .ref q34, .ref q35, .int 0, .ref q36, .ref q37, .ref q38, .int 0, .ref q39]))]) hP hD hK [0, 1] [2, 3] [] rfl rfl (by decide) (by decide) rfl hk1 hFc ht hvm hB
  have hP : va_P (dC, dI) cls [(q1, .inr (11, [.ref q2, .ref q5, .ref q14, .ref q15, .ref q16, .ref q17, .ref q51, .ref q63, .ref q29, .ref q40, .int (-1)])), (q29, .inr (2, [.int 0, .ref q30, .ref q31, .ref q32, .ref q33, .ref q34, .ref q35, .int 0, .ref q36, .ref q37, .ref q38, .int 0, .ref q39])), (q64, .inr (15, [.ref q65, .int 0, .int (-1), .int 0, .ref q67, .ref q68, .ref q70, .ref q72, .ref q86]))] H := hP
  have hD : va_D A [(q1, .inr (11, [.ref q2, .ref q5, .ref q14, .ref q15, .ref q16, .ref q17, .ref q51, .ref q63, .ref q29, .ref q40, .int (-1)])), (q29, .inr (2, [.int 0, .ref q30, .ref q31, .ref q32, .ref q33, .ref q34, .ref q35, .int 0, .ref q36, .ref q37, .ref q38, .int 0, .ref q39])), (q64, .inr (15, [.ref q65, .int 0, .int (-1), .int 0, .ref q67, .ref q68, .ref q70, .ref q72, .ref q86]))] := hD
  have hK : va_K (dC, dI) cls [] s := hK
  refine W.widen (k := 369) (n := 122514) (Nat.le_of_ble_eq_true rfl) (Nat.le_of_ble_eq_true rfl) ?_
  obtain rfl : r91 = 0 := hw
  refine lv_icmp_eq (tgt := 2818) hx hb dL_law_1861 (by decide) (fun _ => ?_) (fun c => absurd (by decide) c)
  refine lv_iinc (v := 7) (lv' := [(4, .int 7), (3, .ref q87), (2, .ref q64), (1, .ref q1), (0, .ref b)]) hx hb dL_law_2818 hl (k := 0) rfl (by decide) (by decide) rfl (fun ls hl => ?_)
  refine lv_goto (tgt := 23) hx hb dL_law_2821 (by decide) ?_
  refine lv_iload hx hb dL_law_23 (lv_at hl 0 rfl) ?_
  refine lv_aload_n hx hb dL_law_25 rfl (lv_at hl 4 rfl) ?_
  refine va_slen hx hb hX hbl hbA hS dL_law_26 ?_
  refine lv_topC (y := 7) rfl ?_
  refine lv_bipush (v := 7) hx hb dL_law_27 (by decide) ?_
  refine lv_isub hx hb dL_law_29 ?_
  refine lv_topC (y := 0) (by decide) ?_
  refine lv_icmp_gt (tgt := 2824) hx hb dL_law_30 (by decide) (fun _ => ?_) (fun c => absurd (by decide) c)
  refine lv_iconst (v := 1) hx hb dL_law_2824 (by decide) ?_
  refine va_forget (fun q hq => hA2 _ (hS.2.2 q hq)) ?_
  refine W.widen (k := 600002) (n := 7302232) (Nat.le_of_ble_eq_true rfl) (Nat.le_of_ble_eq_true rfl) ?_
  exact lw_ret (d0 := s.drawn) (Drawn.sameBut.refl s.drawn lw_cs) hx hb hr hlocks dL_law_2825
set_option maxHeartbeats 4000000 in
set_option maxRecDepth 100000 in
theorem law_27 {zs : Nat × Nat} {p : Program} {e : Env} {s : State} {m : MethodId} {below : List Frame} {meth : Method} {c : Code} {l : Launch} {b : Nat} {xs : Nat → Int32} {dC : Nat → ClassId} {dI : Nat → Nat → Nat} {A : Nat → Prop} (C0 : lw_At p s m meth c b 7 xs) (hl9 : l.stackTraces = false) (hA : ∀ q, s.heap.size ≤ q → A q) (hA2 : ∀ q, A q → s.heap.size ≤ q) (hE : ENV zs A s s.heap) {H : Heap} {locs : List Loc} (q1 : Nat) (q2 : Nat) (q5 : Nat) (q14 : Nat) (q15 : Nat) (q16 : Nat) (q17 : Nat) (q29 : Nat) (q30 : Nat) (q31 : Nat) (q32 : Nat) (q33 : Nat) (q34 : Nat) (q35 : Nat) (q36 : Nat) (q37 : Nat) (q38 : Nat) (q39 : Nat) (q40 : Nat) (q51 : Nat) (q63 : Nat) (q64 : Nat) (q65 : Nat) (q67 : Nat) (q68 : Nat) (c69 : ClassId) (q70 : Nat) (q72 : Nat) (q86 : Nat) (q87 : Nat) (hP : va_P (dC, dI) cls [(q1, .inr (11, [.ref q2, .ref q5, .ref q14, .ref q15, .ref q16, .ref q17, .ref q51, .ref q63, .ref q29, .ref q40, .int (-1)])), (q29, .inr (2, [.int 0, .ref q30, .ref q31, .ref q32, .ref q33, .ref q34, .ref q35, .int 0, .ref q36, .ref q37, .ref q38, .int 0, .ref q39])), (q64, .inr (15, [.ref q65, .int 0, .int (-1), .int 0, .ref q67, .ref q68, .ref q70, .ref q72, .ref q86])), (q68, .inl (c69, 0, .inr (.inr (.inr (.inr (fun _ => none))))))] H) (hD : va_D A [(q1, .inr (11, [.ref q2, .ref q5, .ref q14, .ref q15, .ref q16, .ref q17, .ref q51, .ref q63, .ref q29, .ref q40, .int (-1)])), (q29, .inr (2, [.int 0, .ref q30, .ref q31, .ref q32, .ref q33, .ref q34, .ref q35, .int 0, .ref q36, .ref q37, .ref q38, .int 0, .ref q39])), (q64, .inr (15, [.ref q65, .int 0, .int (-1), .int 0, .ref q67, .ref q68, .ref q70, .ref q72, .ref q86])), (q68, .inl (c69, 0, .inr (.inr (.inr (.inr (fun _ => none))))))]) (hK : va_K (dC, dI) cls [(c69, .object RX14)] s) (hS : va_S A s.heap H locs) {ls : Array Slot} (hl : lv_has ls 9 [(4, .int 0), (3, .ref q87), (2, .ref q64), (1, .ref q1), (0, .ref b)])  : W p l e room_1 s m #[Value.ref b] below meth c H locs 369 122514 (lw_Z below #[Value.ref b] s) (F0 m 1866 ls []) := by
  obtain ⟨hx, hb, hr, hml, hown, hts0, hX, hbl, hlocks, hgv⟩ := id C0
  have hts : ∀ w ∈ gw, w.before #[Value.ref b] s = true := fun w h => hts0 w (gw_tbl h)
  have hbA : ¬ A b := fun h => absurd (hA2 b h) (Nat.not_le.mpr hbl)
  refine lv_aload_n hx hb dL_law_1866 rfl (lv_at hl 3 rfl) ?_
  have hPc := hP.sub (ws' := [(q1, .inr (11, [.ref q2, .ref q5, .ref q14, .ref q15, .ref q16, .ref q17, .ref q51, .ref q63, .ref q29, .ref q40, .int (-1)])), (q29, .inr (2, [.int 0, .ref q30, .ref q31, .ref q32, .ref q33, .ref q34, .ref q35, .int 0, .ref q36, .ref q37, .ref q38, .int 0, .ref q39]))]) [0, 1] rfl
  have hDc := hD.sub (ws' := [(q1, .inr (11, [.ref q2, .ref q5, .ref q14, .ref q15, .ref q16, .ref q17, .ref q51, .ref q63, .ref q29, .ref q40, .int (-1)])), (q29, .inr (2, [.int 0, .ref q30, .ref q31, .ref q32, .ref q33, .ref q34, .ref q35, .int 0, .ref q36, .ref q37, .ref q38, .int 0, .ref q39]))]) [0, 1] (by decide) rfl
  have hKc := hK.sub (tys' := []) [] rfl
  have hFc := va_free (wc := [(q1, .inr (11, [.ref q2, .ref q5, .ref q14, .ref q15, .ref q16, .ref q17, .ref q51, .ref q63, .ref q29, .ref q40, .int (-1)])), (q29, .inr (2, [.int 0, .ref q30, .ref q31, .ref q32, .ref q33, .ref q34, .ref q35, .int 0, .ref q36, .ref q37, .ref q38, .int 0, .ref q39]))]) hD hS hA [0, 1] rfl
  refine va_calli (va_runV (As := []) (rest := []) ⟨hx, hb, hml, hown, hts⟩ (kX11_drop l dC dI (gx := q1) (gq1 := q2) (gq4 := q5) (gq13 := q14) (gq136 := q15) (gq137 := q16) (gq138 := q17) (gq150 := q29) (gq151 := q30) (gq152 := q31) (gq153 := q32) (gq154 := q33) (gq155 := q34) (gq156 := q35) (gq157 := q36) (gq158 := q37) (gq159 := q38) (gq160 := q39) (gq161 := q40) (gq172 := q51) (gq184 := q63) (sz := _)) (cwV 0 hts (gi_V qw849 qw229 qw230 qw222 (gi_z qw227)) rfl rfl rfl (by decide +kernel) ⟨Nat.le_of_ble_eq_true rfl, Nat.le_of_ble_eq_true rfl⟩) ⟨PRE.blind, va_recv hKc hPc (ci := 11) (q0 := 0) rfl rfl, PRE.of hE hS hFc hPc hKc hDc⟩ rfl rfl hl.1 rfl (lv_room (Nat.le_of_ble_eq_true rfl)) dL_law_1867 ⟨Nat.le_of_ble_eq_true rfl, Nat.le_of_ble_eq_true rfl⟩) hS (fun q _ h => hFc q h) hFc (fun r90 u t H locs ht hvm hw hB hz1 hk1 hS => ?_)
  obtain ⟨hP, hD, hK⟩ := JOIN (wr := [(q64, .inr (15, [.ref q65, .int 0, .int (-1), .int 0, .ref q67, .ref q68, .ref q70, .ref q72, .ref q86])), (q68, .inl (c69, 0, .inr (.inr (.inr (.inr (fun _ => none))))))]) hP hD hK [0, 1] [2, 3] [0] rfl rfl (by decide) (by decide) rfl hk1 hFc ht hvm hB
  have hP : va_P (dC, dI) cls [(q64, .inr (15, [.ref q65, .int 0, .int (-1), .int 0, .ref q67, .ref q68, .ref q70, .ref q72, .ref q86])), (q68, .inl (c69, 0, .inr (.inr (.inr (.inr (fun _ => none)))))), (q1, .inr (11, [.ref q2, .ref q5, .ref q14, .ref q15, .ref q16, .ref q17, .ref q51, .ref q63, .ref q29, .ref q40, .int (-1)])), (q29, .inr (2, [.int 0, .ref q30, .ref q31, .ref q32, .ref q33, .ref q34, .ref q35, .int 0, .ref q36, .ref q37, .ref q38, .int 0, .ref q39]))] H := hP
  have hD : va_D A [(q64, .inr (15, [.ref q65, .int 0, .int (-1), .int 0, .ref q67, .ref q68, .ref q70, .ref q72, .ref q86])), (q68, .inl (c69, 0, .inr (.inr (.inr (.inr (fun _ => none)))))), (q1, .inr (11, [.ref q2, .ref q5, .ref q14, .ref q15, .ref q16, .ref q17, .ref q51, .ref q63, .ref q29, .ref q40, .int (-1)])), (q29, .inr (2, [.int 0, .ref q30, .ref q31, .ref q32, .ref q33, .ref q34, .ref q35, .int 0, .ref q36, .ref q37, .ref q38, .int 0, .ref q39]))] := hD
  have hK : va_K (dC, dI) cls [(c69, .object RX14)] s := hK
  refine W.widen (k := 369) (n := 122514) (Nat.le_of_ble_eq_true rfl) (Nat.le_of_ble_eq_true rfl) ?_
  obtain rfl : r90 = 0 := hw
  refine lv_aload_n hx hb dL_law_1870 rfl (lv_at hl 2 rfl) ?_
  have hPc := hP.sub (ws' := [(q64, .inr (15, [.ref q65, .int 0, .int (-1), .int 0, .ref q67, .ref q68, .ref q70, .ref q72, .ref q86])), (q68, .inl (c69, 0, .inr (.inr (.inr (.inr (fun _ => none))))))]) [0, 1] rfl
  have hDc := hD.sub (ws' := [(q64, .inr (15, [.ref q65, .int 0, .int (-1), .int 0, .ref q67, .ref q68, .ref q70, .ref q72, .ref q86])), (q68, .inl (c69, 0, .inr (.inr (.inr (.inr (fun _ => none))))))]) [0, 1] (by decide) rfl
  have hKc := hK.sub (tys' := [(c69, .object RX14)]) [0] rfl
  have hFc := va_free (wc := [(q64, .inr (15, [.ref q65, .int 0, .int (-1), .int 0, .ref q67, .ref q68, .ref q70, .ref q72, .ref q86])), (q68, .inl (c69, 0, .inr (.inr (.inr (.inr (fun _ => none))))))]) hD hS hA [0, 1] rfl
  refine va_calli (va_runV (As := []) (rest := [.int 0]) ⟨hx, hb, hml, hown, hts⟩ (kX24_drop l dC dI (mx := q64) (mq1 := q65) (mq3 := q67) (mq4 := q68) (mc5 := c69) (mq6 := q70) (mq8 := q72) (mq22 := q86) (sz := _)) (cwV 0 hts (gi_V qw851 qw852 qw853 qw434 (gi_z qw850)) rfl rfl rfl (by decide +kernel) ⟨Nat.le_of_ble_eq_true rfl, Nat.le_of_ble_eq_true rfl⟩) ⟨PRE.blind, va_recv hKc hPc (ci := 15) (q0 := 0) rfl rfl, PRE.of hE hS hFc hPc hKc hDc⟩ rfl rfl hl.1 rfl (lv_room (Nat.le_of_ble_eq_true rfl)) dL_law_1871 ⟨Nat.le_of_ble_eq_true rfl, Nat.le_of_ble_eq_true rfl⟩) hS (fun q _ h => hFc q h) hFc (fun r91 u t H locs ht hvm hw hB hz1 hk1 hS => ?_)
  obtain ⟨hP, hD, hK⟩ := JOIN (wr := [(q1, .inr (11, [.ref q2, .ref q5, .ref q14, .ref q15, .ref q16, .ref q17, .ref q51, .ref q63, .ref q29, .ref q40, .int (-1)])), (q29, .inr (2, [.int 0, .ref q30, .ref q31, .ref q32, .ref q33, .ref q34, .ref q35, .int 0, .ref q36, .ref q37, .ref q38, .int 0, .ref q39]))]) hP hD hK [0, 1] [2, 3] [] rfl rfl (by decide) (by decide) rfl hk1 hFc ht hvm hB
  have hP : va_P (dC, dI) cls [(q1, .inr (11, [.ref q2, .ref q5, .ref q14, .ref q15, .ref q16, .ref q17, .ref q51, .ref q63, .ref q29, .ref q40, .int (-1)])), (q29, .inr (2, [.int 0, .ref q30, .ref q31, .ref q32, .ref q33, .ref q34, .ref q35, .int 0, .ref q36, .ref q37, .ref q38, .int 0, .ref q39])), (q64, .inr (15, [.ref q65, .int 0, .int (-1), .int 0, .ref q67, .ref q68, .ref q70, .ref q72, .ref q86]))] H := hP
  have hD : va_D A [(q1, .inr (11, [.ref q2, .ref q5, .ref q14, .ref q15, .ref q16, .ref q17, .ref q51, .ref q63, .ref q29, .ref q40, .int (-1)])), (q29, .inr (2, [.int 0, .ref q30, .ref q31, .ref q32, .ref q33, .ref q34, .ref q35, .int 0, .ref q36, .ref q37, .ref q38, .int 0, .ref q39])), (q64, .inr (15, [.ref q65, .int 0, .int (-1), .int 0, .ref q67, .ref q68, .ref q70, .ref q72, .ref q86]))] := hD
  have hK : va_K (dC, dI) cls [] s := hK
  refine W.widen (k := 369) (n := 122514) (Nat.le_of_ble_eq_true rfl) (Nat.le_of_ble_eq_true rfl) ?_
  obtain rfl : r91 = 0 := hw
  refine lv_icmp_eq (tgt := 2818) hx hb dL_law_1874 (by decide) (fun _ => ?_) (fun c => absurd (by decide) c)
  refine lv_iinc (v := 7) (lv' := [(4, .int 7), (3, .ref q87), (2, .ref q64), (1, .ref q1), (0, .ref b)]) hx hb dL_law_2818 hl (k := 0) rfl (by decide) (by decide) rfl (fun ls hl => ?_)
  refine lv_goto (tgt := 23) hx hb dL_law_2821 (by decide) ?_
  refine lv_iload hx hb dL_law_23 (lv_at hl 0 rfl) ?_
  refine lv_aload_n hx hb dL_law_25 rfl (lv_at hl 4 rfl) ?_
  refine va_slen hx hb hX hbl hbA hS dL_law_26 ?_
  refine lv_topC (y := 7) rfl ?_
  refine lv_bipush (v := 7) hx hb dL_law_27 (by decide) ?_
  refine lv_isub hx hb dL_law_29 ?_
  refine lv_topC (y := 0) (by decide) ?_
  refine lv_icmp_gt (tgt := 2824) hx hb dL_law_30 (by decide) (fun _ => ?_) (fun c => absurd (by decide) c)
  refine lv_iconst (v := 1) hx hb dL_law_2824 (by decide) ?_
  refine va_forget (fun q hq => hA2 _ (hS.2.2 q hq)) ?_
  refine W.widen (k := 600002) (n := 7302232) (Nat.le_of_ble_eq_true rfl) (Nat.le_of_ble_eq_true rfl) ?_
  exact lw_ret (d0 := s.drawn) (Drawn.sameBut.refl s.drawn lw_cs) hx hb hr hlocks dL_law_2825
set_option maxHeartbeats 4000000 in
set_option maxRecDepth 100000 in
theorem law_28 {zs : Nat × Nat} {p : Program} {e : Env} {s : State} {m : MethodId} {below : List Frame} {meth : Method} {c : Code} {l : Launch} {b : Nat} {xs : Nat → Int32} {dC : Nat → ClassId} {dI : Nat → Nat → Nat} {A : Nat → Prop} (C0 : lw_At p s m meth c b 7 xs) (hl9 : l.stackTraces = false) (hA : ∀ q, s.heap.size ≤ q → A q) (hA2 : ∀ q, A q → s.heap.size ≤ q) (hE : ENV zs A s s.heap) {H : Heap} {locs : List Loc} (q1 : Nat) (q2 : Nat) (q5 : Nat) (q14 : Nat) (q15 : Nat) (q16 : Nat) (q17 : Nat) (q29 : Nat) (q30 : Nat) (q31 : Nat) (q32 : Nat) (q33 : Nat) (q34 : Nat) (q35 : Nat) (q36 : Nat) (q37 : Nat) (q38 : Nat) (q39 : Nat) (q40 : Nat) (q51 : Nat) (q63 : Nat) (q64 : Nat) (q65 : Nat) (q67 : Nat) (q68 : Nat) (c69 : ClassId) (q70 : Nat) (q72 : Nat) (q86 : Nat) (q87 : Nat) (hP : va_P (dC, dI) cls [(q1, .inr (11, [.ref q2, .ref q5, .ref q14, .ref q15, .ref q16, .ref q17, .ref q51, .ref q63, .ref q29, .ref q40, .int (-1)])), (q29, .inr (2, [.int 0, .ref q30, .ref q31, .ref q32, .ref q33, .ref q34, .ref q35, .int 0, .ref q36, .ref q37, .ref q38, .int 0, .ref q39])), (q64, .inr (15, [.ref q65, .int 0, .int (-1), .int 0, .ref q67, .ref q68, .ref q70, .ref q72, .ref q86])), (q68, .inl (c69, 0, .inr (.inr (.inr (.inr (fun _ => none))))))] H) (hD : va_D A [(q1, .inr (11, [.ref q2, .ref q5, .ref q14, .ref q15, .ref q16, .ref q17, .ref q51, .ref q63, .ref q29, .ref q40, .int (-1)])), (q29, .inr (2, [.int 0, .ref q30, .ref q31, .ref q32, .ref q33, .ref q34, .ref q35, .int 0, .ref q36, .ref q37, .ref q38, .int 0, .ref q39])), (q64, .inr (15, [.ref q65, .int 0, .int (-1), .int 0, .ref q67, .ref q68, .ref q70, .ref q72, .ref q86])), (q68, .inl (c69, 0, .inr (.inr (.inr (.inr (fun _ => none))))))]) (hK : va_K (dC, dI) cls [(c69, .object RX14)] s) (hS : va_S A s.heap H locs) {ls : Array Slot} (hl : lv_has ls 9 [(4, .int 0), (3, .ref q87), (2, .ref q64), (1, .ref q1), (0, .ref b)])  : W p l e room_1 s m #[Value.ref b] below meth c H locs 369 122514 (lw_Z below #[Value.ref b] s) (F0 m 1879 ls []) := by
  obtain ⟨hx, hb, hr, hml, hown, hts0, hX, hbl, hlocks, hgv⟩ := id C0
  have hts : ∀ w ∈ gw, w.before #[Value.ref b] s = true := fun w h => hts0 w (gw_tbl h)
  have hbA : ¬ A b := fun h => absurd (hA2 b h) (Nat.not_le.mpr hbl)
  refine lv_aload_n hx hb dL_law_1879 rfl (lv_at hl 3 rfl) ?_
  have hPc := hP.sub (ws' := [(q1, .inr (11, [.ref q2, .ref q5, .ref q14, .ref q15, .ref q16, .ref q17, .ref q51, .ref q63, .ref q29, .ref q40, .int (-1)])), (q29, .inr (2, [.int 0, .ref q30, .ref q31, .ref q32, .ref q33, .ref q34, .ref q35, .int 0, .ref q36, .ref q37, .ref q38, .int 0, .ref q39]))]) [0, 1] rfl
  have hDc := hD.sub (ws' := [(q1, .inr (11, [.ref q2, .ref q5, .ref q14, .ref q15, .ref q16, .ref q17, .ref q51, .ref q63, .ref q29, .ref q40, .int (-1)])), (q29, .inr (2, [.int 0, .ref q30, .ref q31, .ref q32, .ref q33, .ref q34, .ref q35, .int 0, .ref q36, .ref q37, .ref q38, .int 0, .ref q39]))]) [0, 1] (by decide) rfl
  have hKc := hK.sub (tys' := []) [] rfl
  have hFc := va_free (wc := [(q1, .inr (11, [.ref q2, .ref q5, .ref q14, .ref q15, .ref q16, .ref q17, .ref q51, .ref q63, .ref q29, .ref q40, .int (-1)])), (q29, .inr (2, [.int 0, .ref q30, .ref q31, .ref q32, .ref q33, .ref q34, .ref q35, .int 0, .ref q36, .ref q37, .ref q38, .int 0, .ref q39]))]) hD hS hA [0, 1] rfl
  refine va_calli (va_runV (As := []) (rest := []) ⟨hx, hb, hml, hown, hts⟩ (kX11_lift l dC dI (gx := q1) (gq1 := q2) (gq4 := q5) (gq13 := q14) (gq136 := q15) (gq137 := q16) (gq138 := q17) (gq150 := q29) (gq151 := q30) (gq152 := q31) (gq153 := q32) (gq154 := q33) (gq155 := q34) (gq156 := q35) (gq157 := q36) (gq158 := q37) (gq159 := q38) (gq160 := q39) (gq161 := q40) (gq172 := q51) (gq184 := q63) (sz := _)) (cwV 0 hts (gi_V qw854 qw233 qw234 qw222 (gi_z qw231)) rfl rfl rfl (by decide +kernel) ⟨Nat.le_of_ble_eq_true rfl, Nat.le_of_ble_eq_true rfl⟩) ⟨PRE.blind, va_recv hKc hPc (ci := 11) (q0 := 0) rfl rfl, PRE.of hE hS hFc hPc hKc hDc⟩ rfl rfl hl.1 rfl (lv_room (Nat.le_of_ble_eq_true rfl)) dL_law_1880 ⟨Nat.le_of_ble_eq_true rfl, Nat.le_of_ble_eq_true rfl⟩) hS (fun q _ h => hFc q h) hFc (fun r90 u t H locs ht hvm hw hB hz1 hk1 hS => ?_)
  obtain ⟨hP, hD, hK⟩ := JOIN (wr := [(q64, .inr (15, [.ref q65, .int 0, .int (-1), .int 0, .ref q67, .ref q68, .ref q70, .ref q72, .ref q86])), (q68, .inl (c69, 0, .inr (.inr (.inr (.inr (fun _ => none))))))]) hP hD hK [0, 1] [2, 3] [0] rfl rfl (by decide) (by decide) rfl hk1 hFc ht hvm hB
  have hP : va_P (dC, dI) cls [(q64, .inr (15, [.ref q65, .int 0, .int (-1), .int 0, .ref q67, .ref q68, .ref q70, .ref q72, .ref q86])), (q68, .inl (c69, 0, .inr (.inr (.inr (.inr (fun _ => none)))))), (q1, .inr (11, [.ref q2, .ref q5, .ref q14, .ref q15, .ref q16, .ref q17, .ref q51, .ref q63, .ref q29, .ref q40, .int (-1)])), (q29, .inr (2, [.int 0, .ref q30, .ref q31, .ref q32, .ref q33, .ref q34, .ref q35, .int 0, .ref q36, .ref q37, .ref q38, .int 0, .ref q39]))] H := hP
  have hD : va_D A [(q64, .inr (15, [.ref q65, .int 0, .int (-1), .int 0, .ref q67, .ref q68, .ref q70, .ref q72, .ref q86])), (q68, .inl (c69, 0, .inr (.inr (.inr (.inr (fun _ => none)))))), (q1, .inr (11, [.ref q2, .ref q5, .ref q14, .ref q15, .ref q16, .ref q17, .ref q51, .ref q63, .ref q29, .ref q40, .int (-1)])), (q29, .inr (2, [.int 0, .ref q30, .ref q31, .ref q32, .ref q33, .ref q34, .ref q35, .int 0, .ref q36, .ref q37, .ref q38, .int 0, .ref q39]))] := hD
  have hK : va_K (dC, dI) cls [(c69, .object RX14)] s := hK
  refine W.widen (k := 369) (n := 122514) (Nat.le_of_ble_eq_true rfl) (Nat.le_of_ble_eq_true rfl) ?_
  obtain rfl : r90 = 0 := hw
  refine lv_aload_n hx hb dL_law_1883 rfl (lv_at hl 2 rfl) ?_
  have hPc := hP.sub (ws' := [(q64, .inr (15, [.ref q65, .int 0, .int (-1), .int 0, .ref q67, .ref q68, .ref q70, .ref q72, .ref q86])), (q68, .inl (c69, 0, .inr (.inr (.inr (.inr (fun _ => none))))))]) [0, 1] rfl
  have hDc := hD.sub (ws' := [(q64, .inr (15, [.ref q65, .int 0, .int (-1), .int 0, .ref q67, .ref q68, .ref q70, .ref q72, .ref q86])), (q68, .inl (c69, 0, .inr (.inr (.inr (.inr (fun _ => none))))))]) [0, 1] (by decide) rfl
  have hKc := hK.sub (tys' := [(c69, .object RX14)]) [0] rfl
  have hFc := va_free (wc := [(q64, .inr (15, [.ref q65, .int 0, .int (-1), .int 0, .ref q67, .ref q68, .ref q70, .ref q72, .ref q86])), (q68, .inl (c69, 0, .inr (.inr (.inr (.inr (fun _ => none))))))]) hD hS hA [0, 1] rfl
  refine va_calli (va_runV (As := []) (rest := [.int 0]) ⟨hx, hb, hml, hown, hts⟩ (kX24_lift l dC dI (mx := q64) (mq1 := q65) (mq3 := q67) (mq4 := q68) (mc5 := c69) (mq6 := q70) (mq8 := q72) (mq22 := q86) (sz := _)) (cwV 0 hts (gi_V qw856 qw857 qw858 qw434 (gi_z qw855)) rfl rfl rfl (by decide +kernel) ⟨Nat.le_of_ble_eq_true rfl, Nat.le_of_ble_eq_true rfl⟩) ⟨PRE.blind, va_recv hKc hPc (ci := 15) (q0 := 0) rfl rfl, PRE.of hE hS hFc hPc hKc hDc⟩ rfl rfl hl.1 rfl (lv_room (Nat.le_of_ble_eq_true rfl)) dL_law_1884 ⟨Nat.le_of_ble_eq_true rfl, Nat.le_of_ble_eq_true rfl⟩) hS (fun q _ h => hFc q h) hFc (fun r91 u t H locs ht hvm hw hB hz1 hk1 hS => ?_)
  obtain ⟨hP, hD, hK⟩ := JOIN (wr := [(q1, .inr (11, [.ref q2, .ref q5, .ref q14, .ref q15, .ref q16, .ref q17, .ref q51, .ref q63, .ref q29, .ref q40, .int (-1)])), (q29, .inr (2, [.int 0, .ref q30, .ref q31, .ref q32, .ref q33, .ref q34, .ref q35, .int 0, .ref q36, .ref q37, .ref q38, .int 0, .ref q39]))]) hP hD hK [0, 1] [2, 3] [] rfl rfl (by decide) (by decide) rfl hk1 hFc ht hvm hB
  have hP : va_P (dC, dI) cls [(q1, .inr (11, [.ref q2, .ref q5, .ref q14, .ref q15, .ref q16, .ref q17, .ref q51, .ref q63, .ref q29, .ref q40, .int (-1)])), (q29, .inr (2, [.int 0, .ref q30, .ref q31, .ref q32, .ref q33, .ref q34, .ref q35, .int 0, .ref q36, .ref q37, .ref q38, .int 0, .ref q39])), (q64, .inr (15, [.ref q65, .int 0, .int (-1), .int 0, .ref q67, .ref q68, .ref q70, .ref q72, .ref q86]))] H := hP
  have hD : va_D A [(q1, .inr (11, [.ref q2, .ref q5, .ref q14, .ref q15, .ref q16, .ref q17, .ref q51, .ref q63, .ref q29, .ref q40, .int (-1)])), (q29, .inr (2, [.int 0, .ref q30, .ref q31, .ref q32, .ref q33, .ref q34, .ref q35, .int 0, .ref q36, .ref q37, .ref q38, .int 0, .ref q39])), (q64, .inr (15, [.ref q65, .int 0, .int (-1), .int 0, .ref q67, .ref q68, .ref q70, .ref q72, .ref q86]))] := hD
  have hK : va_K (dC, dI) cls [] s := hK
  refine W.widen (k := 369) (n := 122514) (Nat.le_of_ble_eq_true rfl) (Nat.le_of_ble_eq_true rfl) ?_
  obtain rfl : r91 = 0 := hw
  refine lv_icmp_eq (tgt := 2818) hx hb dL_law_1887 (by decide) (fun _ => ?_) (fun c => absurd (by decide) c)
  refine lv_iinc (v := 7) (lv' := [(4, .int 7), (3, .ref q87), (2, .ref q64), (1, .ref q1), (0, .ref b)]) hx hb dL_law_2818 hl (k := 0) rfl (by decide) (by decide) rfl (fun ls hl => ?_)
  refine lv_goto (tgt := 23) hx hb dL_law_2821 (by decide) ?_
  refine lv_iload hx hb dL_law_23 (lv_at hl 0 rfl) ?_
  refine lv_aload_n hx hb dL_law_25 rfl (lv_at hl 4 rfl) ?_
  refine va_slen hx hb hX hbl hbA hS dL_law_26 ?_
  refine lv_topC (y := 7) rfl ?_
  refine lv_bipush (v := 7) hx hb dL_law_27 (by decide) ?_
  refine lv_isub hx hb dL_law_29 ?_
  refine lv_topC (y := 0) (by decide) ?_
  refine lv_icmp_gt (tgt := 2824) hx hb dL_law_30 (by decide) (fun _ => ?_) (fun c => absurd (by decide) c)
  refine lv_iconst (v := 1) hx hb dL_law_2824 (by decide) ?_
  refine va_forget (fun q hq => hA2 _ (hS.2.2 q hq)) ?_
  refine W.widen (k := 600002) (n := 7302232) (Nat.le_of_ble_eq_true rfl) (Nat.le_of_ble_eq_true rfl) ?_
  exact lw_ret (d0 := s.drawn) (Drawn.sameBut.refl s.drawn lw_cs) hx hb hr hlocks dL_law_2825
set_option maxHeartbeats 4000000 in
set_option maxRecDepth 100000 in
theorem law_29 {zs : Nat × Nat} {p : Program} {e : Env} {s : State} {m : MethodId} {below : List Frame} {meth : Method} {c : Code} {l : Launch} {b : Nat} {xs : Nat → Int32} {dC : Nat → ClassId} {dI : Nat → Nat → Nat} {A : Nat → Prop} (C0 : lw_At p s m meth c b 7 xs) (hl9 : l.stackTraces = false) (hA : ∀ q, s.heap.size ≤ q → A q) (hA2 : ∀ q, A q → s.heap.size ≤ q) (hE : ENV zs A s s.heap) {H : Heap} {locs : List Loc} (q1 : Nat) (q2 : Nat) (q5 : Nat) (q14 : Nat) (q15 : Nat) (q16 : Nat) (q17 : Nat) (q29 : Nat) (q30 : Nat) (q31 : Nat) (q32 : Nat) (q33 : Nat) (q34 : Nat) (q35 : Nat) (q36 : Nat) (q37 : Nat) (q38 : Nat) (q39 : Nat) (q40 : Nat) (q51 : Nat) (q63 : Nat) (q64 : Nat) (q65 : Nat) (q67 : Nat) (q68 : Nat) (c69 : ClassId) (q70 : Nat) (q72 : Nat) (q86 : Nat) (q87 : Nat) (hP : va_P (dC, dI) cls [(q1, .inr (11, [.ref q2, .ref q5, .ref q14, .ref q15, .ref q16, .ref q17, .ref q51, .ref q63, .ref q29, .ref q40, .int (-1)])), (q29, .inr (2, [.int 0, .ref q30, .ref q31, .ref q32, .ref q33, .ref q34, .ref q35, .int 0, .ref q36, .ref q37, .ref q38, .int 0, .ref q39])), (q64, .inr (15, [.ref q65, .int 0, .int (-1), .int 0, .ref q67, .ref q68, .ref q70, .ref q72, .ref q86])), (q68, .inl (c69, 0, .inr (.inr (.inr (.inr (fun _ => none))))))] H) (hD : va_D A [(q1, .inr (11, [.ref q2, .ref q5, .ref q14, .ref q15, .ref q16, .ref q17, .ref q51, .ref q63, .ref q29, .ref q40, .int (-1)])), (q29, .inr (2, [.int 0, .ref q30, .ref q31, .ref q32, .ref q33, .ref q34, .ref q35, .int 0, .ref q36, .ref q37, .ref q38, .int 0, .ref q39])), (q64, .inr (15, [.ref q65, .int 0, .int (-1), .int 0, .ref q67, .ref q68, .ref q70, .ref q72, .ref q86])), (q68, .inl (c69, 0, .inr (.inr (.inr (.inr (fun _ => none))))))]) (hK : va_K (dC, dI) cls [(c69, .object RX14)] s) (hS : va_S A s.heap H locs) {ls : Array Slot} (hl : lv_has ls 9 [(4, .int 0), (3, .ref q87), (2, .ref q64), (1, .ref q1), (0, .ref b)])  : W p l e room_1 s m #[Value.ref b] below meth c H locs 369 122514 (lw_Z below #[Value.ref b] s) (F0 m 1892 ls []) := by
  obtain ⟨hx, hb, hr, hml, hown, hts0, hX, hbl, hlocks, hgv⟩ := id C0
  have hts : ∀ w ∈ gw, w.before #[Value.ref b] s = true := fun w h => hts0 w (gw_tbl h)
  have hbA : ¬ A b := fun h => absurd (hA2 b h) (Nat.not_le.mpr hbl)
  refine lv_aload_n hx hb dL_law_1892 rfl (lv_at hl 3 rfl) ?_
  have hPc := hP.sub (ws' := [(q1, .inr (11, [.ref q2, .ref q5, .ref q14, .ref q15, .ref q16, .ref q17, .ref q51, .ref q63, .ref q29, .ref q40, .int (-1)])), (q29, .inr (2, [.int 0, .ref q30, .ref q31, .ref q32, .ref q33, .ref q34, .ref q35, .int 0, .ref q36, .ref q37, .ref q38, .int 0, .ref q39]))]) [0, 1] rfl
  have hDc := hD.sub (ws' := [(q1, .inr (11, [.ref q2, .ref q5, .ref q14, .ref q15, .ref q16, .ref q17, .ref q51, .ref q63, .ref q29, .ref q40, .int (-1)])), (q29, .inr (2, [.int 0, .ref q30, .ref q31, .ref q32, .ref q33, .ref q34, .ref q35, .int 0, .ref q36, .ref q37, .ref q38, .int 0, .ref q39]))]) [0, 1] (by decide) rfl
  have hKc := hK.sub (tys' := []) [] rfl
  have hFc := va_free (wc := [(q1, .inr (11, [.ref q2, .ref q5, .ref q14, .ref q15, .ref q16, .ref q17, .ref q51, .ref q63, .ref q29, .ref q40, .int (-1)])), (q29, .inr (2, [.int 0, .ref q30, .ref q31, .ref q32, .ref q33, .ref q34, .ref q35, .int 0, .ref q36, .ref q37, .ref q38, .int 0, .ref q39]))]) hD hS hA [0, 1] rfl
  refine va_calli (va_runV (As := []) (rest := []) ⟨hx, hb, hml, hown, hts⟩ (kX11_merge l dC dI (gx := q1) (gq1 := q2) (gq4 := q5) (gq13 := q14) (gq136 := q15) (gq137 := q16) (gq138 := q17) (gq150 := q29) (gq151 := q30) (gq152 := q31) (gq153 := q32) (gq154 := q33) (gq155 := q34) (gq156 := q35) (gq157 := q36) (gq158 := q37) (gq159 := q38) (gq160 := q39) (gq161 := q40) (gq172 := q51) (gq184 := q63) (sz := _)) (cwV 0 hts (gi_V qw859 qw237 qw238 qw222 (gi_z qw235)) rfl rfl rfl (by decide +kernel) ⟨Nat.le_of_ble_eq_true rfl, Nat.le_of_ble_eq_true rfl⟩) ⟨PRE.blind, va_recv hKc hPc (ci := 11) (q0 := 0) rfl rfl, PRE.of hE hS hFc hPc hKc hDc⟩ rfl rfl hl.1 rfl (lv_room (Nat.le_of_ble_eq_true rfl)) dL_law_1893 ⟨Nat.le_of_ble_eq_true rfl, Nat.le_of_ble_eq_true rfl⟩) hS (fun q _ h => hFc q h) hFc (fun r90 u t H locs ht hvm hw hB hz1 hk1 hS => ?_)
  obtain ⟨hP, hD, hK⟩ := JOIN (wr := [(q64, .inr (15, [.ref q65, .int 0, .int (-1), .int 0, .ref q67, .ref q68, .ref q70, .ref q72, .ref q86])), (q68, .inl (c69, 0, .inr (.inr (.inr (.inr (fun _ => none))))))]) hP hD hK [0, 1] [2, 3] [0] rfl rfl (by decide) (by decide) rfl hk1 hFc ht hvm hB
  have hP : va_P (dC, dI) cls [(q64, .inr (15, [.ref q65, .int 0, .int (-1), .int 0, .ref q67, .ref q68, .ref q70, .ref q72, .ref q86])), (q68, .inl (c69, 0, .inr (.inr (.inr (.inr (fun _ => none)))))), (q1, .inr (11, [.ref q2, .ref q5, .ref q14, .ref q15, .ref q16, .ref q17, .ref q51, .ref q63, .ref q29, .ref q40, .int (-1)])), (q29, .inr (2, [.int 0, .ref q30, .ref q31, .ref q32, .ref q33, .ref q34, .ref q35, .int 0, .ref q36, .ref q37, .ref q38, .int 0, .ref q39]))] H := hP
  have hD : va_D A [(q64, .inr (15, [.ref q65, .int 0, .int (-1), .int 0, .ref q67, .ref q68, .ref q70, .ref q72, .ref q86])), (q68, .inl (c69, 0, .inr (.inr (.inr (.inr (fun _ => none)))))), (q1, .inr (11, [.ref q2, .ref q5, .ref q14, .ref q15, .ref q16, .ref q17, .ref q51, .ref q63, .ref q29, .ref q40, .int (-1)])), (q29, .inr (2, [.int 0, .ref q30, .ref q31, .ref q32, .ref q33, .ref q34, .ref q35, .int 0, .ref q36, .ref q37, .ref q38, .int 0, .ref q39]))] := hD
  have hK : va_K (dC, dI) cls [(c69, .object RX14)] s := hK
  refine W.widen (k := 369) (n := 122514) (Nat.le_of_ble_eq_true rfl) (Nat.le_of_ble_eq_true rfl) ?_
  obtain rfl : r90 = 0 := hw
  refine lv_aload_n hx hb dL_law_1896 rfl (lv_at hl 2 rfl) ?_
  have hPc := hP.sub (ws' := [(q64, .inr (15, [.ref q65, .int 0, .int (-1), .int 0, .ref q67, .ref q68, .ref q70, .ref q72, .ref q86])), (q68, .inl (c69, 0, .inr (.inr (.inr (.inr (fun _ => none))))))]) [0, 1] rfl
  have hDc := hD.sub (ws' := [(q64, .inr (15, [.ref q65, .int 0, .int (-1), .int 0, .ref q67, .ref q68, .ref q70, .ref q72, .ref q86])), (q68, .inl (c69, 0, .inr (.inr (.inr (.inr (fun _ => none))))))]) [0, 1] (by decide) rfl
  have hKc := hK.sub (tys' := [(c69, .object RX14)]) [0] rfl
  have hFc := va_free (wc := [(q64, .inr (15, [.ref q65, .int 0, .int (-1), .int 0, .ref q67, .ref q68, .ref q70, .ref q72, .ref q86])), (q68, .inl (c69, 0, .inr (.inr (.inr (.inr (fun _ => none))))))]) hD hS hA [0, 1] rfl
  refine va_calli (va_runV (As := []) (rest := [.int 0]) ⟨hx, hb, hml, hown, hts⟩ (kX24_merge l dC dI (mx := q64) (mq1 := q65) (mq3 := q67) (mq4 := q68) (mc5 := c69) (mq6 := q70) (mq8 := q72) (mq22 := q86) (sz := _)) (cwV 0 hts (gi_V qw861 qw862 qw863 qw434 (gi_z qw860)) rfl rfl rfl (by decide +kernel) ⟨Nat.le_of_ble_eq_true rfl, Nat.le_of_ble_eq_true rfl⟩) ⟨PRE.blind, va_recv hKc hPc (ci := 15) (q0 := 0) rfl rfl, PRE.of hE hS hFc hPc hKc hDc⟩ rfl rfl hl.1 rfl (lv_room (Nat.le_of_ble_eq_true rfl)) dL_law_1897 ⟨Nat.le_of_ble_eq_true rfl, Nat.le_of_ble_eq_true rfl⟩) hS (fun q _ h => hFc q h) hFc (fun r91 u t H locs ht hvm hw hB hz1 hk1 hS => ?_)
  obtain ⟨hP, hD, hK⟩ := JOIN (wr := [(q1, .inr (11, [.ref q2, .ref q5, .ref q14, .ref q15, .ref q16, .ref q17, .ref q51, .ref q63, .ref q29, .ref q40, .int (-1)])), (q29, .inr (2, [.int 0, .ref q30, .ref q31, .ref q32, .ref q33, .ref q34, .ref q35, .int 0, .ref q36, .ref q37, .ref q38, .int 0, .ref q39]))]) hP hD hK [0, 1] [2, 3] [] rfl rfl (by decide) (by decide) rfl hk1 hFc ht hvm hB
  have hP : va_P (dC, dI) cls [(q1, .inr (11, [.ref q2, .ref q5, .ref q14, .ref q15, .ref q16, .ref q17, .ref q51, .ref q63, .ref q29, .ref q40, .int (-1)])), (q29, .inr (2, [.int 0, .ref q30, .ref q31, .ref q32, .ref q33, .ref q34, .ref q35, .int 0, .ref q36, .ref q37, .ref q38, .int 0, .ref q39])), (q64, .inr (15, [.ref q65, .int 0, .int (-1), .int 0, .ref q67, .ref q68, .ref q70, .ref q72, .ref q86]))] H := hP
  have hD : va_D A [(q1, .inr (11, [.ref q2, .ref q5, .ref q14, .ref q15, .ref q16, .ref q17, .ref q51, .ref q63, .ref q29, .ref q40, .int (-1)])), (q29, .inr (2, [.int 0, .ref q30, .ref q31, .ref q32, .ref q33, .ref q34, .ref q35, .int 0, .ref q36, .ref q37, .ref q38, .int 0, .ref q39])), (q64, .inr (15, [.ref q65, .int 0, .int (-1), .int 0, .ref q67, .ref q68, .ref q70, .ref q72, .ref q86]))] := hD
  have hK : va_K (dC, dI) cls [] s := hK
  refine W.widen (k := 369) (n := 122514) (Nat.le_of_ble_eq_true rfl) (Nat.le_of_ble_eq_true rfl) ?_
  obtain rfl : r91 = 0 := hw
  refine lv_icmp_eq (tgt := 2818) hx hb dL_law_1900 (by decide) (fun _ => ?_) (fun c => absurd (by decide) c)
  refine lv_iinc (v := 7) (lv' := [(4, .int 7), (3, .ref q87), (2, .ref q64), (1, .ref q1), (0, .ref b)]) hx hb dL_law_2818 hl (k := 0) rfl (by decide) (by decide) rfl (fun ls hl => ?_)
  refine lv_goto (tgt := 23) hx hb dL_law_2821 (by decide) ?_
  refine lv_iload hx hb dL_law_23 (lv_at hl 0 rfl) ?_
  refine lv_aload_n hx hb dL_law_25 rfl (lv_at hl 4 rfl) ?_
  refine va_slen hx hb hX hbl hbA hS dL_law_26 ?_
  refine lv_topC (y := 7) rfl ?_
  refine lv_bipush (v := 7) hx hb dL_law_27 (by decide) ?_
  refine lv_isub hx hb dL_law_29 ?_
  refine lv_topC (y := 0) (by decide) ?_
  refine lv_icmp_gt (tgt := 2824) hx hb dL_law_30 (by decide) (fun _ => ?_) (fun c => absurd (by decide) c)
  refine lv_iconst (v := 1) hx hb dL_law_2824 (by decide) ?_
  refine va_forget (fun q hq => hA2 _ (hS.2.2 q hq)) ?_
  refine W.widen (k := 600002) (n := 7302232) (Nat.le_of_ble_eq_true rfl) (Nat.le_of_ble_eq_true rfl) ?_
  exact lw_ret (d0 := s.drawn) (Drawn.sameBut.refl s.drawn lw_cs) hx hb hr hlocks dL_law_2825
set_option maxHeartbeats 4000000 in
set_option maxRecDepth 100000 in
theorem law_30 {zs : Nat × Nat} {p : Program} {e : Env} {s : State} {m : MethodId} {below : List Frame} {meth : Method} {c : Code} {l : Launch} {b : Nat} {xs : Nat → Int32} {dC : Nat → ClassId} {dI : Nat → Nat → Nat} {A : Nat → Prop} (C0 : lw_At p s m meth c b 7 xs) (hl9 : l.stackTraces = false) (hA : ∀ q, s.heap.size ≤ q → A q) (hA2 : ∀ q, A q → s.heap.size ≤ q) (hE : ENV zs A s s.heap) {H : Heap} {locs : List Loc} (q1 : Nat) (q2 : Nat) (q5 : Nat) (q14 : Nat) (q15 : Nat) (q16 : Nat) (q17 : Nat) (q29 : Nat) (q30 : Nat) (q31 : Nat) (q32 : Nat) (q33 : Nat) (q34 : Nat) (q35 : Nat) (q36 : Nat) (q37 : Nat) (q38 : Nat) (q39 : Nat) (q40 : Nat) (q51 : Nat) (q63 : Nat) (q64 : Nat) (q65 : Nat) (q67 : Nat) (q68 : Nat) (c69 : ClassId) (q70 : Nat) (q72 : Nat) (q86 : Nat) (q87 : Nat) (hP : va_P (dC, dI) cls [(q1, .inr (11, [.ref q2, .ref q5, .ref q14, .ref q15, .ref q16, .ref q17, .ref q51, .ref q63, .ref q29, .ref q40, .int (-1)])), (q29, .inr (2, [.int 0, .ref q30, .ref q31, .ref q32, .ref q33, .ref q34, .ref q35, .int 0, .ref q36, .ref q37, .ref q38, .int 0, .ref q39])), (q64, .inr (15, [.ref q65, .int 0, .int (-1), .int 0, .ref q67, .ref q68, .ref q70, .ref q72, .ref q86])), (q68, .inl (c69, 0, .inr (.inr (.inr (.inr (fun _ => none))))))] H) (hD : va_D A [(q1, .inr (11, [.ref q2, .ref q5, .ref q14, .ref q15, .ref q16, .ref q17, .ref q51, .ref q63, .ref q29, .ref q40, .int (-1)])), (q29, .inr (2, [.int 0, .ref q30, .ref q31, .ref q32, .ref q33, .ref q34, .ref q35, .int 0, .ref q36, .ref q37, .ref q38, .int 0, .ref q39])), (q64, .inr (15, [.ref q65, .int 0, .int (-1), .int 0, .ref q67, .ref q68, .ref q70, .ref q72, .ref q86])), (q68, .inl (c69, 0, .inr (.inr (.inr (.inr (fun _ => none))))))]) (hK : va_K (dC, dI) cls [(c69, .object RX14)] s) (hS : va_S A s.heap H locs) {ls : Array Slot} (hl : lv_has ls 9 [(4, .int 0), (3, .ref q87), (2, .ref q64), (1, .ref q1), (0, .ref b)])  : W p l e room_1 s m #[Value.ref b] below meth c H locs 369 122514 (lw_Z below #[Value.ref b] s) (F0 m 1905 ls []) := by
  obtain ⟨hx, hb, hr, hml, hown, hts0, hX, hbl, hlocks, hgv⟩ := id C0
  have hts : ∀ w ∈ gw, w.before #[Value.ref b] s = true := fun w h => hts0 w (gw_tbl h)
  have hbA : ¬ A b := fun h => absurd (hA2 b h) (Nat.not_le.mpr hbl)
  refine lv_aload_n hx hb dL_law_1905 rfl (lv_at hl 3 rfl) ?_
  have hPc := hP.sub (ws' := [(q1, .inr (11, [.ref q2, .ref q5, .ref q14, .ref q15, .ref q16, .ref q17, .ref q51, .ref q63, .ref q29, .ref q40, .int (-1)])), (q29, .inr (2, [.int 0, .ref q30, .ref q31, .ref q32, .ref q33, .ref q34, .ref q35, .int 0, .ref q36, .ref q37, .ref q38, .int 0, .ref q39]))]) [0, 1] rfl
  have hDc := hD.sub (ws' := [(q1, .inr (11, [.ref q2, .ref q5, .ref q14, .ref q15, .ref q16, .ref q17, .ref q51, .ref q63, .ref q29, .ref q40, .int (-1)])), (q29, .inr (2, [.int 0, .ref q30, .ref q31, .ref q32, .ref q33, .ref q34, .ref q35, .int 0, .ref q36, .ref q37, .ref q38, .int 0, .ref q39]))]) [0, 1] (by decide) rfl
  have hKc := hK.sub (tys' := []) [] rfl
  have hFc := va_free (wc := [(q1, .inr (11, [.ref q2, .ref q5, .ref q14, .ref q15, .ref q16, .ref q17, .ref q51, .ref q63, .ref q29, .ref q40, .int (-1)])), (q29, .inr (2, [.int 0, .ref q30, .ref q31, .ref q32, .ref q33, .ref q34, .ref q35, .int 0, .ref q36, .ref q37, .ref q38, .int 0, .ref q39]))]) hD hS hA [0, 1] rfl
  refine va_calli (va_runV (As := []) (rest := []) ⟨hx, hb, hml, hown, hts⟩ (kX11_settle l dC dI (gx := q1) (gq1 := q2) (gq4 := q5) (gq13 := q14) (gq136 := q15) (gq137 := q16) (gq138 := q17) (gq150 := q29) (gq151 := q30) (gq152 := q31) (gq153 := q32) (gq154 := q33) (gq155 := q34) (gq156 := q35) (gq157 := q36) (gq158 := q37) (gq159 := q38) (gq160 := q39) (gq161 := q40) (gq172 := q51) (gq184 := q63) (sz := _)) (cwV 0 hts (gi_V qw865 qw866 qw867 qw222 (gi_z qw864)) rfl rfl rfl (by decide +kernel) ⟨Nat.le_of_ble_eq_true rfl, Nat.le_of_ble_eq_true rfl⟩) ⟨PRE.blind, va_recv hKc hPc (ci := 11) (q0 := 0) rfl rfl, PRE.of hE hS hFc hPc hKc hDc⟩ rfl rfl hl.1 rfl (lv_room (Nat.le_of_ble_eq_true rfl)) dL_law_1906 ⟨Nat.le_of_ble_eq_true rfl, Nat.le_of_ble_eq_true rfl⟩) hS (fun q _ h => hFc q h) hFc (fun r90 u t H locs ht hvm hw hB hz1 hk1 hS => ?_)
  obtain ⟨hP, hD, hK⟩ := JOIN (wr := [(q64, .inr (15, [.ref q65, .int 0, .int (-1), .int 0, .ref q67, .ref q68, .ref q70, .ref q72, .ref q86])), (q68, .inl (c69, 0, .inr (.inr (.inr (.inr (fun _ => none))))))]) hP hD hK [0, 1] [2, 3] [0] rfl rfl (by decide) (by decide) rfl hk1 hFc ht hvm hB
  have hP : va_P (dC, dI) cls [(q64, .inr (15, [.ref q65, .int 0, .int (-1), .int 0, .ref q67, .ref q68, .ref q70, .ref q72, .ref q86])), (q68, .inl (c69, 0, .inr (.inr (.inr (.inr (fun _ => none)))))), (q1, .inr (11, [.ref q2, .ref q5, .ref q14, .ref q15, .ref q16, .ref q17, .ref q51, .ref q63, .ref q29, .ref q40, .int (-1)])), (q29, .inr (2, [.int 0, .ref q30, .ref q31, .ref q32, .ref q33, .ref q34, .ref q35, .int 0, .ref q36, .ref q37, .ref q38, .int 0, .ref q39]))] H := hP
  have hD : va_D A [(q64, .inr (15, [.ref q65, .int 0, .int (-1), .int 0, .ref q67, .ref q68, .ref q70, .ref q72, .ref q86])), (q68, .inl (c69, 0, .inr (.inr (.inr (.inr (fun _ => none)))))), (q1, .inr (11, [.ref q2, .ref q5, .ref q14, .ref q15, .ref q16, .ref q17, .ref q51, .ref q63, .ref q29, .ref q40, .int (-1)])), (q29, .inr (2, [.int 0, .ref q30, .ref q31, .ref q32, .ref q33, .ref q34, .ref q35, .int 0, .ref q36, .ref q37, .ref q38, .int 0, .ref q39]))] := hD
  have hK : va_K (dC, dI) cls [(c69, .object RX14)] s := hK
  refine W.widen (k := 369) (n := 122514) (Nat.le_of_ble_eq_true rfl) (Nat.le_of_ble_eq_true rfl) ?_
  obtain rfl : r90 = 1 := hw
  refine lv_aload_n hx hb dL_law_1909 rfl (lv_at hl 2 rfl) ?_
  have hPc := hP.sub (ws' := [(q64, .inr (15, [.ref q65, .int 0, .int (-1), .int 0, .ref q67, .ref q68, .ref q70, .ref q72, .ref q86])), (q68, .inl (c69, 0, .inr (.inr (.inr (.inr (fun _ => none))))))]) [0, 1] rfl
  have hDc := hD.sub (ws' := [(q64, .inr (15, [.ref q65, .int 0, .int (-1), .int 0, .ref q67, .ref q68, .ref q70, .ref q72, .ref q86])), (q68, .inl (c69, 0, .inr (.inr (.inr (.inr (fun _ => none))))))]) [0, 1] (by decide) rfl
  have hKc := hK.sub (tys' := [(c69, .object RX14)]) [0] rfl
  have hFc := va_free (wc := [(q64, .inr (15, [.ref q65, .int 0, .int (-1), .int 0, .ref q67, .ref q68, .ref q70, .ref q72, .ref q86])), (q68, .inl (c69, 0, .inr (.inr (.inr (.inr (fun _ => none))))))]) hD hS hA [0, 1] rfl
  refine va_calli (va_runV (As := []) (rest := [.int 1]) ⟨hx, hb, hml, hown, hts⟩ (kX24_settle l dC dI (mx := q64) (mq1 := q65) (mq3 := q67) (mq4 := q68) (mc5 := c69) (mq6 := q70) (mq8 := q72) (mq22 := q86) (sz := _)) (cwV 0 hts (gi_V qw869 qw870 qw871 qw434 (gi_z qw868)) rfl rfl rfl (by decide +kernel) ⟨Nat.le_of_ble_eq_true rfl, Nat.le_of_ble_eq_true rfl⟩) ⟨PRE.blind, va_recv hKc hPc (ci := 15) (q0 := 0) rfl rfl, PRE.of hE hS hFc hPc hKc hDc⟩ rfl rfl hl.1 rfl (lv_room (Nat.le_of_ble_eq_true rfl)) dL_law_1910 ⟨Nat.le_of_ble_eq_true rfl, Nat.le_of_ble_eq_true rfl⟩) hS (fun q _ h => hFc q h) hFc (fun r91 u t H locs ht hvm hw hB hz1 hk1 hS => ?_)
  obtain ⟨hP, hD, hK⟩ := JOIN (wr := [(q1, .inr (11, [.ref q2, .ref q5, .ref q14, .ref q15, .ref q16, .ref q17, .ref q51, .ref q63, .ref q29, .ref q40, .int (-1)])), (q29, .inr (2, [.int 0, .ref q30, .ref q31, .ref q32, .ref q33, .ref q34, .ref q35, .int 0, .ref q36, .ref q37, .ref q38, .int 0, .ref q39]))]) hP hD hK [0, 1] [2, 3] [] rfl rfl (by decide) (by decide) rfl hk1 hFc ht hvm hB
  have hP : va_P (dC, dI) cls [(q1, .inr (11, [.ref q2, .ref q5, .ref q14, .ref q15, .ref q16, .ref q17, .ref q51, .ref q63, .ref q29, .ref q40, .int (-1)])), (q29, .inr (2, [.int 0, .ref q30, .ref q31, .ref q32, .ref q33, .ref q34, .ref q35, .int 0, .ref q36, .ref q37, .ref q38, .int 0, .ref q39])), (q64, .inr (15, [.ref q65, .int 0, .int (-1), .int 0, .ref q67, .ref q68, .ref q70, .ref q72, .ref q86]))] H := hP
  have hD : va_D A [(q1, .inr (11, [.ref q2, .ref q5, .ref q14, .ref q15, .ref q16, .ref q17, .ref q51, .ref q63, .ref q29, .ref q40, .int (-1)])), (q29, .inr (2, [.int 0, .ref q30, .ref q31, .ref q32, .ref q33, .ref q34, .ref q35, .int 0, .ref q36, .ref q37, .ref q38, .int 0, .ref q39])), (q64, .inr (15, [.ref q65, .int 0, .int (-1), .int 0, .ref q67, .ref q68, .ref q70, .ref q72, .ref q86]))] := hD
  have hK : va_K (dC, dI) cls [] s := hK
  refine W.widen (k := 369) (n := 122514) (Nat.le_of_ble_eq_true rfl) (Nat.le_of_ble_eq_true rfl) ?_
  obtain rfl : r91 = 1 := hw
  refine lv_icmp_eq (tgt := 2818) hx hb dL_law_1913 (by decide) (fun _ => ?_) (fun c => absurd (by decide) c)
  refine lv_iinc (v := 7) (lv' := [(4, .int 7), (3, .ref q87), (2, .ref q64), (1, .ref q1), (0, .ref b)]) hx hb dL_law_2818 hl (k := 0) rfl (by decide) (by decide) rfl (fun ls hl => ?_)
  refine lv_goto (tgt := 23) hx hb dL_law_2821 (by decide) ?_
  refine lv_iload hx hb dL_law_23 (lv_at hl 0 rfl) ?_
  refine lv_aload_n hx hb dL_law_25 rfl (lv_at hl 4 rfl) ?_
  refine va_slen hx hb hX hbl hbA hS dL_law_26 ?_
  refine lv_topC (y := 7) rfl ?_
  refine lv_bipush (v := 7) hx hb dL_law_27 (by decide) ?_
  refine lv_isub hx hb dL_law_29 ?_
  refine lv_topC (y := 0) (by decide) ?_
  refine lv_icmp_gt (tgt := 2824) hx hb dL_law_30 (by decide) (fun _ => ?_) (fun c => absurd (by decide) c)
  refine lv_iconst (v := 1) hx hb dL_law_2824 (by decide) ?_
  refine va_forget (fun q hq => hA2 _ (hS.2.2 q hq)) ?_
  refine W.widen (k := 600002) (n := 7302232) (Nat.le_of_ble_eq_true rfl) (Nat.le_of_ble_eq_true rfl) ?_
  exact lw_ret (d0 := s.drawn) (Drawn.sameBut.refl s.drawn lw_cs) hx hb hr hlocks dL_law_2825
set_option maxHeartbeats 4000000 in
set_option maxRecDepth 100000 in
theorem law_31_a {zs : Nat × Nat} {p : Program} {e : Env} {s : State} {m : MethodId} {below : List Frame} {meth : Method} {c : Code} {l : Launch} {b : Nat} {xs : Nat → Int32} {dC : Nat → ClassId} {dI : Nat → Nat → Nat} {A : Nat → Prop} (C0 : lw_At p s m meth c b 7 xs) (hl9 : l.stackTraces = false) (hA : ∀ q, s.heap.size ≤ q → A q) (hA2 : ∀ q, A q → s.heap.size ≤ q) (hE : ENV zs A s s.heap) {H : Heap} {locs : List Loc} (q1 : Nat) (q2 : Nat) (q5 : Nat) (q14 : Nat) (q15 : Nat) (q16 : Nat) (q17 : Nat) (q29 : Nat) (q40 : Nat) (q51 : Nat) (q63 : Nat) (q64 : Nat) (q65 : Nat) (q67 : Nat) (q68 : Nat) (q70 : Nat) (q72 : Nat) (q86 : Nat) (q87 : Nat) (hP : va_P (dC, dI) cls [(q1, .inr (11, [.ref q2, .ref q5, .ref q14, .ref q15, .ref q16, .ref q17, .ref q51, .ref q63, .ref q29, .ref q40, .int (-1)])), (q64, .inr (15, [.ref q65, .int 0, .int (-1), .int 0, .ref q67, .ref q68, .ref q70, .ref q72, .ref q86]))] H) (hD : va_D A [(q1, .inr (11, [.ref q2, .ref q5, .ref q14, .ref q15, .ref q16, .ref q17, .ref q51, .ref q63, .ref q29, .ref q40, .int (-1)])), (q64, .inr (15, [.ref q65, .int 0, .int (-1), .int 0, .ref q67, .ref q68, .ref q70, .ref q72, .ref q86]))]) (hK : va_K (dC, dI) cls [] s) (hS : va_S A s.heap H locs) {ls : Array Slot} (hl : lv_has ls 9 [(4, .int 0), (3, .ref q87), (2, .ref q64), (1, .ref q1), (0, .ref b)]) (h1 : (xs 1) < 3) : W p l e room_1 s m #[Value.ref b] below meth c H locs 369 122514 (lw_Z below #[Value.ref b] s) (F0 m 1918 ls []) := by
  obtain ⟨hx, hb, hr, hml, hown, hts0, hX, hbl, hlocks, hgv⟩ := id C0
  have hts : ∀ w ∈ gw, w.before #[Value.ref b] s = true := fun w h => hts0 w (gw_tbl h)
  have hbA : ¬ A b := fun h => absurd (hA2 b h) (Nat.not_le.mpr hbl)
  refine lv_aload_n hx hb dL_law_1918 rfl (lv_at hl 3 rfl) ?_
  refine lv_aload_n hx hb dL_law_1919 rfl (lv_at hl 4 rfl) ?_
  refine lv_iload hx hb dL_law_1920 (lv_at hl 0 rfl) ?_
  refine lv_iconst (v := 1) hx hb dL_law_1922 (by decide) ?_
  refine lv_iadd hx hb dL_law_1923 ?_
  refine lv_topC (y := 1) (by decide) ?_
  refine va_sld hx hb hX hbl hbA hS (by unfold vp_in; decide +kernel) dL_law_1924 ?_
  refine lv_topC (y := xs 1) rfl ?_
  refine lv_aload_n hx hb dL_law_1925 rfl (lv_at hl 1 rfl) ?_
  have hPc := hP.sub (ws' := [(q1, .inr (11, [.ref q2, .ref q5, .ref q14, .ref q15, .ref q16, .ref q17, .ref q51, .ref q63, .ref q29, .ref q40, .int (-1)]))]) [0] rfl
  have hDc := hD.sub (ws' := [(q1, .inr (11, [.ref q2, .ref q5, .ref q14, .ref q15, .ref q16, .ref q17, .ref q51, .ref q63, .ref q29, .ref q40, .int (-1)]))]) [0] (by decide) rfl
  have hKc := hK.sub (tys' := []) [] rfl
  have hFc := va_free (wc := [(q1, .inr (11, [.ref q2, .ref q5, .ref q14, .ref q15, .ref q16, .ref q17, .ref q51, .ref q63, .ref q29, .ref q40, .int (-1)]))]) hD hS hA [0] rfl
  refine va_calli (vx_runSW (As := [.ref q1, .int (xs 1), .ref q87]) (rest := []) ⟨hx, hb, hml, hown, hts⟩ (kL_allocate_a l dC dI (gx := q1) (gq1 := q2) (gq4 := q5) (gq13 := q14) (gq136 := q15) (gq137 := q16) (gq138 := q17) (gq150 := q29) (gq161 := q40) (gq172 := q51) (gq184 := q63) (go := q87) (p0 := (xs 1)) (sz := _) (hl9 := hl9) (h1 := h1)) (vx_cwSW 3 hts (gi_S qw873 qw874 qw658 (gi_h qw872)) rfl rfl rfl (by decide +kernel) ⟨Nat.le_of_ble_eq_true rfl, Nat.le_of_ble_eq_true rfl⟩) ⟨PRE.blind, PRE.of hE hS hFc hPc hKc hDc⟩ rfl rfl hl.1 rfl (lv_room (Nat.le_of_ble_eq_true rfl)) dL_law_1926 ⟨Nat.le_of_ble_eq_true rfl, Nat.le_of_ble_eq_true rfl⟩) hS (fun q _ h => hFc q h) hFc (fun r90 u t H locs ht hvm hw hB hz1 hk1 hS => ?_)
  obtain ⟨hP, hD, hK⟩ := JOIN (wr := [(q64, .inr (15, [.ref q65, .int 0, .int (-1), .int 0, .ref q67, .ref q68, .ref q70, .ref q72, .ref q86]))]) hP hD hK [0] [1] [] rfl rfl (by decide) (by decide) rfl hk1 hFc ht hvm hB
  have hP : va_P (dC, dI) cls [(q64, .inr (15, [.ref q65, .int 0, .int (-1), .int 0, .ref q67, .ref q68, .ref q70, .ref q72, .ref q86]))] H := hP
  have hD : va_D A [(q64, .inr (15, [.ref q65, .int 0, .int (-1), .int 0, .ref q67, .ref q68, .ref q70, .ref q72, .ref q86]))] := hD
  have hK : va_K (dC, dI) cls [] s := hK
  refine W.widen (k := 370) (n := 122520) (Nat.le_of_ble_eq_true rfl) (Nat.le_of_ble_eq_true rfl) ?_
  obtain rfl : r90 = 1 := hw
  refine lv_istore (lv' := [(5, .int 1), (4, .int 0), (3, .ref q87), (2, .ref q64), (1, .ref q1), (0, .ref b)]) hx hb dL_law_1929 hl (by decide) rfl (fun ls hl => ?_)
  refine lv_aload_n hx hb dL_law_1931 rfl (lv_at hl 3 rfl) ?_
  refine lv_aload_n hx hb dL_law_1932 rfl (lv_at hl 5 rfl) ?_
  refine lv_iload hx hb dL_law_1933 (lv_at hl 1 rfl) ?_
  refine lv_iconst (v := 1) hx hb dL_law_1935 (by decide) ?_
  refine lv_iadd hx hb dL_law_1936 ?_
  refine lv_topC (y := 1) (by decide) ?_
  refine va_sld hx hb hX hbl hbA hS (by unfold vp_in; decide +kernel) dL_law_1937 ?_
  refine lv_topC (y := xs 1) rfl ?_
  have hPc := hP.sub (ws' := [(q64, .inr (15, [.ref q65, .int 0, .int (-1), .int 0, .ref q67, .ref q68, .ref q70, .ref q72, .ref q86]))]) [0] rfl
  have hDc := hD.sub (ws' := [(q64, .inr (15, [.ref q65, .int 0, .int (-1), .int 0, .ref q67, .ref q68, .ref q70, .ref q72, .ref q86]))]) [0] (by decide) rfl
  have hKc := hK.sub (tys' := []) [] rfl
  have hFc := va_free (wc := [(q64, .inr (15, [.ref q65, .int 0, .int (-1), .int 0, .ref q67, .ref q68, .ref q70, .ref q72, .ref q86]))]) hD hS hA [0] rfl
  refine va_calli (va_runV (As := [.int (xs 1)]) (rest := []) ⟨hx, hb, hml, hown, hts⟩ (kX24_allocate_a l dC dI (mx := q64) (mq1 := q65) (mq3 := q67) (mq4 := q68) (mq6 := q70) (mq8 := q72) (mq22 := q86) (p0 := (xs 1)) (sz := _) (h1 := h1)) (cwV 1 hts (gi_V qw876 qw877 qw878 qw434 (gi_z qw875)) rfl rfl rfl (by decide +kernel) ⟨Nat.le_of_ble_eq_true rfl, Nat.le_of_ble_eq_true rfl⟩) ⟨PRE.blind, va_recv hKc hPc (ci := 15) (q0 := 0) rfl rfl, PRE.of hE hS hFc hPc hKc hDc⟩ rfl rfl hl.1 rfl (lv_room (Nat.le_of_ble_eq_true rfl)) dL_law_1938 ⟨Nat.le_of_ble_eq_true rfl, Nat.le_of_ble_eq_true rfl⟩) hS (fun q _ h => hFc q h) hFc (fun r91 u t H locs ht hvm hw hB hz1 hk1 hS => ?_)
  obtain ⟨hP, hD, hK⟩ := JOIN (wr := []) hP hD hK [0] [] [] rfl rfl (by decide) (by decide) rfl hk1 hFc ht hvm hB
  have hP : va_P (dC, dI) cls [(q64, .inr (15, [.ref q65, .int 0, .int (-1), .int 1, .ref q67, .ref q68, .ref q70, .ref q72, .ref q86]))] H := hP
  have hD : va_D A [(q64, .inr (15, [.ref q65, .int 0, .int (-1), .int 1, .ref q67, .ref q68, .ref q70, .ref q72, .ref q86]))] := hD
  have hK : va_K (dC, dI) cls [] s := hK
  refine W.widen (k := 370) (n := 122520) (Nat.le_of_ble_eq_true rfl) (Nat.le_of_ble_eq_true rfl) ?_
  obtain rfl : r91 = 0 := hw
  refine lv_istore (lv' := [(6, .int 0), (5, .int 1), (4, .int 0), (3, .ref q87), (2, .ref q64), (1, .ref q1), (0, .ref b)]) hx hb dL_law_1941 hl (by decide) rfl (fun ls hl => ?_)
  refine lv_aload_n hx hb dL_law_1943 rfl (lv_at hl 4 rfl) ?_
  have hPc := hP.sub (ws' := [(q64, .inr (15, [.ref q65, .int 0, .int (-1), .int 1, .ref q67, .ref q68, .ref q70, .ref q72, .ref q86]))]) [0] rfl
  have hDc := hD.sub (ws' := [(q64, .inr (15, [.ref q65, .int 0, .int (-1), .int 1, .ref q67, .ref q68, .ref q70, .ref q72, .ref q86]))]) [0] (by decide) rfl
  have hKc := hK.sub (tys' := []) [] rfl
  have hFc := va_free (wc := [(q64, .inr (15, [.ref q65, .int 0, .int (-1), .int 1, .ref q67, .ref q68, .ref q70, .ref q72, .ref q86]))]) hD hS hA [0] rfl
  refine va_calli (va_runV (As := []) (rest := []) ⟨hx, hb, hml, hown, hts⟩ (kX24_thrown_n64 l dC dI (a0 := q64) (a60 := q65) (a62 := q68) (a64 := q70) (a66 := q72) (a82 := q67) (a83 := q86) (sz := _)) (cwV 0 hts (gi_V qw664 qw665 qw666 qw434 (gi_z qw663)) rfl rfl rfl (by decide +kernel) ⟨Nat.le_of_ble_eq_true rfl, Nat.le_of_ble_eq_true rfl⟩) ⟨PRE.blind, va_recv hKc hPc (ci := 15) (q0 := 0) rfl rfl, PRE.of hE hS hFc hPc hKc hDc⟩ rfl rfl hl.1 rfl (lv_room (Nat.le_of_ble_eq_true rfl)) dL_law_1944 ⟨Nat.le_of_ble_eq_true rfl, Nat.le_of_ble_eq_true rfl⟩) hS (fun q _ h => hFc q h) hFc (fun r92 u t H locs ht hvm hw hB hz1 hk1 hS => ?_)
  obtain ⟨hP, hD, hK⟩ := JOIN (wr := []) hP hD hK [0] [] [] rfl rfl (by decide) (by decide) rfl hk1 hFc ht hvm hB
  have hP : va_P (dC, dI) cls [(q64, .inr (15, [.ref q65, .int 0, .int (-1), .int 1, .ref q67, .ref q68, .ref q70, .ref q72, .ref q86]))] H := hP
  have hD : va_D A [(q64, .inr (15, [.ref q65, .int 0, .int (-1), .int 1, .ref q67, .ref q68, .ref q70, .ref q72, .ref q86]))] := hD
  have hK : va_K (dC, dI) cls [] s := hK
  refine W.widen (k := 370) (n := 122520) (Nat.le_of_ble_eq_true rfl) (Nat.le_of_ble_eq_true rfl) ?_
  obtain rfl : r92 = 1 := hw
  refine lv_iload hx hb dL_law_1947 (lv_at hl 1 rfl) ?_
  refine lv_icmp_eq (tgt := 1954) hx hb dL_law_1949 (by decide) (fun _ => ?_) (fun c => absurd (by decide) c)
  refine lv_iload hx hb dL_law_1954 (lv_at hl 1 rfl) ?_
  refine lv_if_ne (tgt := 1971) hx hb dL_law_1956 (by decide) (fun _ => ?_) (fun c => absurd c (by decide))
  refine lv_goto (tgt := 2818) hx hb dL_law_1971 (by decide) ?_
  refine lv_iinc (v := 7) (lv' := [(4, .int 7), (6, .int 0), (5, .int 1), (3, .ref q87), (2, .ref q64), (1, .ref q1), (0, .ref b)]) hx hb dL_law_2818 hl (k := 2) rfl (by decide) (by decide) rfl (fun ls hl => ?_)
  refine lv_goto (tgt := 23) hx hb dL_law_2821 (by decide) ?_
  refine lv_iload hx hb dL_law_23 (lv_at hl 0 rfl) ?_
  refine lv_aload_n hx hb dL_law_25 rfl (lv_at hl 6 rfl) ?_
  refine va_slen hx hb hX hbl hbA hS dL_law_26 ?_
  refine lv_topC (y := 7) rfl ?_
  refine lv_bipush (v := 7) hx hb dL_law_27 (by decide) ?_
  refine lv_isub hx hb dL_law_29 ?_
  refine lv_topC (y := 0) (by decide) ?_
  refine lv_icmp_gt (tgt := 2824) hx hb dL_law_30 (by decide) (fun _ => ?_) (fun c => absurd (by decide) c)
  refine lv_iconst (v := 1) hx hb dL_law_2824 (by decide) ?_
  refine va_forget (fun q hq => hA2 _ (hS.2.2 q hq)) ?_
  refine W.widen (k := 600002) (n := 7302232) (Nat.le_of_ble_eq_true rfl) (Nat.le_of_ble_eq_true rfl) ?_
  exact lw_ret (d0 := s.drawn) (Drawn.sameBut.refl s.drawn lw_cs) hx hb hr hlocks dL_law_2825
set_option maxHeartbeats 4000000 in
set_option maxRecDepth 100000 in
theorem law_31_b {zs : Nat × Nat} {p : Program} {e : Env} {s : State} {m : MethodId} {below : List Frame} {meth : Method} {c : Code} {l : Launch} {b : Nat} {xs : Nat → Int32} {dC : Nat → ClassId} {dI : Nat → Nat → Nat} {A : Nat → Prop} (C0 : lw_At p s m meth c b 7 xs) (hl9 : l.stackTraces = false) (hA : ∀ q, s.heap.size ≤ q → A q) (hA2 : ∀ q, A q → s.heap.size ≤ q) (hE : ENV zs A s s.heap) {H : Heap} {locs : List Loc} (q1 : Nat) (q2 : Nat) (q5 : Nat) (q14 : Nat) (q15 : Nat) (q16 : Nat) (q17 : Nat) (q29 : Nat) (q40 : Nat) (q51 : Nat) (q63 : Nat) (q64 : Nat) (q65 : Nat) (q67 : Nat) (q68 : Nat) (q70 : Nat) (q72 : Nat) (q86 : Nat) (q87 : Nat) (hP : va_P (dC, dI) cls [(q1, .inr (11, [.ref q2, .ref q5, .ref q14, .ref q15, .ref q16, .ref q17, .ref q51, .ref q63, .ref q29, .ref q40, .int (-1)])), (q64, .inr (15, [.ref q65, .int 0, .int (-1), .int 0, .ref q67, .ref q68, .ref q70, .ref q72, .ref q86]))] H) (hD : va_D A [(q1, .inr (11, [.ref q2, .ref q5, .ref q14, .ref q15, .ref q16, .ref q17, .ref q51, .ref q63, .ref q29, .ref q40, .int (-1)])), (q64, .inr (15, [.ref q65, .int 0, .int (-1), .int 0, .ref q67, .ref q68, .ref q70, .ref q72, .ref q86]))]) (hK : va_K (dC, dI) cls [] s) (hS : va_S A s.heap H locs) {ls : Array Slot} (hl : lv_has ls 9 [(4, .int 0), (3, .ref q87), (2, .ref q64), (1, .ref q1), (0, .ref b)]) (h1 : ¬ (xs 1) < 3) (h2 : 8 < (xs 1)) : W p l e room_1 s m #[Value.ref b] below meth c H locs 369 122514 (lw_Z below #[Value.ref b] s) (F0 m 1918 ls []) := by
  obtain ⟨hx, hb, hr, hml, hown, hts0, hX, hbl, hlocks, hgv⟩ := id C0
  have hts : ∀ w ∈ gw, w.before #[Value.ref b] s = true := fun w h => hts0 w (gw_tbl h)
  have hbA : ¬ A b := fun h => absurd (hA2 b h) (Nat.not_le.mpr hbl)
  refine lv_aload_n hx hb dL_law_1918 rfl (lv_at hl 3 rfl) ?_
  refine lv_aload_n hx hb dL_law_1919 rfl (lv_at hl 4 rfl) ?_
  refine lv_iload hx hb dL_law_1920 (lv_at hl 0 rfl) ?_
  refine lv_iconst (v := 1) hx hb dL_law_1922 (by decide) ?_
  refine lv_iadd hx hb dL_law_1923 ?_
  refine lv_topC (y := 1) (by decide) ?_
  refine va_sld hx hb hX hbl hbA hS (by unfold vp_in; decide +kernel) dL_law_1924 ?_
  refine lv_topC (y := xs 1) rfl ?_
  refine lv_aload_n hx hb dL_law_1925 rfl (lv_at hl 1 rfl) ?_
  have hPc := hP.sub (ws' := [(q1, .inr (11, [.ref q2, .ref q5, .ref q14, .ref q15, .ref q16, .ref q17, .ref q51, .ref q63, .ref q29, .ref q40, .int (-1)]))]) [0] rfl
  have hDc := hD.sub (ws' := [(q1, .inr (11, [.ref q2, .ref q5, .ref q14, .ref q15, .ref q16, .ref q17, .ref q51, .ref q63, .ref q29, .ref q40, .int (-1)]))]) [0] (by decide) rfl
  have hKc := hK.sub (tys' := []) [] rfl
  have hFc := va_free (wc := [(q1, .inr (11, [.ref q2, .ref q5, .ref q14, .ref q15, .ref q16, .ref q17, .ref q51, .ref q63, .ref q29, .ref q40, .int (-1)]))]) hD hS hA [0] rfl
  refine va_calli (vx_runSW (As := [.ref q1, .int (xs 1), .ref q87]) (rest := []) ⟨hx, hb, hml, hown, hts⟩ (kL_allocate_b l dC dI (gx := q1) (gq1 := q2) (gq4 := q5) (gq13 := q14) (gq136 := q15) (gq137 := q16) (gq138 := q17) (gq150 := q29) (gq161 := q40) (gq172 := q51) (gq184 := q63) (go := q87) (p0 := (xs 1)) (sz := _) (hl9 := hl9) (h1 := h1) (h2 := h2)) (vx_cwSW 3 hts (gi_S qw873 qw874 qw658 (gi_h qw872)) rfl rfl rfl (by decide +kernel) ⟨Nat.le_of_ble_eq_true rfl, Nat.le_of_ble_eq_true rfl⟩) ⟨PRE.blind, PRE.of hE hS hFc hPc hKc hDc⟩ rfl rfl hl.1 rfl (lv_room (Nat.le_of_ble_eq_true rfl)) dL_law_1926 ⟨Nat.le_of_ble_eq_true rfl, Nat.le_of_ble_eq_true rfl⟩) hS (fun q _ h => hFc q h) hFc (fun r90 u t H locs ht hvm hw hB hz1 hk1 hS => ?_)
  obtain ⟨hP, hD, hK⟩ := JOIN (wr := [(q64, .inr (15, [.ref q65, .int 0, .int (-1), .int 0, .ref q67, .ref q68, .ref q70, .ref q72, .ref q86]))]) hP hD hK [0] [1] [] rfl rfl (by decide) (by decide) rfl hk1 hFc ht hvm hB
  have hP : va_P (dC, dI) cls [(q64, .inr (15, [.ref q65, .int 0, .int (-1), .int 0, .ref q67, .ref q68, .ref q70, .ref q72, .ref q86]))] H := hP
  have hD : va_D A [(q64, .inr (15, [.ref q65, .int 0, .int (-1), .int 0, .ref q67, .ref q68, .ref q70, .ref q72, .ref q86]))] := hD
  have hK : va_K (dC, dI) cls [] s := hK
  refine W.widen (k := 370) (n := 122520) (Nat.le_of_ble_eq_true rfl) (Nat.le_of_ble_eq_true rfl) ?_
  obtain rfl : r90 = 1 := hw
  refine lv_istore (lv' := [(5, .int 1), (4, .int 0), (3, .ref q87), (2, .ref q64), (1, .ref q1), (0, .ref b)]) hx hb dL_law_1929 hl (by decide) rfl (fun ls hl => ?_)
  refine lv_aload_n hx hb dL_law_1931 rfl (lv_at hl 3 rfl) ?_
  refine lv_aload_n hx hb dL_law_1932 rfl (lv_at hl 5 rfl) ?_
  refine lv_iload hx hb dL_law_1933 (lv_at hl 1 rfl) ?_
  refine lv_iconst (v := 1) hx hb dL_law_1935 (by decide) ?_
  refine lv_iadd hx hb dL_law_1936 ?_
  refine lv_topC (y := 1) (by decide) ?_
  refine va_sld hx hb hX hbl hbA hS (by unfold vp_in; decide +kernel) dL_law_1937 ?_
  refine lv_topC (y := xs 1) rfl ?_
  have hPc := hP.sub (ws' := [(q64, .inr (15, [.ref q65, .int 0, .int (-1), .int 0, .ref q67, .ref q68, .ref q70, .ref q72, .ref q86]))]) [0] rfl
  have hDc := hD.sub (ws' := [(q64, .inr (15, [.ref q65, .int 0, .int (-1), .int 0, .ref q67, .ref q68, .ref q70, .ref q72, .ref q86]))]) [0] (by decide) rfl
  have hKc := hK.sub (tys' := []) [] rfl
  have hFc := va_free (wc := [(q64, .inr (15, [.ref q65, .int 0, .int (-1), .int 0, .ref q67, .ref q68, .ref q70, .ref q72, .ref q86]))]) hD hS hA [0] rfl
  refine va_calli (va_runV (As := [.int (xs 1)]) (rest := []) ⟨hx, hb, hml, hown, hts⟩ (kX24_allocate_b l dC dI (mx := q64) (mq1 := q65) (mq3 := q67) (mq4 := q68) (mq6 := q70) (mq8 := q72) (mq22 := q86) (p0 := (xs 1)) (sz := _) (h1 := h1) (h2 := h2)) (cwV 1 hts (gi_V qw876 qw877 qw878 qw434 (gi_z qw875)) rfl rfl rfl (by decide +kernel) ⟨Nat.le_of_ble_eq_true rfl, Nat.le_of_ble_eq_true rfl⟩) ⟨PRE.blind, va_recv hKc hPc (ci := 15) (q0 := 0) rfl rfl, PRE.of hE hS hFc hPc hKc hDc⟩ rfl rfl hl.1 rfl (lv_room (Nat.le_of_ble_eq_true rfl)) dL_law_1938 ⟨Nat.le_of_ble_eq_true rfl, Nat.le_of_ble_eq_true rfl⟩) hS (fun q _ h => hFc q h) hFc (fun r91 u t H locs ht hvm hw hB hz1 hk1 hS => ?_)
  obtain ⟨hP, hD, hK⟩ := JOIN (wr := []) hP hD hK [0] [] [] rfl rfl (by decide) (by decide) rfl hk1 hFc ht hvm hB
  have hP : va_P (dC, dI) cls [(q64, .inr (15, [.ref q65, .int 0, .int (-1), .int 1, .ref q67, .ref q68, .ref q70, .ref q72, .ref q86]))] H := hP
  have hD : va_D A [(q64, .inr (15, [.ref q65, .int 0, .int (-1), .int 1, .ref q67, .ref q68, .ref q70, .ref q72, .ref q86]))] := hD
  have hK : va_K (dC, dI) cls [] s := hK
  refine W.widen (k := 370) (n := 122520) (Nat.le_of_ble_eq_true rfl) (Nat.le_of_ble_eq_true rfl) ?_
  obtain rfl : r91 = 0 := hw
  refine lv_istore (lv' := [(6, .int 0), (5, .int 1), (4, .int 0), (3, .ref q87), (2, .ref q64), (1, .ref q1), (0, .ref b)]) hx hb dL_law_1941 hl (by decide) rfl (fun ls hl => ?_)
  refine lv_aload_n hx hb dL_law_1943 rfl (lv_at hl 4 rfl) ?_
  have hPc := hP.sub (ws' := [(q64, .inr (15, [.ref q65, .int 0, .int (-1), .int 1, .ref q67, .ref q68, .ref q70, .ref q72, .ref q86]))]) [0] rfl
  have hDc := hD.sub (ws' := [(q64, .inr (15, [.ref q65, .int 0, .int (-1), .int 1, .ref q67, .ref q68, .ref q70, .ref q72, .ref q86]))]) [0] (by decide) rfl
  have hKc := hK.sub (tys' := []) [] rfl
  have hFc := va_free (wc := [(q64, .inr (15, [.ref q65, .int 0, .int (-1), .int 1, .ref q67, .ref q68, .ref q70, .ref q72, .ref q86]))]) hD hS hA [0] rfl
  refine va_calli (va_runV (As := []) (rest := []) ⟨hx, hb, hml, hown, hts⟩ (kX24_thrown_n64 l dC dI (a0 := q64) (a60 := q65) (a62 := q68) (a64 := q70) (a66 := q72) (a82 := q67) (a83 := q86) (sz := _)) (cwV 0 hts (gi_V qw664 qw665 qw666 qw434 (gi_z qw663)) rfl rfl rfl (by decide +kernel) ⟨Nat.le_of_ble_eq_true rfl, Nat.le_of_ble_eq_true rfl⟩) ⟨PRE.blind, va_recv hKc hPc (ci := 15) (q0 := 0) rfl rfl, PRE.of hE hS hFc hPc hKc hDc⟩ rfl rfl hl.1 rfl (lv_room (Nat.le_of_ble_eq_true rfl)) dL_law_1944 ⟨Nat.le_of_ble_eq_true rfl, Nat.le_of_ble_eq_true rfl⟩) hS (fun q _ h => hFc q h) hFc (fun r92 u t H locs ht hvm hw hB hz1 hk1 hS => ?_)
  obtain ⟨hP, hD, hK⟩ := JOIN (wr := []) hP hD hK [0] [] [] rfl rfl (by decide) (by decide) rfl hk1 hFc ht hvm hB
  have hP : va_P (dC, dI) cls [(q64, .inr (15, [.ref q65, .int 0, .int (-1), .int 1, .ref q67, .ref q68, .ref q70, .ref q72, .ref q86]))] H := hP
  have hD : va_D A [(q64, .inr (15, [.ref q65, .int 0, .int (-1), .int 1, .ref q67, .ref q68, .ref q70, .ref q72, .ref q86]))] := hD
  have hK : va_K (dC, dI) cls [] s := hK
  refine W.widen (k := 370) (n := 122520) (Nat.le_of_ble_eq_true rfl) (Nat.le_of_ble_eq_true rfl) ?_
  obtain rfl : r92 = 1 := hw
  refine lv_iload hx hb dL_law_1947 (lv_at hl 1 rfl) ?_
  refine lv_icmp_eq (tgt := 1954) hx hb dL_law_1949 (by decide) (fun _ => ?_) (fun c => absurd (by decide) c)
  refine lv_iload hx hb dL_law_1954 (lv_at hl 1 rfl) ?_
  refine lv_if_ne (tgt := 1971) hx hb dL_law_1956 (by decide) (fun _ => ?_) (fun c => absurd c (by decide))
  refine lv_goto (tgt := 2818) hx hb dL_law_1971 (by decide) ?_
  refine lv_iinc (v := 7) (lv' := [(4, .int 7), (6, .int 0), (5, .int 1), (3, .ref q87), (2, .ref q64), (1, .ref q1), (0, .ref b)]) hx hb dL_law_2818 hl (k := 2) rfl (by decide) (by decide) rfl (fun ls hl => ?_)
  refine lv_goto (tgt := 23) hx hb dL_law_2821 (by decide) ?_
  refine lv_iload hx hb dL_law_23 (lv_at hl 0 rfl) ?_
  refine lv_aload_n hx hb dL_law_25 rfl (lv_at hl 6 rfl) ?_
  refine va_slen hx hb hX hbl hbA hS dL_law_26 ?_
  refine lv_topC (y := 7) rfl ?_
  refine lv_bipush (v := 7) hx hb dL_law_27 (by decide) ?_
  refine lv_isub hx hb dL_law_29 ?_
  refine lv_topC (y := 0) (by decide) ?_
  refine lv_icmp_gt (tgt := 2824) hx hb dL_law_30 (by decide) (fun _ => ?_) (fun c => absurd (by decide) c)
  refine lv_iconst (v := 1) hx hb dL_law_2824 (by decide) ?_
  refine va_forget (fun q hq => hA2 _ (hS.2.2 q hq)) ?_
  refine W.widen (k := 600002) (n := 7302232) (Nat.le_of_ble_eq_true rfl) (Nat.le_of_ble_eq_true rfl) ?_
  exact lw_ret (d0 := s.drawn) (Drawn.sameBut.refl s.drawn lw_cs) hx hb hr hlocks dL_law_2825
set_option maxHeartbeats 4000000 in
set_option maxRecDepth 100000 in
theorem law_31_c {zs : Nat × Nat} {p : Program} {e : Env} {s : State} {m : MethodId} {below : List Frame} {meth : Method} {c : Code} {l : Launch} {b : Nat} {xs : Nat → Int32} {dC : Nat → ClassId} {dI : Nat → Nat → Nat} {A : Nat → Prop} (C0 : lw_At p s m meth c b 7 xs) (hl9 : l.stackTraces = false) (hA : ∀ q, s.heap.size ≤ q → A q) (hA2 : ∀ q, A q → s.heap.size ≤ q) (hE : ENV zs A s s.heap) {H : Heap} {locs : List Loc} (q1 : Nat) (q2 : Nat) (q5 : Nat) (q14 : Nat) (q15 : Nat) (q16 : Nat) (q17 : Nat) (q29 : Nat) (q30 : Nat) (q31 : Nat) (q32 : Nat) (q33 : Nat) (q34 : Nat) (q35 : Nat) (q36 : Nat) (q37 : Nat) (q38 : Nat) (q39 : Nat) (q40 : Nat) (q51 : Nat) (q63 : Nat) (q64 : Nat) (q65 : Nat) (q67 : Nat) (q68 : Nat) (c69 : ClassId) (q70 : Nat) (q72 : Nat) (q86 : Nat) (q87 : Nat) (hP : va_P (dC, dI) cls [(q1, .inr (11, [.ref q2, .ref q5, .ref q14, .ref q15, .ref q16, .ref q17, .ref q51, .ref q63, .ref q29, .ref q40, .int (-1)])), (q29, .inr (2, [.int 0, .ref q30, .ref q31, .ref q32, .ref q33, .ref q34, .ref q35, .int 0, .ref q36, .ref q37, .ref q38, .int 0, .ref q39])), (q64, .inr (15, [.ref q65, .int 0, .int (-1), .int 0, .ref q67, .ref q68, .ref q70, .ref q72, .ref q86])), (q68, .inl (c69, 0, .inr (.inr (.inr (.inr (fun _ => none))))))] H) (hD : va_D A [(q1, .inr (11, [.ref q2, .ref q5, .ref q14, .ref q15, .ref q16, .ref q17, .ref q51, .ref q63, .ref q29, .ref q40, .int (-1)])), (q29, .inr (2, [.int 0, .ref q30, .ref q31, .ref q32, .ref q33, .ref q34, .ref q35, .int 0, .ref q36, .ref q37, .ref q38, .int 0, .ref q39])), (q64, .inr (15, [.ref q65, .int 0, .int (-1), .int 0, .ref q67, .ref q68, .ref q70, .ref q72, .ref q86])), (q68, .inl (c69, 0, .inr (.inr (.inr (.inr (fun _ => none))))))]) (hK : va_K (dC, dI) cls [(c69, .object RX14)] s) (hS : va_S A s.heap H locs) {ls : Array Slot} (hl : lv_has ls 9 [(4, .int 0), (3, .ref q87), (2, .ref q64), (1, .ref q1), (0, .ref b)]) (h1 : ¬ (xs 1) < 3) (h2 : ¬ 8 < (xs 1)) : W p l e room_1 s m #[Value.ref b] below meth c H locs 369 122514 (lw_Z below #[Value.ref b] s) (F0 m 1918 ls []) := by
  obtain ⟨hx, hb, hr, hml, hown, hts0, hX, hbl, hlocks, hgv⟩ := id C0
  have hts : ∀ w ∈ gw, w.before #[Value.ref b] s = true := fun w h => hts0 w (gw_tbl h)
  have hbA : ¬ A b := fun h => absurd (hA2 b h) (Nat.not_le.mpr hbl)
  refine lv_aload_n hx hb dL_law_1918 rfl (lv_at hl 3 rfl) ?_
  refine lv_aload_n hx hb dL_law_1919 rfl (lv_at hl 4 rfl) ?_
  refine lv_iload hx hb dL_law_1920 (lv_at hl 0 rfl) ?_
  refine lv_iconst (v := 1) hx hb dL_law_1922 (by decide) ?_
  refine lv_iadd hx hb dL_law_1923 ?_
  refine lv_topC (y := 1) (by decide) ?_
  refine va_sld hx hb hX hbl hbA hS (by unfold vp_in; decide +kernel) dL_law_1924 ?_
  refine lv_topC (y := xs 1) rfl ?_
  refine lv_aload_n hx hb dL_law_1925 rfl (lv_at hl 1 rfl) ?_
  have hPc := hP.sub (ws' := [(q1, .inr (11, [.ref q2, .ref q5, .ref q14, .ref q15, .ref q16, .ref q17, .ref q51, .ref q63, .ref q29, .ref q40, .int (-1)])), (q29, .inr (2, [.int 0, .ref q30, .ref q31, .ref q32, .ref q33, .ref q34, .ref q35, .int 0, .ref q36, .ref q37, .ref q38, .int 0, .ref q39]))]) [0, 1] rfl
  have hDc := hD.sub (ws' := [(q1, .inr (11, [.ref q2, .ref q5, .ref q14, .ref q15, .ref q16, .ref q17, .ref q51, .ref q63, .ref q29, .ref q40, .int (-1)])), (q29, .inr (2, [.int 0, .ref q30, .ref q31, .ref q32, .ref q33, .ref q34, .ref q35, .int 0, .ref q36, .ref q37, .ref q38, .int 0, .ref q39]))]) [0, 1] (by decide) rfl
  have hKc := hK.sub (tys' := []) [] rfl
  have hFc := va_free (wc := [(q1, .inr (11, [.ref q2, .ref q5, .ref q14, .ref q15, .ref q16, .ref q17, .ref q51, .ref q63, .ref q29, .ref q40, .int (-1)])), (q29, .inr (2, [.int 0, .ref q30, .ref q31, .ref q32, .ref q33, .ref q34, .ref q35, .int 0, .ref q36, .ref q37, .ref q38, .int 0, .ref q39]))]) hD hS hA [0, 1] rfl
  refine va_calli (vx_runSW (As := [.ref q1, .int (xs 1), .ref q87]) (rest := []) ⟨hx, hb, hml, hown, hts⟩ (kL_allocate_c l dC dI (gx := q1) (gq1 := q2) (gq4 := q5) (gq13 := q14) (gq136 := q15) (gq137 := q16) (gq138 := q17) (gq150 := q29) (gq151 := q30) (gq152 := q31) (gq153 := q32) (gq154 := q33) (gq155 := q34) (gq156 := q35) (gq157 := q36) (gq158 := q37) (gq159 := q38) (gq160 := q39) (gq161 := q40) (gq172 := q51) (gq184 := q63) (go := q87) (p0 := (xs 1)) (sz := _) (hl9 := hl9) (h1 := h1) (h2 := h2)) (vx_cwSW 3 hts (gi_S qw873 qw874 qw658 (gi_h qw872)) rfl rfl rfl (by decide +kernel) ⟨Nat.le_of_ble_eq_true rfl, Nat.le_of_ble_eq_true rfl⟩) ⟨PRE.blind, PRE.of hE hS hFc hPc hKc hDc⟩ rfl rfl hl.1 rfl (lv_room (Nat.le_of_ble_eq_true rfl)) dL_law_1926 ⟨Nat.le_of_ble_eq_true rfl, Nat.le_of_ble_eq_true rfl⟩) hS (fun q _ h => hFc q h) hFc (fun r90 u t H locs ht hvm hw hB hz1 hk1 hS => ?_)
  obtain ⟨hP, hD, hK⟩ := JOIN (wr := [(q64, .inr (15, [.ref q65, .int 0, .int (-1), .int 0, .ref q67, .ref q68, .ref q70, .ref q72, .ref q86])), (q68, .inl (c69, 0, .inr (.inr (.inr (.inr (fun _ => none))))))]) hP hD hK [0, 1] [2, 3] [0] rfl rfl (by decide) (by decide) rfl hk1 hFc ht hvm hB
  have hP : va_P (dC, dI) cls [(q64, .inr (15, [.ref q65, .int 0, .int (-1), .int 0, .ref q67, .ref q68, .ref q70, .ref q72, .ref q86])), (q68, .inl (c69, 0, .inr (.inr (.inr (.inr (fun _ => none))))))] H := hP
  have hD : va_D A [(q64, .inr (15, [.ref q65, .int 0, .int (-1), .int 0, .ref q67, .ref q68, .ref q70, .ref q72, .ref q86])), (q68, .inl (c69, 0, .inr (.inr (.inr (.inr (fun _ => none))))))] := hD
  have hK : va_K (dC, dI) cls [(c69, .object RX14)] s := hK
  refine W.widen (k := 370) (n := 122520) (Nat.le_of_ble_eq_true rfl) (Nat.le_of_ble_eq_true rfl) ?_
  obtain rfl : r90 = 2 := hw
  refine lv_istore (lv' := [(5, .int 2), (4, .int 0), (3, .ref q87), (2, .ref q64), (1, .ref q1), (0, .ref b)]) hx hb dL_law_1929 hl (by decide) rfl (fun ls hl => ?_)
  refine lv_aload_n hx hb dL_law_1931 rfl (lv_at hl 3 rfl) ?_
  refine lv_aload_n hx hb dL_law_1932 rfl (lv_at hl 5 rfl) ?_
  refine lv_iload hx hb dL_law_1933 (lv_at hl 1 rfl) ?_
  refine lv_iconst (v := 1) hx hb dL_law_1935 (by decide) ?_
  refine lv_iadd hx hb dL_law_1936 ?_
  refine lv_topC (y := 1) (by decide) ?_
  refine va_sld hx hb hX hbl hbA hS (by unfold vp_in; decide +kernel) dL_law_1937 ?_
  refine lv_topC (y := xs 1) rfl ?_
  have hPc := hP.sub (ws' := [(q64, .inr (15, [.ref q65, .int 0, .int (-1), .int 0, .ref q67, .ref q68, .ref q70, .ref q72, .ref q86])), (q68, .inl (c69, 0, .inr (.inr (.inr (.inr (fun _ => none))))))]) [0, 1] rfl
  have hDc := hD.sub (ws' := [(q64, .inr (15, [.ref q65, .int 0, .int (-1), .int 0, .ref q67, .ref q68, .ref q70, .ref q72, .ref q86])), (q68, .inl (c69, 0, .inr (.inr (.inr (.inr (fun _ => none))))))]) [0, 1] (by decide) rfl
  have hKc := hK.sub (tys' := [(c69, .object RX14)]) [0] rfl
  have hFc := va_free (wc := [(q64, .inr (15, [.ref q65, .int 0, .int (-1), .int 0, .ref q67, .ref q68, .ref q70, .ref q72, .ref q86])), (q68, .inl (c69, 0, .inr (.inr (.inr (.inr (fun _ => none))))))]) hD hS hA [0, 1] rfl
  refine va_calli (va_runV (As := [.int (xs 1)]) (rest := []) ⟨hx, hb, hml, hown, hts⟩ (kX24_allocate_c l dC dI (mx := q64) (mq1 := q65) (mq3 := q67) (mq4 := q68) (mc5 := c69) (mq6 := q70) (mq8 := q72) (mq22 := q86) (p0 := (xs 1)) (sz := _) (h1 := h1) (h2 := h2)) (cwV 1 hts (gi_V qw876 qw877 qw878 qw434 (gi_z qw875)) rfl rfl rfl (by decide +kernel) ⟨Nat.le_of_ble_eq_true rfl, Nat.le_of_ble_eq_true rfl⟩) ⟨PRE.blind, va_recv hKc hPc (ci := 15) (q0 := 0) rfl rfl, PRE.of hE hS hFc hPc hKc hDc⟩ rfl rfl hl.1 rfl (lv_room (Nat.le_of_ble_eq_true rfl)) dL_law_1938 ⟨Nat.le_of_ble_eq_true rfl, Nat.le_of_ble_eq_true rfl⟩) hS (fun q _ h => hFc q h) hFc (fun r91 u t H locs ht hvm hw hB hz1 hk1 hS => ?_)
  obtain ⟨hP, hD, hK⟩ := JOIN (wr := []) hP hD hK [0, 1] [] [] rfl rfl (by decide) (by decide) rfl hk1 hFc ht hvm hB
  have hP : va_P (dC, dI) cls [(q64, .inr (15, [.ref q65, .int 0, .int (-1), .int 2, .ref q67, .ref q68, .ref q70, .ref q72, .ref q86]))] H := hP
  have hD : va_D A [(q64, .inr (15, [.ref q65, .int 0, .int (-1), .int 2, .ref q67, .ref q68, .ref q70, .ref q72, .ref q86]))] := hD
  have hK : va_K (dC, dI) cls [] s := hK
  refine W.widen (k := 370) (n := 122520) (Nat.le_of_ble_eq_true rfl) (Nat.le_of_ble_eq_true rfl) ?_
  obtain rfl : r91 = 0 := hw
  refine lv_istore (lv' := [(6, .int 0), (5, .int 2), (4, .int 0), (3, .ref q87), (2, .ref q64), (1, .ref q1), (0, .ref b)]) hx hb dL_law_1941 hl (by decide) rfl (fun ls hl => ?_)
  refine lv_aload_n hx hb dL_law_1943 rfl (lv_at hl 4 rfl) ?_
  have hPc := hP.sub (ws' := [(q64, .inr (15, [.ref q65, .int 0, .int (-1), .int 2, .ref q67, .ref q68, .ref q70, .ref q72, .ref q86]))]) [0] rfl
  have hDc := hD.sub (ws' := [(q64, .inr (15, [.ref q65, .int 0, .int (-1), .int 2, .ref q67, .ref q68, .ref q70, .ref q72, .ref q86]))]) [0] (by decide) rfl
  have hKc := hK.sub (tys' := []) [] rfl
  have hFc := va_free (wc := [(q64, .inr (15, [.ref q65, .int 0, .int (-1), .int 2, .ref q67, .ref q68, .ref q70, .ref q72, .ref q86]))]) hD hS hA [0] rfl
  refine va_calli (va_runV (As := []) (rest := []) ⟨hx, hb, hml, hown, hts⟩ (kX24_thrown_n66 l dC dI (a0 := q64) (a50 := q65) (a52 := q70) (a54 := q72) (a70 := q67) (a71 := q68) (a72 := q86) (sz := _)) (cwV 0 hts (gi_V qw664 qw665 qw666 qw434 (gi_z qw663)) rfl rfl rfl (by decide +kernel) ⟨Nat.le_of_ble_eq_true rfl, Nat.le_of_ble_eq_true rfl⟩) ⟨PRE.blind, va_recv hKc hPc (ci := 15) (q0 := 0) rfl rfl, PRE.of hE hS hFc hPc hKc hDc⟩ rfl rfl hl.1 rfl (lv_room (Nat.le_of_ble_eq_true rfl)) dL_law_1944 ⟨Nat.le_of_ble_eq_true rfl, Nat.le_of_ble_eq_true rfl⟩) hS (fun q _ h => hFc q h) hFc (fun r92 u t H locs ht hvm hw hB hz1 hk1 hS => ?_)
  obtain ⟨hP, hD, hK⟩ := JOIN (wr := []) hP hD hK [0] [] [] rfl rfl (by decide) (by decide) rfl hk1 hFc ht hvm hB
  have hP : va_P (dC, dI) cls [(q64, .inr (15, [.ref q65, .int 0, .int (-1), .int 2, .ref q67, .ref q68, .ref q70, .ref q72, .ref q86]))] H := hP
  have hD : va_D A [(q64, .inr (15, [.ref q65, .int 0, .int (-1), .int 2, .ref q67, .ref q68, .ref q70, .ref q72, .ref q86]))] := hD
  have hK : va_K (dC, dI) cls [] s := hK
  refine W.widen (k := 370) (n := 122520) (Nat.le_of_ble_eq_true rfl) (Nat.le_of_ble_eq_true rfl) ?_
  obtain rfl : r92 = 2 := hw
  refine lv_iload hx hb dL_law_1947 (lv_at hl 1 rfl) ?_
  refine lv_icmp_eq (tgt := 1954) hx hb dL_law_1949 (by decide) (fun _ => ?_) (fun c => absurd (by decide) c)
  refine lv_iload hx hb dL_law_1954 (lv_at hl 1 rfl) ?_
  refine lv_if_ne (tgt := 1971) hx hb dL_law_1956 (by decide) (fun _ => ?_) (fun c => absurd c (by decide))
  refine lv_goto (tgt := 2818) hx hb dL_law_1971 (by decide) ?_
  refine lv_iinc (v := 7) (lv' := [(4, .int 7), (6, .int 0), (5, .int 2), (3, .ref q87), (2, .ref q64), (1, .ref q1), (0, .ref b)]) hx hb dL_law_2818 hl (k := 2) rfl (by decide) (by decide) rfl (fun ls hl => ?_)
  refine lv_goto (tgt := 23) hx hb dL_law_2821 (by decide) ?_
  refine lv_iload hx hb dL_law_23 (lv_at hl 0 rfl) ?_
  refine lv_aload_n hx hb dL_law_25 rfl (lv_at hl 6 rfl) ?_
  refine va_slen hx hb hX hbl hbA hS dL_law_26 ?_
  refine lv_topC (y := 7) rfl ?_
  refine lv_bipush (v := 7) hx hb dL_law_27 (by decide) ?_
  refine lv_isub hx hb dL_law_29 ?_
  refine lv_topC (y := 0) (by decide) ?_
  refine lv_icmp_gt (tgt := 2824) hx hb dL_law_30 (by decide) (fun _ => ?_) (fun c => absurd (by decide) c)
  refine lv_iconst (v := 1) hx hb dL_law_2824 (by decide) ?_
  refine va_forget (fun q hq => hA2 _ (hS.2.2 q hq)) ?_
  refine W.widen (k := 600002) (n := 7302232) (Nat.le_of_ble_eq_true rfl) (Nat.le_of_ble_eq_true rfl) ?_
  exact lw_ret (d0 := s.drawn) (Drawn.sameBut.refl s.drawn lw_cs) hx hb hr hlocks dL_law_2825
set_option maxHeartbeats 4000000 in
set_option maxRecDepth 100000 in
theorem law_32 {zs : Nat × Nat} {p : Program} {e : Env} {s : State} {m : MethodId} {below : List Frame} {meth : Method} {c : Code} {l : Launch} {b : Nat} {xs : Nat → Int32} {dC : Nat → ClassId} {dI : Nat → Nat → Nat} {A : Nat → Prop} (C0 : lw_At p s m meth c b 7 xs) (hl9 : l.stackTraces = false) (hA : ∀ q, s.heap.size ≤ q → A q) (hA2 : ∀ q, A q → s.heap.size ≤ q) (hE : ENV zs A s s.heap) {H : Heap} {locs : List Loc} (q1 : Nat) (q2 : Nat) (q5 : Nat) (q14 : Nat) (q15 : Nat) (q16 : Nat) (q17 : Nat) (q29 : Nat) (q30 : Nat) (q31 : Nat) (q32 : Nat) (q33 : Nat) (q34 : Nat) (q35 : Nat) (q36 : Nat) (q37 : Nat) (q38 : Nat) (q39 : Nat) (q40 : Nat) (q51 : Nat) (q63 : Nat) (q64 : Nat) (q65 : Nat) (q67 : Nat) (q68 : Nat) (c69 : ClassId) (q70 : Nat) (q72 : Nat) (q86 : Nat) (q87 : Nat) (hP : va_P (dC, dI) cls [(q1, .inr (11, [.ref q2, .ref q5, .ref q14, .ref q15, .ref q16, .ref q17, .ref q51, .ref q63, .ref q29, .ref q40, .int (-1)])), (q29, .inr (2, [.int 0, .ref q30, .ref q31, .ref q32, .ref q33, .ref q34, .ref q35, .int 0, .ref q36, .ref q37, .ref q38, .int 0, .ref q39])), (q64, .inr (15, [.ref q65, .int 0, .int (-1), .int 0, .ref q67, .ref q68, .ref q70, .ref q72, .ref q86])), (q68, .inl (c69, 0, .inr (.inr (.inr (.inr (fun _ => none))))))] H) (hD : va_D A [(q1, .inr (11, [.ref q2, .ref q5, .ref q14, .ref q15, .ref q16, .ref q17, .ref q51, .ref q63, .ref q29, .ref q40, .int (-1)])), (q29, .inr (2, [.int 0, .ref q30, .ref q31, .ref q32, .ref q33, .ref q34, .ref q35, .int 0, .ref q36, .ref q37, .ref q38, .int 0, .ref q39])), (q64, .inr (15, [.ref q65, .int 0, .int (-1), .int 0, .ref q67, .ref q68, .ref q70, .ref q72, .ref q86])), (q68, .inl (c69, 0, .inr (.inr (.inr (.inr (fun _ => none))))))]) (hK : va_K (dC, dI) cls [(c69, .object RX14)] s) (hS : va_S A s.heap H locs) {ls : Array Slot} (hl : lv_has ls 9 [(4, .int 0), (3, .ref q87), (2, .ref q64), (1, .ref q1), (0, .ref b)])  : W p l e room_1 s m #[Value.ref b] below meth c H locs 369 122514 (lw_Z below #[Value.ref b] s) (F0 m 1974 ls []) := by
  obtain ⟨hx, hb, hr, hml, hown, hts0, hX, hbl, hlocks, hgv⟩ := id C0
  have hts : ∀ w ∈ gw, w.before #[Value.ref b] s = true := fun w h => hts0 w (gw_tbl h)
  have hbA : ¬ A b := fun h => absurd (hA2 b h) (Nat.not_le.mpr hbl)
  refine lv_aload_n hx hb dL_law_1974 rfl (lv_at hl 3 rfl) ?_
  refine lv_aload_n hx hb dL_law_1975 rfl (lv_at hl 4 rfl) ?_
  refine lv_iload hx hb dL_law_1976 (lv_at hl 0 rfl) ?_
  refine lv_iconst (v := 1) hx hb dL_law_1978 (by decide) ?_
  refine lv_iadd hx hb dL_law_1979 ?_
  refine lv_topC (y := 1) (by decide) ?_
  refine va_sld hx hb hX hbl hbA hS (by unfold vp_in; decide +kernel) dL_law_1980 ?_
  refine lv_topC (y := xs 1) rfl ?_
  refine lv_aload_n hx hb dL_law_1981 rfl (lv_at hl 1 rfl) ?_
  have hPc := hP.sub (ws' := [(q1, .inr (11, [.ref q2, .ref q5, .ref q14, .ref q15, .ref q16, .ref q17, .ref q51, .ref q63, .ref q29, .ref q40, .int (-1)])), (q29, .inr (2, [.int 0, .ref q30, .ref q31, .ref q32, .ref q33, .ref q34, .ref q35, .int 0, .ref q36, .ref q37, .ref q38, .int 0, .ref q39]))]) [0, 1] rfl
  have hDc := hD.sub (ws' := [(q1, .inr (11, [.ref q2, .ref q5, .ref q14, .ref q15, .ref q16, .ref q17, .ref q51, .ref q63, .ref q29, .ref q40, .int (-1)])), (q29, .inr (2, [.int 0, .ref q30, .ref q31, .ref q32, .ref q33, .ref q34, .ref q35, .int 0, .ref q36, .ref q37, .ref q38, .int 0, .ref q39]))]) [0, 1] (by decide) rfl
  have hKc := hK.sub (tys' := []) [] rfl
  have hFc := va_free (wc := [(q1, .inr (11, [.ref q2, .ref q5, .ref q14, .ref q15, .ref q16, .ref q17, .ref q51, .ref q63, .ref q29, .ref q40, .int (-1)])), (q29, .inr (2, [.int 0, .ref q30, .ref q31, .ref q32, .ref q33, .ref q34, .ref q35, .int 0, .ref q36, .ref q37, .ref q38, .int 0, .ref q39]))]) hD hS hA [0, 1] rfl
  refine va_calli (vx_runSW (As := [.ref q1, .int (xs 1), .ref q87]) (rest := []) ⟨hx, hb, hml, hown, hts⟩ (kL_lines l dC dI (gx := q1) (gq1 := q2) (gq4 := q5) (gq13 := q14) (gq136 := q15) (gq137 := q16) (gq138 := q17) (gq150 := q29) (gq151 := q30) (gq152 := q31) (gq153 := q32) (gq154 := q33) (gq155 := q34) (gq156 := q35) (gq157 := q36) (gq158 := q37) (gq159 := q38) (gq160 := q39) (gq161 := q40) (gq172 := q51) (gq184 := q63) (go := q87) (p0 := (xs 1)) (sz := _) (hl9 := hl9)) (vx_cwSW 3 hts (gi_S qw880 qw881 qw658 (gi_h qw879)) rfl rfl rfl (by decide +kernel) ⟨Nat.le_of_ble_eq_true rfl, Nat.le_of_ble_eq_true rfl⟩) ⟨PRE.blind, PRE.of hE hS hFc hPc hKc hDc⟩ rfl rfl hl.1 rfl (lv_room (Nat.le_of_ble_eq_true rfl)) dL_law_1982 ⟨Nat.le_of_ble_eq_true rfl, Nat.le_of_ble_eq_true rfl⟩) hS (fun q _ h => hFc q h) hFc (fun r90 u t H locs ht hvm hw hB hz1 hk1 hS => ?_)
  obtain ⟨hP, hD, hK⟩ := JOIN (wr := [(q64, .inr (15, [.ref q65, .int 0, .int (-1), .int 0, .ref q67, .ref q68, .ref q70, .ref q72, .ref q86])), (q68, .inl (c69, 0, .inr (.inr (.inr (.inr (fun _ => none))))))]) hP hD hK [0, 1] [2, 3] [0] rfl rfl (by decide) (by decide) rfl hk1 hFc ht hvm hB
  have hP : va_P (dC, dI) cls [(q64, .inr (15, [.ref q65, .int 0, .int (-1), .int 0, .ref q67, .ref q68, .ref q70, .ref q72, .ref q86])), (q68, .inl (c69, 0, .inr (.inr (.inr (.inr (fun _ => none))))))] H := hP
  have hD : va_D A [(q64, .inr (15, [.ref q65, .int 0, .int (-1), .int 0, .ref q67, .ref q68, .ref q70, .ref q72, .ref q86])), (q68, .inl (c69, 0, .inr (.inr (.inr (.inr (fun _ => none))))))] := hD
  have hK : va_K (dC, dI) cls [(c69, .object RX14)] s := hK
  refine W.widen (k := 370) (n := 122520) (Nat.le_of_ble_eq_true rfl) (Nat.le_of_ble_eq_true rfl) ?_
  obtain rfl : r90 = 1 := hw
  refine lv_istore (lv' := [(5, .int 1), (4, .int 0), (3, .ref q87), (2, .ref q64), (1, .ref q1), (0, .ref b)]) hx hb dL_law_1985 hl (by decide) rfl (fun ls hl => ?_)
  refine lv_aload_n hx hb dL_law_1987 rfl (lv_at hl 3 rfl) ?_
  refine lv_aload_n hx hb dL_law_1988 rfl (lv_at hl 5 rfl) ?_
  refine lv_iload hx hb dL_law_1989 (lv_at hl 1 rfl) ?_
  refine lv_iconst (v := 1) hx hb dL_law_1991 (by decide) ?_
  refine lv_iadd hx hb dL_law_1992 ?_
  refine lv_topC (y := 1) (by decide) ?_
  refine va_sld hx hb hX hbl hbA hS (by unfold vp_in; decide +kernel) dL_law_1993 ?_
  refine lv_topC (y := xs 1) rfl ?_
  have hPc := hP.sub (ws' := [(q64, .inr (15, [.ref q65, .int 0, .int (-1), .int 0, .ref q67, .ref q68, .ref q70, .ref q72, .ref q86])), (q68, .inl (c69, 0, .inr (.inr (.inr (.inr (fun _ => none))))))]) [0, 1] rfl
  have hDc := hD.sub (ws' := [(q64, .inr (15, [.ref q65, .int 0, .int (-1), .int 0, .ref q67, .ref q68, .ref q70, .ref q72, .ref q86])), (q68, .inl (c69, 0, .inr (.inr (.inr (.inr (fun _ => none))))))]) [0, 1] (by decide) rfl
  have hKc := hK.sub (tys' := [(c69, .object RX14)]) [0] rfl
  have hFc := va_free (wc := [(q64, .inr (15, [.ref q65, .int 0, .int (-1), .int 0, .ref q67, .ref q68, .ref q70, .ref q72, .ref q86])), (q68, .inl (c69, 0, .inr (.inr (.inr (.inr (fun _ => none))))))]) hD hS hA [0, 1] rfl
  refine va_calli (va_runV (As := [.int (xs 1)]) (rest := []) ⟨hx, hb, hml, hown, hts⟩ (kX24_lines l dC dI (mx := q64) (mq1 := q65) (mq3 := q67) (mq4 := q68) (mc5 := c69) (mq6 := q70) (mq8 := q72) (mq22 := q86) (p0 := (xs 1)) (sz := _)) (cwV 1 hts (gi_V qw883 qw884 qw885 qw434 (gi_z qw882)) rfl rfl rfl (by decide +kernel) ⟨Nat.le_of_ble_eq_true rfl, Nat.le_of_ble_eq_true rfl⟩) ⟨PRE.blind, va_recv hKc hPc (ci := 15) (q0 := 0) rfl rfl, PRE.of hE hS hFc hPc hKc hDc⟩ rfl rfl hl.1 rfl (lv_room (Nat.le_of_ble_eq_true rfl)) dL_law_1994 ⟨Nat.le_of_ble_eq_true rfl, Nat.le_of_ble_eq_true rfl⟩) hS (fun q _ h => hFc q h) hFc (fun r91 u t H locs ht hvm hw hB hz1 hk1 hS => ?_)
  obtain ⟨hP, hD, hK⟩ := JOIN (wr := []) hP hD hK [0, 1] [] [] rfl rfl (by decide) (by decide) rfl hk1 hFc ht hvm hB
  have hP : va_P (dC, dI) cls [(q64, .inr (15, [.ref q65, .int 0, .int (-1), .int 1, .ref q67, .ref q68, .ref q70, .ref q72, .ref q86]))] H := hP
  have hD : va_D A [(q64, .inr (15, [.ref q65, .int 0, .int (-1), .int 1, .ref q67, .ref q68, .ref q70, .ref q72, .ref q86]))] := hD
  have hK : va_K (dC, dI) cls [] s := hK
  refine W.widen (k := 370) (n := 122520) (Nat.le_of_ble_eq_true rfl) (Nat.le_of_ble_eq_true rfl) ?_
  obtain rfl : r91 = 0 := hw
  refine lv_istore (lv' := [(6, .int 0), (5, .int 1), (4, .int 0), (3, .ref q87), (2, .ref q64), (1, .ref q1), (0, .ref b)]) hx hb dL_law_1997 hl (by decide) rfl (fun ls hl => ?_)
  refine lv_aload_n hx hb dL_law_1999 rfl (lv_at hl 4 rfl) ?_
  have hPc := hP.sub (ws' := [(q64, .inr (15, [.ref q65, .int 0, .int (-1), .int 1, .ref q67, .ref q68, .ref q70, .ref q72, .ref q86]))]) [0] rfl
  have hDc := hD.sub (ws' := [(q64, .inr (15, [.ref q65, .int 0, .int (-1), .int 1, .ref q67, .ref q68, .ref q70, .ref q72, .ref q86]))]) [0] (by decide) rfl
  have hKc := hK.sub (tys' := []) [] rfl
  have hFc := va_free (wc := [(q64, .inr (15, [.ref q65, .int 0, .int (-1), .int 1, .ref q67, .ref q68, .ref q70, .ref q72, .ref q86]))]) hD hS hA [0] rfl
  refine va_calli (va_runV (As := []) (rest := []) ⟨hx, hb, hml, hown, hts⟩ (kX24_thrown_n64 l dC dI (a0 := q64) (a60 := q65) (a62 := q68) (a64 := q70) (a66 := q72) (a82 := q67) (a83 := q86) (sz := _)) (cwV 0 hts (gi_V qw664 qw665 qw666 qw434 (gi_z qw663)) rfl rfl rfl (by decide +kernel) ⟨Nat.le_of_ble_eq_true rfl, Nat.le_of_ble_eq_true rfl⟩) ⟨PRE.blind, va_recv hKc hPc (ci := 15) (q0 := 0) rfl rfl, PRE.of hE hS hFc hPc hKc hDc⟩ rfl rfl hl.1 rfl (lv_room (Nat.le_of_ble_eq_true rfl)) dL_law_2000 ⟨Nat.le_of_ble_eq_true rfl, Nat.le_of_ble_eq_true rfl⟩) hS (fun q _ h => hFc q h) hFc (fun r92 u t H locs ht hvm hw hB hz1 hk1 hS => ?_)
  obtain ⟨hP, hD, hK⟩ := JOIN (wr := []) hP hD hK [0] [] [] rfl rfl (by decide) (by decide) rfl hk1 hFc ht hvm hB
  have hP : va_P (dC, dI) cls [(q64, .inr (15, [.ref q65, .int 0, .int (-1), .int 1, .ref q67, .ref q68, .ref q70, .ref q72, .ref q86]))] H := hP
  have hD : va_D A [(q64, .inr (15, [.ref q65, .int 0, .int (-1), .int 1, .ref q67, .ref q68, .ref q70, .ref q72, .ref q86]))] := hD
  have hK : va_K (dC, dI) cls [] s := hK
  refine W.widen (k := 370) (n := 122520) (Nat.le_of_ble_eq_true rfl) (Nat.le_of_ble_eq_true rfl) ?_
  obtain rfl : r92 = 1 := hw
  refine lv_iload hx hb dL_law_2003 (lv_at hl 1 rfl) ?_
  refine lv_icmp_eq (tgt := 2010) hx hb dL_law_2005 (by decide) (fun _ => ?_) (fun c => absurd (by decide) c)
  refine lv_iload hx hb dL_law_2010 (lv_at hl 1 rfl) ?_
  refine lv_if_ne (tgt := 2027) hx hb dL_law_2012 (by decide) (fun _ => ?_) (fun c => absurd c (by decide))
  refine lv_goto (tgt := 2818) hx hb dL_law_2027 (by decide) ?_
  refine lv_iinc (v := 7) (lv' := [(4, .int 7), (6, .int 0), (5, .int 1), (3, .ref q87), (2, .ref q64), (1, .ref q1), (0, .ref b)]) hx hb dL_law_2818 hl (k := 2) rfl (by decide) (by decide) rfl (fun ls hl => ?_)
  refine lv_goto (tgt := 23) hx hb dL_law_2821 (by decide) ?_
  refine lv_iload hx hb dL_law_23 (lv_at hl 0 rfl) ?_
  refine lv_aload_n hx hb dL_law_25 rfl (lv_at hl 6 rfl) ?_
  refine va_slen hx hb hX hbl hbA hS dL_law_26 ?_
  refine lv_topC (y := 7) rfl ?_
  refine lv_bipush (v := 7) hx hb dL_law_27 (by decide) ?_
  refine lv_isub hx hb dL_law_29 ?_
  refine lv_topC (y := 0) (by decide) ?_
  refine lv_icmp_gt (tgt := 2824) hx hb dL_law_30 (by decide) (fun _ => ?_) (fun c => absurd (by decide) c)
  refine lv_iconst (v := 1) hx hb dL_law_2824 (by decide) ?_
  refine va_forget (fun q hq => hA2 _ (hS.2.2 q hq)) ?_
  refine W.widen (k := 600002) (n := 7302232) (Nat.le_of_ble_eq_true rfl) (Nat.le_of_ble_eq_true rfl) ?_
  exact lw_ret (d0 := s.drawn) (Drawn.sameBut.refl s.drawn lw_cs) hx hb hr hlocks dL_law_2825
set_option maxHeartbeats 4000000 in
set_option maxRecDepth 100000 in
theorem law_33 {zs : Nat × Nat} {p : Program} {e : Env} {s : State} {m : MethodId} {below : List Frame} {meth : Method} {c : Code} {l : Launch} {b : Nat} {xs : Nat → Int32} {dC : Nat → ClassId} {dI : Nat → Nat → Nat} {A : Nat → Prop} (C0 : lw_At p s m meth c b 7 xs) (hl9 : l.stackTraces = false) (hA : ∀ q, s.heap.size ≤ q → A q) (hA2 : ∀ q, A q → s.heap.size ≤ q) (hE : ENV zs A s s.heap) {H : Heap} {locs : List Loc} (q1 : Nat) (q2 : Nat) (q5 : Nat) (q14 : Nat) (q15 : Nat) (q16 : Nat) (q17 : Nat) (q29 : Nat) (q30 : Nat) (q31 : Nat) (q32 : Nat) (q33 : Nat) (q34 : Nat) (q35 : Nat) (q36 : Nat) (q37 : Nat) (q38 : Nat) (q39 : Nat) (q40 : Nat) (q51 : Nat) (q63 : Nat) (q64 : Nat) (q65 : Nat) (q67 : Nat) (q68 : Nat) (c69 : ClassId) (q70 : Nat) (q72 : Nat) (q86 : Nat) (q87 : Nat) (hP : va_P (dC, dI) cls [(q1, .inr (11, [.ref q2, .ref q5, .ref q14, .ref q15, .ref q16, .ref q17, .ref q51, .ref q63, .ref q29, .ref q40, .int (-1)])), (q29, .inr (2, [.int 0, .ref q30, .ref q31, .ref q32, .ref q33, .ref q34, .ref q35, .int 0, .ref q36, .ref q37, .ref q38, .int 0, .ref q39])), (q64, .inr (15, [.ref q65, .int 0, .int (-1), .int 0, .ref q67, .ref q68, .ref q70, .ref q72, .ref q86])), (q68, .inl (c69, 0, .inr (.inr (.inr (.inr (fun _ => none))))))] H) (hD : va_D A [(q1, .inr (11, [.ref q2, .ref q5, .ref q14, .ref q15, .ref q16, .ref q17, .ref q51, .ref q63, .ref q29, .ref q40, .int (-1)])), (q29, .inr (2, [.int 0, .ref q30, .ref q31, .ref q32, .ref q33, .ref q34, .ref q35, .int 0, .ref q36, .ref q37, .ref q38, .int 0, .ref q39])), (q64, .inr (15, [.ref q65, .int 0, .int (-1), .int 0, .ref q67, .ref q68, .ref q70, .ref q72, .ref q86])), (q68, .inl (c69, 0, .inr (.inr (.inr (.inr (fun _ => none))))))]) (hK : va_K (dC, dI) cls [(c69, .object RX14)] s) (hS : va_S A s.heap H locs) {ls : Array Slot} (hl : lv_has ls 9 [(4, .int 0), (3, .ref q87), (2, .ref q64), (1, .ref q1), (0, .ref b)])  : W p l e room_1 s m #[Value.ref b] below meth c H locs 369 122514 (lw_Z below #[Value.ref b] s) (F0 m 2030 ls []) := by
  obtain ⟨hx, hb, hr, hml, hown, hts0, hX, hbl, hlocks, hgv⟩ := id C0
  have hts : ∀ w ∈ gw, w.before #[Value.ref b] s = true := fun w h => hts0 w (gw_tbl h)
  have hbA : ¬ A b := fun h => absurd (hA2 b h) (Nat.not_le.mpr hbl)
  refine lv_aload_n hx hb dL_law_2030 rfl (lv_at hl 3 rfl) ?_
  refine lv_aload_n hx hb dL_law_2031 rfl (lv_at hl 4 rfl) ?_
  refine lv_iload hx hb dL_law_2032 (lv_at hl 0 rfl) ?_
  refine lv_iconst (v := 1) hx hb dL_law_2034 (by decide) ?_
  refine lv_iadd hx hb dL_law_2035 ?_
  refine lv_topC (y := 1) (by decide) ?_
  refine va_sld hx hb hX hbl hbA hS (by unfold vp_in; decide +kernel) dL_law_2036 ?_
  refine lv_topC (y := xs 1) rfl ?_
  refine lv_aload_n hx hb dL_law_2037 rfl (lv_at hl 4 rfl) ?_
  refine lv_iload hx hb dL_law_2038 (lv_at hl 0 rfl) ?_
  refine lv_iconst (v := 2) hx hb dL_law_2040 (by decide) ?_
  refine lv_iadd hx hb dL_law_2041 ?_
  refine lv_topC (y := 2) (by decide) ?_
  refine va_sld hx hb hX hbl hbA hS (by unfold vp_in; decide +kernel) dL_law_2042 ?_
  refine lv_topC (y := xs 2) rfl ?_
  refine lv_aload_n hx hb dL_law_2043 rfl (lv_at hl 1 rfl) ?_
  have hPc := hP.sub (ws' := [(q1, .inr (11, [.ref q2, .ref q5, .ref q14, .ref q15, .ref q16, .ref q17, .ref q51, .ref q63, .ref q29, .ref q40, .int (-1)])), (q29, .inr (2, [.int 0, .ref q30, .ref q31, .ref q32, .ref q33, .ref q34, .ref q35, .int 0, .ref q36, .ref q37, .ref q38, .int 0, .ref q39]))]) [0, 1] rfl
  have hDc := hD.sub (ws' := [(q1, .inr (11, [.ref q2, .ref q5, .ref q14, .ref q15, .ref q16, .ref q17, .ref q51, .ref q63, .ref q29, .ref q40, .int (-1)])), (q29, .inr (2, [.int 0, .ref q30, .ref q31, .ref q32, .ref q33, .ref q34, .ref q35, .int 0, .ref q36, .ref q37, .ref q38, .int 0, .ref q39]))]) [0, 1] (by decide) rfl
  have hKc := hK.sub (tys' := []) [] rfl
  have hFc := va_free (wc := [(q1, .inr (11, [.ref q2, .ref q5, .ref q14, .ref q15, .ref q16, .ref q17, .ref q51, .ref q63, .ref q29, .ref q40, .int (-1)])), (q29, .inr (2, [.int 0, .ref q30, .ref q31, .ref q32, .ref q33, .ref q34, .ref q35, .int 0, .ref q36, .ref q37, .ref q38, .int 0, .ref q39]))]) hD hS hA [0, 1] rfl
  refine va_calli (vx_runSW (As := [.ref q1, .int (xs 1), .int (xs 2), .ref q87]) (rest := []) ⟨hx, hb, hml, hown, hts⟩ (kL_codeKind l dC dI (gx := q1) (gq1 := q2) (gq4 := q5) (gq13 := q14) (gq136 := q15) (gq137 := q16) (gq138 := q17) (gq150 := q29) (gq151 := q30) (gq152 := q31) (gq153 := q32) (gq154 := q33) (gq155 := q34) (gq156 := q35) (gq157 := q36) (gq158 := q37) (gq159 := q38) (gq160 := q39) (gq161 := q40) (gq172 := q51) (gq184 := q63) (go := q87) (p0 := (xs 1)) (p1 := (xs 2)) (sz := _) (hl9 := hl9)) (vx_cwSW 4 hts (gi_S qw887 qw888 qw658 (gi_h qw886)) rfl rfl rfl (by decide +kernel) ⟨Nat.le_of_ble_eq_true rfl, Nat.le_of_ble_eq_true rfl⟩) ⟨PRE.blind, PRE.of hE hS hFc hPc hKc hDc⟩ rfl rfl hl.1 rfl (lv_room (Nat.le_of_ble_eq_true rfl)) dL_law_2044 ⟨Nat.le_of_ble_eq_true rfl, Nat.le_of_ble_eq_true rfl⟩) hS (fun q _ h => hFc q h) hFc (fun r90 u t H locs ht hvm hw hB hz1 hk1 hS => ?_)
  obtain ⟨hP, hD, hK⟩ := JOIN (wr := [(q64, .inr (15, [.ref q65, .int 0, .int (-1), .int 0, .ref q67, .ref q68, .ref q70, .ref q72, .ref q86])), (q68, .inl (c69, 0, .inr (.inr (.inr (.inr (fun _ => none))))))]) hP hD hK [0, 1] [2, 3] [0] rfl rfl (by decide) (by decide) rfl hk1 hFc ht hvm hB
  have hP : va_P (dC, dI) cls [(q64, .inr (15, [.ref q65, .int 0, .int (-1), .int 0, .ref q67, .ref q68, .ref q70, .ref q72, .ref q86])), (q68, .inl (c69, 0, .inr (.inr (.inr (.inr (fun _ => none))))))] H := hP
  have hD : va_D A [(q64, .inr (15, [.ref q65, .int 0, .int (-1), .int 0, .ref q67, .ref q68, .ref q70, .ref q72, .ref q86])), (q68, .inl (c69, 0, .inr (.inr (.inr (.inr (fun _ => none))))))] := hD
  have hK : va_K (dC, dI) cls [(c69, .object RX14)] s := hK
  refine W.widen (k := 370) (n := 122520) (Nat.le_of_ble_eq_true rfl) (Nat.le_of_ble_eq_true rfl) ?_
  obtain rfl : r90 = 1 := hw
  refine lv_istore (lv' := [(5, .int 1), (4, .int 0), (3, .ref q87), (2, .ref q64), (1, .ref q1), (0, .ref b)]) hx hb dL_law_2047 hl (by decide) rfl (fun ls hl => ?_)
  refine lv_aload_n hx hb dL_law_2049 rfl (lv_at hl 3 rfl) ?_
  refine lv_aload_n hx hb dL_law_2050 rfl (lv_at hl 5 rfl) ?_
  refine lv_iload hx hb dL_law_2051 (lv_at hl 1 rfl) ?_
  refine lv_iconst (v := 1) hx hb dL_law_2053 (by decide) ?_
  refine lv_iadd hx hb dL_law_2054 ?_
  refine lv_topC (y := 1) (by decide) ?_
  refine va_sld hx hb hX hbl hbA hS (by unfold vp_in; decide +kernel) dL_law_2055 ?_
  refine lv_topC (y := xs 1) rfl ?_
  refine lv_aload_n hx hb dL_law_2056 rfl (lv_at hl 5 rfl) ?_
  refine lv_iload hx hb dL_law_2057 (lv_at hl 1 rfl) ?_
  refine lv_iconst (v := 2) hx hb dL_law_2059 (by decide) ?_
  refine lv_iadd hx hb dL_law_2060 ?_
  refine lv_topC (y := 2) (by decide) ?_
  refine va_sld hx hb hX hbl hbA hS (by unfold vp_in; decide +kernel) dL_law_2061 ?_
  refine lv_topC (y := xs 2) rfl ?_
  have hPc := hP.sub (ws' := [(q64, .inr (15, [.ref q65, .int 0, .int (-1), .int 0, .ref q67, .ref q68, .ref q70, .ref q72, .ref q86])), (q68, .inl (c69, 0, .inr (.inr (.inr (.inr (fun _ => none))))))]) [0, 1] rfl
  have hDc := hD.sub (ws' := [(q64, .inr (15, [.ref q65, .int 0, .int (-1), .int 0, .ref q67, .ref q68, .ref q70, .ref q72, .ref q86])), (q68, .inl (c69, 0, .inr (.inr (.inr (.inr (fun _ => none))))))]) [0, 1] (by decide) rfl
  have hKc := hK.sub (tys' := [(c69, .object RX14)]) [0] rfl
  have hFc := va_free (wc := [(q64, .inr (15, [.ref q65, .int 0, .int (-1), .int 0, .ref q67, .ref q68, .ref q70, .ref q72, .ref q86])), (q68, .inl (c69, 0, .inr (.inr (.inr (.inr (fun _ => none))))))]) hD hS hA [0, 1] rfl
  refine va_calli (va_runV (As := [.int (xs 1), .int (xs 2)]) (rest := []) ⟨hx, hb, hml, hown, hts⟩ (kX24_codeKind l dC dI (mx := q64) (mq1 := q65) (mq3 := q67) (mq4 := q68) (mc5 := c69) (mq6 := q70) (mq8 := q72) (mq22 := q86) (p0 := (xs 1)) (p1 := (xs 2)) (sz := _)) (cwV 2 hts (gi_V qw890 qw891 qw892 qw434 (gi_z qw889)) rfl rfl rfl (by decide +kernel) ⟨Nat.le_of_ble_eq_true rfl, Nat.le_of_ble_eq_true rfl⟩) ⟨PRE.blind, va_recv hKc hPc (ci := 15) (q0 := 0) rfl rfl, PRE.of hE hS hFc hPc hKc hDc⟩ rfl rfl hl.1 rfl (lv_room (Nat.le_of_ble_eq_true rfl)) dL_law_2062 ⟨Nat.le_of_ble_eq_true rfl, Nat.le_of_ble_eq_true rfl⟩) hS (fun q _ h => hFc q h) hFc (fun r91 u t H locs ht hvm hw hB hz1 hk1 hS => ?_)
  obtain ⟨hP, hD, hK⟩ := JOIN (wr := []) hP hD hK [0, 1] [] [] rfl rfl (by decide) (by decide) rfl hk1 hFc ht hvm hB
  have hP : va_P (dC, dI) cls [(q64, .inr (15, [.ref q65, .int 0, .int (-1), .int 1, .ref q67, .ref q68, .ref q70, .ref q72, .ref q86]))] H := hP
  have hD : va_D A [(q64, .inr (15, [.ref q65, .int 0, .int (-1), .int 1, .ref q67, .ref q68, .ref q70, .ref q72, .ref q86]))] := hD
  have hK : va_K (dC, dI) cls [] s := hK
  refine W.widen (k := 370) (n := 122520) (Nat.le_of_ble_eq_true rfl) (Nat.le_of_ble_eq_true rfl) ?_
  obtain rfl : r91 = 0 := hw
  refine lv_istore (lv' := [(6, .int 0), (5, .int 1), (4, .int 0), (3, .ref q87), (2, .ref q64), (1, .ref q1), (0, .ref b)]) hx hb dL_law_2065 hl (by decide) rfl (fun ls hl => ?_)
  refine lv_aload_n hx hb dL_law_2067 rfl (lv_at hl 4 rfl) ?_
  have hPc := hP.sub (ws' := [(q64, .inr (15, [.ref q65, .int 0, .int (-1), .int 1, .ref q67, .ref q68, .ref q70, .ref q72, .ref q86]))]) [0] rfl
  have hDc := hD.sub (ws' := [(q64, .inr (15, [.ref q65, .int 0, .int (-1), .int 1, .ref q67, .ref q68, .ref q70, .ref q72, .ref q86]))]) [0] (by decide) rfl
  have hKc := hK.sub (tys' := []) [] rfl
  have hFc := va_free (wc := [(q64, .inr (15, [.ref q65, .int 0, .int (-1), .int 1, .ref q67, .ref q68, .ref q70, .ref q72, .ref q86]))]) hD hS hA [0] rfl
  refine va_calli (va_runV (As := []) (rest := []) ⟨hx, hb, hml, hown, hts⟩ (kX24_thrown_n64 l dC dI (a0 := q64) (a60 := q65) (a62 := q68) (a64 := q70) (a66 := q72) (a82 := q67) (a83 := q86) (sz := _)) (cwV 0 hts (gi_V qw664 qw665 qw666 qw434 (gi_z qw663)) rfl rfl rfl (by decide +kernel) ⟨Nat.le_of_ble_eq_true rfl, Nat.le_of_ble_eq_true rfl⟩) ⟨PRE.blind, va_recv hKc hPc (ci := 15) (q0 := 0) rfl rfl, PRE.of hE hS hFc hPc hKc hDc⟩ rfl rfl hl.1 rfl (lv_room (Nat.le_of_ble_eq_true rfl)) dL_law_2068 ⟨Nat.le_of_ble_eq_true rfl, Nat.le_of_ble_eq_true rfl⟩) hS (fun q _ h => hFc q h) hFc (fun r92 u t H locs ht hvm hw hB hz1 hk1 hS => ?_)
  obtain ⟨hP, hD, hK⟩ := JOIN (wr := []) hP hD hK [0] [] [] rfl rfl (by decide) (by decide) rfl hk1 hFc ht hvm hB
  have hP : va_P (dC, dI) cls [(q64, .inr (15, [.ref q65, .int 0, .int (-1), .int 1, .ref q67, .ref q68, .ref q70, .ref q72, .ref q86]))] H := hP
  have hD : va_D A [(q64, .inr (15, [.ref q65, .int 0, .int (-1), .int 1, .ref q67, .ref q68, .ref q70, .ref q72, .ref q86]))] := hD
  have hK : va_K (dC, dI) cls [] s := hK
  refine W.widen (k := 370) (n := 122520) (Nat.le_of_ble_eq_true rfl) (Nat.le_of_ble_eq_true rfl) ?_
  obtain rfl : r92 = 1 := hw
  refine lv_iload hx hb dL_law_2071 (lv_at hl 1 rfl) ?_
  refine lv_icmp_eq (tgt := 2078) hx hb dL_law_2073 (by decide) (fun _ => ?_) (fun c => absurd (by decide) c)
  refine lv_iload hx hb dL_law_2078 (lv_at hl 1 rfl) ?_
  refine lv_if_ne (tgt := 2095) hx hb dL_law_2080 (by decide) (fun _ => ?_) (fun c => absurd c (by decide))
  refine lv_goto (tgt := 2818) hx hb dL_law_2095 (by decide) ?_
  refine lv_iinc (v := 7) (lv' := [(4, .int 7), (6, .int 0), (5, .int 1), (3, .ref q87), (2, .ref q64), (1, .ref q1), (0, .ref b)]) hx hb dL_law_2818 hl (k := 2) rfl (by decide) (by decide) rfl (fun ls hl => ?_)
  refine lv_goto (tgt := 23) hx hb dL_law_2821 (by decide) ?_
  refine lv_iload hx hb dL_law_23 (lv_at hl 0 rfl) ?_
  refine lv_aload_n hx hb dL_law_25 rfl (lv_at hl 6 rfl) ?_
  refine va_slen hx hb hX hbl hbA hS dL_law_26 ?_
  refine lv_topC (y := 7) rfl ?_
  refine lv_bipush (v := 7) hx hb dL_law_27 (by decide) ?_
  refine lv_isub hx hb dL_law_29 ?_
  refine lv_topC (y := 0) (by decide) ?_
  refine lv_icmp_gt (tgt := 2824) hx hb dL_law_30 (by decide) (fun _ => ?_) (fun c => absurd (by decide) c)
  refine lv_iconst (v := 1) hx hb dL_law_2824 (by decide) ?_
  refine va_forget (fun q hq => hA2 _ (hS.2.2 q hq)) ?_
  refine W.widen (k := 600002) (n := 7302232) (Nat.le_of_ble_eq_true rfl) (Nat.le_of_ble_eq_true rfl) ?_
  exact lw_ret (d0 := s.drawn) (Drawn.sameBut.refl s.drawn lw_cs) hx hb hr hlocks dL_law_2825
set_option maxHeartbeats 4000000 in
set_option maxRecDepth 100000 in
theorem law_34 {zs : Nat × Nat} {p : Program} {e : Env} {s : State} {m : MethodId} {below : List Frame} {meth : Method} {c : Code} {l : Launch} {b : Nat} {xs : Nat → Int32} {dC : Nat → ClassId} {dI : Nat → Nat → Nat} {A : Nat → Prop} (C0 : lw_At p s m meth c b 7 xs) (hl9 : l.stackTraces = false) (hA : ∀ q, s.heap.size ≤ q → A q) (hA2 : ∀ q, A q → s.heap.size ≤ q) (hE : ENV zs A s s.heap) {H : Heap} {locs : List Loc} (q1 : Nat) (q2 : Nat) (q5 : Nat) (q14 : Nat) (q15 : Nat) (q16 : Nat) (q17 : Nat) (q29 : Nat) (q30 : Nat) (q31 : Nat) (q32 : Nat) (q33 : Nat) (q34 : Nat) (q35 : Nat) (q36 : Nat) (q37 : Nat) (q38 : Nat) (q39 : Nat) (q40 : Nat) (q51 : Nat) (q63 : Nat) (q64 : Nat) (q65 : Nat) (q67 : Nat) (q68 : Nat) (c69 : ClassId) (q70 : Nat) (q72 : Nat) (q86 : Nat) (q87 : Nat) (hP : va_P (dC, dI) cls [(q1, .inr (11, [.ref q2, .ref q5, .ref q14, .ref q15, .ref q16, .ref q17, .ref q51, .ref q63, .ref q29, .ref q40, .int (-1)])), (q29, .inr (2, [.int 0, .ref q30, .ref q31, .ref q32, .ref q33, .ref q34, .ref q35, .int 0, .ref q36, .ref q37, .ref q38, .int 0, .ref q39])), (q64, .inr (15, [.ref q65, .int 0, .int (-1), .int 0, .ref q67, .ref q68, .ref q70, .ref q72, .ref q86])), (q68, .inl (c69, 0, .inr (.inr (.inr (.inr (fun _ => none))))))] H) (hD : va_D A [(q1, .inr (11, [.ref q2, .ref q5, .ref q14, .ref q15, .ref q16, .ref q17, .ref q51, .ref q63, .ref q29, .ref q40, .int (-1)])), (q29, .inr (2, [.int 0, .ref q30, .ref q31, .ref q32, .ref q33, .ref q34, .ref q35, .int 0, .ref q36, .ref q37, .ref q38, .int 0, .ref q39])), (q64, .inr (15, [.ref q65, .int 0, .int (-1), .int 0, .ref q67, .ref q68, .ref q70, .ref q72, .ref q86])), (q68, .inl (c69, 0, .inr (.inr (.inr (.inr (fun _ => none))))))]) (hK : va_K (dC, dI) cls [(c69, .object RX14)] s) (hS : va_S A s.heap H locs) {ls : Array Slot} (hl : lv_has ls 9 [(4, .int 0), (3, .ref q87), (2, .ref q64), (1, .ref q1), (0, .ref b)])  : W p l e room_1 s m #[Value.ref b] below meth c H locs 369 122514 (lw_Z below #[Value.ref b] s) (F0 m 2098 ls []) := by
  obtain ⟨hx, hb, hr, hml, hown, hts0, hX, hbl, hlocks, hgv⟩ := id C0
  have hts : ∀ w ∈ gw, w.before #[Value.ref b] s = true := fun w h => hts0 w (gw_tbl h)
  have hbA : ¬ A b := fun h => absurd (hA2 b h) (Nat.not_le.mpr hbl)
  refine lv_aload_n hx hb dL_law_2098 rfl (lv_at hl 3 rfl) ?_
  refine lv_aload_n hx hb dL_law_2099 rfl (lv_at hl 4 rfl) ?_
  refine lv_iload hx hb dL_law_2100 (lv_at hl 0 rfl) ?_
  refine lv_iconst (v := 1) hx hb dL_law_2102 (by decide) ?_
  refine lv_iadd hx hb dL_law_2103 ?_
  refine lv_topC (y := 1) (by decide) ?_
  refine va_sld hx hb hX hbl hbA hS (by unfold vp_in; decide +kernel) dL_law_2104 ?_
  refine lv_topC (y := xs 1) rfl ?_
  refine lv_aload_n hx hb dL_law_2105 rfl (lv_at hl 4 rfl) ?_
  refine lv_iload hx hb dL_law_2106 (lv_at hl 0 rfl) ?_
  refine lv_iconst (v := 2) hx hb dL_law_2108 (by decide) ?_
  refine lv_iadd hx hb dL_law_2109 ?_
  refine lv_topC (y := 2) (by decide) ?_
  refine va_sld hx hb hX hbl hbA hS (by unfold vp_in; decide +kernel) dL_law_2110 ?_
  refine lv_topC (y := xs 2) rfl ?_
  refine lv_aload_n hx hb dL_law_2111 rfl (lv_at hl 1 rfl) ?_
  have hPc := hP.sub (ws' := [(q1, .inr (11, [.ref q2, .ref q5, .ref q14, .ref q15, .ref q16, .ref q17, .ref q51, .ref q63, .ref q29, .ref q40, .int (-1)])), (q29, .inr (2, [.int 0, .ref q30, .ref q31, .ref q32, .ref q33, .ref q34, .ref q35, .int 0, .ref q36, .ref q37, .ref q38, .int 0, .ref q39]))]) [0, 1] rfl
  have hDc := hD.sub (ws' := [(q1, .inr (11, [.ref q2, .ref q5, .ref q14, .ref q15, .ref q16, .ref q17, .ref q51, .ref q63, .ref q29, .ref q40, .int (-1)])), (q29, .inr (2, [.int 0, .ref q30, .ref q31, .ref q32, .ref q33, .ref q34, .ref q35, .int 0, .ref q36, .ref q37, .ref q38, .int 0, .ref q39]))]) [0, 1] (by decide) rfl
  have hKc := hK.sub (tys' := []) [] rfl
  have hFc := va_free (wc := [(q1, .inr (11, [.ref q2, .ref q5, .ref q14, .ref q15, .ref q16, .ref q17, .ref q51, .ref q63, .ref q29, .ref q40, .int (-1)])), (q29, .inr (2, [.int 0, .ref q30, .ref q31, .ref q32, .ref q33, .ref q34, .ref q35, .int 0, .ref q36, .ref q37, .ref q38, .int 0, .ref q39]))]) hD hS hA [0, 1] rfl
  refine va_calli (vx_runSW (As := [.ref q1, .int (xs 1), .int (xs 2), .ref q87]) (rest := []) ⟨hx, hb, hml, hown, hts⟩ (kL_codeGives l dC dI (gx := q1) (gq1 := q2) (gq4 := q5) (gq13 := q14) (gq136 := q15) (gq137 := q16) (gq138 := q17) (gq150 := q29) (gq151 := q30) (gq152 := q31) (gq153 := q32) (gq154 := q33) (gq155 := q34) (gq156 := q35) (gq157 := q36) (gq158 := q37) (gq159 := q38) (gq160 := q39) (gq161 := q40) (gq172 := q51) (gq184 := q63) (go := q87) (p0 := (xs 1)) (p1 := (xs 2)) (sz := _) (hl9 := hl9)) (vx_cwSW 4 hts (gi_S qw894 qw895 qw658 (gi_h qw893)) rfl rfl rfl (by decide +kernel) ⟨Nat.le_of_ble_eq_true rfl, Nat.le_of_ble_eq_true rfl⟩) ⟨PRE.blind, PRE.of hE hS hFc hPc hKc hDc⟩ rfl rfl hl.1 rfl (lv_room (Nat.le_of_ble_eq_true rfl)) dL_law_2112 ⟨Nat.le_of_ble_eq_true rfl, Nat.le_of_ble_eq_true rfl⟩) hS (fun q _ h => hFc q h) hFc (fun r90 u t H locs ht hvm hw hB hz1 hk1 hS => ?_)
  obtain ⟨hP, hD, hK⟩ := JOIN (wr := [(q64, .inr (15, [.ref q65, .int 0, .int (-1), .int 0, .ref q67, .ref q68, .ref q70, .ref q72, .ref q86])), (q68, .inl (c69, 0, .inr (.inr (.inr (.inr (fun _ => none))))))]) hP hD hK [0, 1] [2, 3] [0] rfl rfl (by decide) (by decide) rfl hk1 hFc ht hvm hB
  have hP : va_P (dC, dI) cls [(q64, .inr (15, [.ref q65, .int 0, .int (-1), .int 0, .ref q67, .ref q68, .ref q70, .ref q72, .ref q86])), (q68, .inl (c69, 0, .inr (.inr (.inr (.inr (fun _ => none))))))] H := hP
  have hD : va_D A [(q64, .inr (15, [.ref q65, .int 0, .int (-1), .int 0, .ref q67, .ref q68, .ref q70, .ref q72, .ref q86])), (q68, .inl (c69, 0, .inr (.inr (.inr (.inr (fun _ => none))))))] := hD
  have hK : va_K (dC, dI) cls [(c69, .object RX14)] s := hK
  refine W.widen (k := 370) (n := 122520) (Nat.le_of_ble_eq_true rfl) (Nat.le_of_ble_eq_true rfl) ?_
  obtain rfl : r90 = 1 := hw
  refine lv_istore (lv' := [(5, .int 1), (4, .int 0), (3, .ref q87), (2, .ref q64), (1, .ref q1), (0, .ref b)]) hx hb dL_law_2115 hl (by decide) rfl (fun ls hl => ?_)
  refine lv_aload_n hx hb dL_law_2117 rfl (lv_at hl 3 rfl) ?_
  refine lv_aload_n hx hb dL_law_2118 rfl (lv_at hl 5 rfl) ?_
  refine lv_iload hx hb dL_law_2119 (lv_at hl 1 rfl) ?_
  refine lv_iconst (v := 1) hx hb dL_law_2121 (by decide) ?_
  refine lv_iadd hx hb dL_law_2122 ?_
  refine lv_topC (y := 1) (by decide) ?_
  refine va_sld hx hb hX hbl hbA hS (by unfold vp_in; decide +kernel) dL_law_2123 ?_
  refine lv_topC (y := xs 1) rfl ?_
  refine lv_aload_n hx hb dL_law_2124 rfl (lv_at hl 5 rfl) ?_
  refine lv_iload hx hb dL_law_2125 (lv_at hl 1 rfl) ?_
  refine lv_iconst (v := 2) hx hb dL_law_2127 (by decide) ?_
  refine lv_iadd hx hb dL_law_2128 ?_
  refine lv_topC (y := 2) (by decide) ?_
  refine va_sld hx hb hX hbl hbA hS (by unfold vp_in; decide +kernel) dL_law_2129 ?_
  refine lv_topC (y := xs 2) rfl ?_
  have hPc := hP.sub (ws' := [(q64, .inr (15, [.ref q65, .int 0, .int (-1), .int 0, .ref q67, .ref q68, .ref q70, .ref q72, .ref q86])), (q68, .inl (c69, 0, .inr (.inr (.inr (.inr (fun _ => none))))))]) [0, 1] rfl
  have hDc := hD.sub (ws' := [(q64, .inr (15, [.ref q65, .int 0, .int (-1), .int 0, .ref q67, .ref q68, .ref q70, .ref q72, .ref q86])), (q68, .inl (c69, 0, .inr (.inr (.inr (.inr (fun _ => none))))))]) [0, 1] (by decide) rfl
  have hKc := hK.sub (tys' := [(c69, .object RX14)]) [0] rfl
  have hFc := va_free (wc := [(q64, .inr (15, [.ref q65, .int 0, .int (-1), .int 0, .ref q67, .ref q68, .ref q70, .ref q72, .ref q86])), (q68, .inl (c69, 0, .inr (.inr (.inr (.inr (fun _ => none))))))]) hD hS hA [0, 1] rfl
  refine va_calli (va_runV (As := [.int (xs 1), .int (xs 2)]) (rest := []) ⟨hx, hb, hml, hown, hts⟩ (kX24_codeGives l dC dI (mx := q64) (mq1 := q65) (mq3 := q67) (mq4 := q68) (mc5 := c69) (mq6 := q70) (mq8 := q72) (mq22 := q86) (p0 := (xs 1)) (p1 := (xs 2)) (sz := _)) (cwV 2 hts (gi_V qw897 qw898 qw899 qw434 (gi_z qw896)) rfl rfl rfl (by decide +kernel) ⟨Nat.le_of_ble_eq_true rfl, Nat.le_of_ble_eq_true rfl⟩) ⟨PRE.blind, va_recv hKc hPc (ci := 15) (q0 := 0) rfl rfl, PRE.of hE hS hFc hPc hKc hDc⟩ rfl rfl hl.1 rfl (lv_room (Nat.le_of_ble_eq_true rfl)) dL_law_2130 ⟨Nat.le_of_ble_eq_true rfl, Nat.le_of_ble_eq_true rfl⟩) hS (fun q _ h => hFc q h) hFc (fun r91 u t H locs ht hvm hw hB hz1 hk1 hS => ?_)
  obtain ⟨hP, hD, hK⟩ := JOIN (wr := []) hP hD hK [0, 1] [] [] rfl rfl (by decide) (by decide) rfl hk1 hFc ht hvm hB
  have hP : va_P (dC, dI) cls [(q64, .inr (15, [.ref q65, .int 0, .int (-1), .int 1, .ref q67, .ref q68, .ref q70, .ref q72, .ref q86]))] H := hP
  have hD : va_D A [(q64, .inr (15, [.ref q65, .int 0, .int (-1), .int 1, .ref q67, .ref q68, .ref q70, .ref q72, .ref q86]))] := hD
  have hK : va_K (dC, dI) cls [] s := hK
  refine W.widen (k := 370) (n := 122520) (Nat.le_of_ble_eq_true rfl) (Nat.le_of_ble_eq_true rfl) ?_
  obtain rfl : r91 = 0 := hw
  refine lv_istore (lv' := [(6, .int 0), (5, .int 1), (4, .int 0), (3, .ref q87), (2, .ref q64), (1, .ref q1), (0, .ref b)]) hx hb dL_law_2133 hl (by decide) rfl (fun ls hl => ?_)
  refine lv_aload_n hx hb dL_law_2135 rfl (lv_at hl 4 rfl) ?_
  have hPc := hP.sub (ws' := [(q64, .inr (15, [.ref q65, .int 0, .int (-1), .int 1, .ref q67, .ref q68, .ref q70, .ref q72, .ref q86]))]) [0] rfl
  have hDc := hD.sub (ws' := [(q64, .inr (15, [.ref q65, .int 0, .int (-1), .int 1, .ref q67, .ref q68, .ref q70, .ref q72, .ref q86]))]) [0] (by decide) rfl
  have hKc := hK.sub (tys' := []) [] rfl
  have hFc := va_free (wc := [(q64, .inr (15, [.ref q65, .int 0, .int (-1), .int 1, .ref q67, .ref q68, .ref q70, .ref q72, .ref q86]))]) hD hS hA [0] rfl
  refine va_calli (va_runV (As := []) (rest := []) ⟨hx, hb, hml, hown, hts⟩ (kX24_thrown_n64 l dC dI (a0 := q64) (a60 := q65) (a62 := q68) (a64 := q70) (a66 := q72) (a82 := q67) (a83 := q86) (sz := _)) (cwV 0 hts (gi_V qw664 qw665 qw666 qw434 (gi_z qw663)) rfl rfl rfl (by decide +kernel) ⟨Nat.le_of_ble_eq_true rfl, Nat.le_of_ble_eq_true rfl⟩) ⟨PRE.blind, va_recv hKc hPc (ci := 15) (q0 := 0) rfl rfl, PRE.of hE hS hFc hPc hKc hDc⟩ rfl rfl hl.1 rfl (lv_room (Nat.le_of_ble_eq_true rfl)) dL_law_2136 ⟨Nat.le_of_ble_eq_true rfl, Nat.le_of_ble_eq_true rfl⟩) hS (fun q _ h => hFc q h) hFc (fun r92 u t H locs ht hvm hw hB hz1 hk1 hS => ?_)
  obtain ⟨hP, hD, hK⟩ := JOIN (wr := []) hP hD hK [0] [] [] rfl rfl (by decide) (by decide) rfl hk1 hFc ht hvm hB
  have hP : va_P (dC, dI) cls [(q64, .inr (15, [.ref q65, .int 0, .int (-1), .int 1, .ref q67, .ref q68, .ref q70, .ref q72, .ref q86]))] H := hP
  have hD : va_D A [(q64, .inr (15, [.ref q65, .int 0, .int (-1), .int 1, .ref q67, .ref q68, .ref q70, .ref q72, .ref q86]))] := hD
  have hK : va_K (dC, dI) cls [] s := hK
  refine W.widen (k := 370) (n := 122520) (Nat.le_of_ble_eq_true rfl) (Nat.le_of_ble_eq_true rfl) ?_
  obtain rfl : r92 = 1 := hw
  refine lv_iload hx hb dL_law_2139 (lv_at hl 1 rfl) ?_
  refine lv_icmp_eq (tgt := 2146) hx hb dL_law_2141 (by decide) (fun _ => ?_) (fun c => absurd (by decide) c)
  refine lv_iload hx hb dL_law_2146 (lv_at hl 1 rfl) ?_
  refine lv_if_ne (tgt := 2163) hx hb dL_law_2148 (by decide) (fun _ => ?_) (fun c => absurd c (by decide))
  refine lv_goto (tgt := 2818) hx hb dL_law_2163 (by decide) ?_
  refine lv_iinc (v := 7) (lv' := [(4, .int 7), (6, .int 0), (5, .int 1), (3, .ref q87), (2, .ref q64), (1, .ref q1), (0, .ref b)]) hx hb dL_law_2818 hl (k := 2) rfl (by decide) (by decide) rfl (fun ls hl => ?_)
  refine lv_goto (tgt := 23) hx hb dL_law_2821 (by decide) ?_
  refine lv_iload hx hb dL_law_23 (lv_at hl 0 rfl) ?_
  refine lv_aload_n hx hb dL_law_25 rfl (lv_at hl 6 rfl) ?_
  refine va_slen hx hb hX hbl hbA hS dL_law_26 ?_
  refine lv_topC (y := 7) rfl ?_
  refine lv_bipush (v := 7) hx hb dL_law_27 (by decide) ?_
  refine lv_isub hx hb dL_law_29 ?_
  refine lv_topC (y := 0) (by decide) ?_
  refine lv_icmp_gt (tgt := 2824) hx hb dL_law_30 (by decide) (fun _ => ?_) (fun c => absurd (by decide) c)
  refine lv_iconst (v := 1) hx hb dL_law_2824 (by decide) ?_
  refine va_forget (fun q hq => hA2 _ (hS.2.2 q hq)) ?_
  refine W.widen (k := 600002) (n := 7302232) (Nat.le_of_ble_eq_true rfl) (Nat.le_of_ble_eq_true rfl) ?_
  exact lw_ret (d0 := s.drawn) (Drawn.sameBut.refl s.drawn lw_cs) hx hb hr hlocks dL_law_2825
set_option maxHeartbeats 4000000 in
set_option maxRecDepth 100000 in
theorem law_35 {zs : Nat × Nat} {p : Program} {e : Env} {s : State} {m : MethodId} {below : List Frame} {meth : Method} {c : Code} {l : Launch} {b : Nat} {xs : Nat → Int32} {dC : Nat → ClassId} {dI : Nat → Nat → Nat} {A : Nat → Prop} (C0 : lw_At p s m meth c b 7 xs) (hl9 : l.stackTraces = false) (hA : ∀ q, s.heap.size ≤ q → A q) (hA2 : ∀ q, A q → s.heap.size ≤ q) (hE : ENV zs A s s.heap) {H : Heap} {locs : List Loc} (q1 : Nat) (q2 : Nat) (q5 : Nat) (q14 : Nat) (q15 : Nat) (q16 : Nat) (q17 : Nat) (q29 : Nat) (q30 : Nat) (q31 : Nat) (q32 : Nat) (q33 : Nat) (q34 : Nat) (q35 : Nat) (q36 : Nat) (q37 : Nat) (q38 : Nat) (q39 : Nat) (q40 : Nat) (q51 : Nat) (q63 : Nat) (q64 : Nat) (q65 : Nat) (q67 : Nat) (q68 : Nat) (c69 : ClassId) (q70 : Nat) (q72 : Nat) (q86 : Nat) (q87 : Nat) (hP : va_P (dC, dI) cls [(q1, .inr (11, [.ref q2, .ref q5, .ref q14, .ref q15, .ref q16, .ref q17, .ref q51, .ref q63, .ref q29, .ref q40, .int (-1)])), (q29, .inr (2, [.int 0, .ref q30, .ref q31, .ref q32, .ref q33, .ref q34, .ref q35, .int 0, .ref q36, .ref q37, .ref q38, .int 0, .ref q39])), (q64, .inr (15, [.ref q65, .int 0, .int (-1), .int 0, .ref q67, .ref q68, .ref q70, .ref q72, .ref q86])), (q68, .inl (c69, 0, .inr (.inr (.inr (.inr (fun _ => none))))))] H) (hD : va_D A [(q1, .inr (11, [.ref q2, .ref q5, .ref q14, .ref q15, .ref q16, .ref q17, .ref q51, .ref q63, .ref q29, .ref q40, .int (-1)])), (q29, .inr (2, [.int 0, .ref q30, .ref q31, .ref q32, .ref q33, .ref q34, .ref q35, .int 0, .ref q36, .ref q37, .ref q38, .int 0, .ref q39])), (q64, .inr (15, [.ref q65, .int 0, .int (-1), .int 0, .ref q67, .ref q68, .ref q70, .ref q72, .ref q86])), (q68, .inl (c69, 0, .inr (.inr (.inr (.inr (fun _ => none))))))]) (hK : va_K (dC, dI) cls [(c69, .object RX14)] s) (hS : va_S A s.heap H locs) {ls : Array Slot} (hl : lv_has ls 9 [(4, .int 0), (3, .ref q87), (2, .ref q64), (1, .ref q1), (0, .ref b)])  : W p l e room_1 s m #[Value.ref b] below meth c H locs 369 122514 (lw_Z below #[Value.ref b] s) (F0 m 2166 ls []) := by
  obtain ⟨hx, hb, hr, hml, hown, hts0, hX, hbl, hlocks, hgv⟩ := id C0
  have hts : ∀ w ∈ gw, w.before #[Value.ref b] s = true := fun w h => hts0 w (gw_tbl h)
  have hbA : ¬ A b := fun h => absurd (hA2 b h) (Nat.not_le.mpr hbl)
  refine lv_aload_n hx hb dL_law_2166 rfl (lv_at hl 3 rfl) ?_
  refine lv_aload_n hx hb dL_law_2167 rfl (lv_at hl 4 rfl) ?_
  refine lv_iload hx hb dL_law_2168 (lv_at hl 0 rfl) ?_
  refine lv_iconst (v := 1) hx hb dL_law_2170 (by decide) ?_
  refine lv_iadd hx hb dL_law_2171 ?_
  refine lv_topC (y := 1) (by decide) ?_
  refine va_sld hx hb hX hbl hbA hS (by unfold vp_in; decide +kernel) dL_law_2172 ?_
  refine lv_topC (y := xs 1) rfl ?_
  refine lv_aload_n hx hb dL_law_2173 rfl (lv_at hl 4 rfl) ?_
  refine lv_iload hx hb dL_law_2174 (lv_at hl 0 rfl) ?_
  refine lv_iconst (v := 2) hx hb dL_law_2176 (by decide) ?_
  refine lv_iadd hx hb dL_law_2177 ?_
  refine lv_topC (y := 2) (by decide) ?_
  refine va_sld hx hb hX hbl hbA hS (by unfold vp_in; decide +kernel) dL_law_2178 ?_
  refine lv_topC (y := xs 2) rfl ?_
  refine lv_aload_n hx hb dL_law_2179 rfl (lv_at hl 1 rfl) ?_
  have hPc := hP.sub (ws' := [(q1, .inr (11, [.ref q2, .ref q5, .ref q14, .ref q15, .ref q16, .ref q17, .ref q51, .ref q63, .ref q29, .ref q40, .int (-1)])), (q29, .inr (2, [.int 0, .ref q30, .ref q31, .ref q32, .ref q33, .ref q34, .ref q35, .int 0, .ref q36, .ref q37, .ref q38, .int 0, .ref q39]))]) [0, 1] rfl
  have hDc := hD.sub (ws' := [(q1, .inr (11, [.ref q2, .ref q5, .ref q14, .ref q15, .ref q16, .ref q17, .ref q51, .ref q63, .ref q29, .ref q40, .int (-1)])), (q29, .inr (2, [.int 0, .ref q30, .ref q31, .ref q32, .ref q33, .ref q34, .ref q35, .int 0, .ref q36, .ref q37, .ref q38, .int 0, .ref q39]))]) [0, 1] (by decide) rfl
  have hKc := hK.sub (tys' := []) [] rfl
  have hFc := va_free (wc := [(q1, .inr (11, [.ref q2, .ref q5, .ref q14, .ref q15, .ref q16, .ref q17, .ref q51, .ref q63, .ref q29, .ref q40, .int (-1)])), (q29, .inr (2, [.int 0, .ref q30, .ref q31, .ref q32, .ref q33, .ref q34, .ref q35, .int 0, .ref q36, .ref q37, .ref q38, .int 0, .ref q39]))]) hD hS hA [0, 1] rfl
  refine va_calli (vx_runSW (As := [.ref q1, .int (xs 1), .int (xs 2), .ref q87]) (rest := []) ⟨hx, hb, hml, hown, hts⟩ (kL_codeLeft l dC dI (gx := q1) (gq1 := q2) (gq4 := q5) (gq13 := q14) (gq136 := q15) (gq137 := q16) (gq138 := q17) (gq150 := q29) (gq151 := q30) (gq152 := q31) (gq153 := q32) (gq154 := q33) (gq155 := q34) (gq156 := q35) (gq157 := q36) (gq158 := q37) (gq159 := q38) (gq160 := q39) (gq161 := q40) (gq172 := q51) (gq184 := q63) (go := q87) (p0 := (xs 1)) (p1 := (xs 2)) (sz := _) (hl9 := hl9)) (vx_cwSW 4 hts (gi_S qw901 qw902 qw658 (gi_h qw900)) rfl rfl rfl (by decide +kernel) ⟨Nat.le_of_ble_eq_true rfl, Nat.le_of_ble_eq_true rfl⟩) ⟨PRE.blind, PRE.of hE hS hFc hPc hKc hDc⟩ rfl rfl hl.1 rfl (lv_room (Nat.le_of_ble_eq_true rfl)) dL_law_2180 ⟨Nat.le_of_ble_eq_true rfl, Nat.le_of_ble_eq_true rfl⟩) hS (fun q _ h => hFc q h) hFc (fun r90 u t H locs ht hvm hw hB hz1 hk1 hS => ?_)
  obtain ⟨hP, hD, hK⟩ := JOIN (wr := [(q64, .inr (15, [.ref q65, .int 0, .int (-1), .int 0, .ref q67, .ref q68, .ref q70, .ref q72, .ref q86])), (q68, .inl (c69, 0, .inr (.inr (.inr (.inr (fun _ => none))))))]) hP hD hK [0, 1] [2, 3] [0] rfl rfl (by decide) (by decide) rfl hk1 hFc ht hvm hB
  have hP : va_P (dC, dI) cls [(q64, .inr (15, [.ref q65, .int 0, .int (-1), .int 0, .ref q67, .ref q68, .ref q70, .ref q72, .ref q86])), (q68, .inl (c69, 0, .inr (.inr (.inr (.inr (fun _ => none))))))] H := hP
  have hD : va_D A [(q64, .inr (15, [.ref q65, .int 0, .int (-1), .int 0, .ref q67, .ref q68, .ref q70, .ref q72, .ref q86])), (q68, .inl (c69, 0, .inr (.inr (.inr (.inr (fun _ => none))))))] := hD
  have hK : va_K (dC, dI) cls [(c69, .object RX14)] s := hK
  refine W.widen (k := 370) (n := 122520) (Nat.le_of_ble_eq_true rfl) (Nat.le_of_ble_eq_true rfl) ?_
  obtain rfl : r90 = 1 := hw
  refine lv_istore (lv' := [(5, .int 1), (4, .int 0), (3, .ref q87), (2, .ref q64), (1, .ref q1), (0, .ref b)]) hx hb dL_law_2183 hl (by decide) rfl (fun ls hl => ?_)
  refine lv_aload_n hx hb dL_law_2185 rfl (lv_at hl 3 rfl) ?_
  refine lv_aload_n hx hb dL_law_2186 rfl (lv_at hl 5 rfl) ?_
  refine lv_iload hx hb dL_law_2187 (lv_at hl 1 rfl) ?_
  refine lv_iconst (v := 1) hx hb dL_law_2189 (by decide) ?_
  refine lv_iadd hx hb dL_law_2190 ?_
  refine lv_topC (y := 1) (by decide) ?_
  refine va_sld hx hb hX hbl hbA hS (by unfold vp_in; decide +kernel) dL_law_2191 ?_
  refine lv_topC (y := xs 1) rfl ?_
  refine lv_aload_n hx hb dL_law_2192 rfl (lv_at hl 5 rfl) ?_
  refine lv_iload hx hb dL_law_2193 (lv_at hl 1 rfl) ?_
  refine lv_iconst (v := 2) hx hb dL_law_2195 (by decide) ?_
  refine lv_iadd hx hb dL_law_2196 ?_
  refine lv_topC (y := 2) (by decide) ?_
  refine va_sld hx hb hX hbl hbA hS (by unfold vp_in; decide +kernel) dL_law_2197 ?_
  refine lv_topC (y := xs 2) rfl ?_
  have hPc := hP.sub (ws' := [(q64, .inr (15, [.ref q65, .int 0, .int (-1), .int 0, .ref q67, .ref q68, .ref q70, .ref q72, .ref q86])), (q68, .inl (c69, 0, .inr (.inr (.inr (.inr (fun _ => none))))))]) [0, 1] rfl
  have hDc := hD.sub (ws' := [(q64, .inr (15, [.ref q65, .int 0, .int (-1), .int 0, .ref q67, .ref q68, .ref q70, .ref q72, .ref q86])), (q68, .inl (c69, 0, .inr (.inr (.inr (.inr (fun _ => none))))))]) [0, 1] (by decide) rfl
  have hKc := hK.sub (tys' := [(c69, .object RX14)]) [0] rfl
  have hFc := va_free (wc := [(q64, .inr (15, [.ref q65, .int 0, .int (-1), .int 0, .ref q67, .ref q68, .ref q70, .ref q72, .ref q86])), (q68, .inl (c69, 0, .inr (.inr (.inr (.inr (fun _ => none))))))]) hD hS hA [0, 1] rfl
  refine va_calli (va_runV (As := [.int (xs 1), .int (xs 2)]) (rest := []) ⟨hx, hb, hml, hown, hts⟩ (kX24_codeLeft l dC dI (mx := q64) (mq1 := q65) (mq3 := q67) (mq4 := q68) (mc5 := c69) (mq6 := q70) (mq8 := q72) (mq22 := q86) (p0 := (xs 1)) (p1 := (xs 2)) (sz := _)) (cwV 2 hts (gi_V qw904 qw905 qw906 qw434 (gi_z qw903)) rfl rfl rfl (by decide +kernel) ⟨Nat.le_of_ble_eq_true rfl, Nat.le_of_ble_eq_true rfl⟩) ⟨PRE.blind, va_recv hKc hPc (ci := 15) (q0 := 0) rfl rfl, PRE.of hE hS hFc hPc hKc hDc⟩ rfl rfl hl.1 rfl (lv_room (Nat.le_of_ble_eq_true rfl)) dL_law_2198 ⟨Nat.le_of_ble_eq_true rfl, Nat.le_of_ble_eq_true rfl⟩) hS (fun q _ h => hFc q h) hFc (fun r91 u t H locs ht hvm hw hB hz1 hk1 hS => ?_)
  obtain ⟨hP, hD, hK⟩ := JOIN (wr := []) hP hD hK [0, 1] [] [] rfl rfl (by decide) (by decide) rfl hk1 hFc ht hvm hB
  have hP : va_P (dC, dI) cls [(q64, .inr (15, [.ref q65, .int 0, .int (-1), .int 1, .ref q67, .ref q68, .ref q70, .ref q72, .ref q86]))] H := hP
  have hD : va_D A [(q64, .inr (15, [.ref q65, .int 0, .int (-1), .int 1, .ref q67, .ref q68, .ref q70, .ref q72, .ref q86]))] := hD
  have hK : va_K (dC, dI) cls [] s := hK
  refine W.widen (k := 370) (n := 122520) (Nat.le_of_ble_eq_true rfl) (Nat.le_of_ble_eq_true rfl) ?_
  obtain rfl : r91 = 0 := hw
  refine lv_istore (lv' := [(6, .int 0), (5, .int 1), (4, .int 0), (3, .ref q87), (2, .ref q64), (1, .ref q1), (0, .ref b)]) hx hb dL_law_2201 hl (by decide) rfl (fun ls hl => ?_)
  refine lv_aload_n hx hb dL_law_2203 rfl (lv_at hl 4 rfl) ?_
  have hPc := hP.sub (ws' := [(q64, .inr (15, [.ref q65, .int 0, .int (-1), .int 1, .ref q67, .ref q68, .ref q70, .ref q72, .ref q86]))]) [0] rfl
  have hDc := hD.sub (ws' := [(q64, .inr (15, [.ref q65, .int 0, .int (-1), .int 1, .ref q67, .ref q68, .ref q70, .ref q72, .ref q86]))]) [0] (by decide) rfl
  have hKc := hK.sub (tys' := []) [] rfl
  have hFc := va_free (wc := [(q64, .inr (15, [.ref q65, .int 0, .int (-1), .int 1, .ref q67, .ref q68, .ref q70, .ref q72, .ref q86]))]) hD hS hA [0] rfl
  refine va_calli (va_runV (As := []) (rest := []) ⟨hx, hb, hml, hown, hts⟩ (kX24_thrown_n64 l dC dI (a0 := q64) (a60 := q65) (a62 := q68) (a64 := q70) (a66 := q72) (a82 := q67) (a83 := q86) (sz := _)) (cwV 0 hts (gi_V qw664 qw665 qw666 qw434 (gi_z qw663)) rfl rfl rfl (by decide +kernel) ⟨Nat.le_of_ble_eq_true rfl, Nat.le_of_ble_eq_true rfl⟩) ⟨PRE.blind, va_recv hKc hPc (ci := 15) (q0 := 0) rfl rfl, PRE.of hE hS hFc hPc hKc hDc⟩ rfl rfl hl.1 rfl (lv_room (Nat.le_of_ble_eq_true rfl)) dL_law_2204 ⟨Nat.le_of_ble_eq_true rfl, Nat.le_of_ble_eq_true rfl⟩) hS (fun q _ h => hFc q h) hFc (fun r92 u t H locs ht hvm hw hB hz1 hk1 hS => ?_)
  obtain ⟨hP, hD, hK⟩ := JOIN (wr := []) hP hD hK [0] [] [] rfl rfl (by decide) (by decide) rfl hk1 hFc ht hvm hB
  have hP : va_P (dC, dI) cls [(q64, .inr (15, [.ref q65, .int 0, .int (-1), .int 1, .ref q67, .ref q68, .ref q70, .ref q72, .ref q86]))] H := hP
  have hD : va_D A [(q64, .inr (15, [.ref q65, .int 0, .int (-1), .int 1, .ref q67, .ref q68, .ref q70, .ref q72, .ref q86]))] := hD
  have hK : va_K (dC, dI) cls [] s := hK
  refine W.widen (k := 370) (n := 122520) (Nat.le_of_ble_eq_true rfl) (Nat.le_of_ble_eq_true rfl) ?_
  obtain rfl : r92 = 1 := hw
  refine lv_iload hx hb dL_law_2207 (lv_at hl 1 rfl) ?_
  refine lv_icmp_eq (tgt := 2214) hx hb dL_law_2209 (by decide) (fun _ => ?_) (fun c => absurd (by decide) c)
  refine lv_iload hx hb dL_law_2214 (lv_at hl 1 rfl) ?_
  refine lv_if_ne (tgt := 2231) hx hb dL_law_2216 (by decide) (fun _ => ?_) (fun c => absurd c (by decide))
  refine lv_goto (tgt := 2818) hx hb dL_law_2231 (by decide) ?_
  refine lv_iinc (v := 7) (lv' := [(4, .int 7), (6, .int 0), (5, .int 1), (3, .ref q87), (2, .ref q64), (1, .ref q1), (0, .ref b)]) hx hb dL_law_2818 hl (k := 2) rfl (by decide) (by decide) rfl (fun ls hl => ?_)
  refine lv_goto (tgt := 23) hx hb dL_law_2821 (by decide) ?_
  refine lv_iload hx hb dL_law_23 (lv_at hl 0 rfl) ?_
  refine lv_aload_n hx hb dL_law_25 rfl (lv_at hl 6 rfl) ?_
  refine va_slen hx hb hX hbl hbA hS dL_law_26 ?_
  refine lv_topC (y := 7) rfl ?_
  refine lv_bipush (v := 7) hx hb dL_law_27 (by decide) ?_
  refine lv_isub hx hb dL_law_29 ?_
  refine lv_topC (y := 0) (by decide) ?_
  refine lv_icmp_gt (tgt := 2824) hx hb dL_law_30 (by decide) (fun _ => ?_) (fun c => absurd (by decide) c)
  refine lv_iconst (v := 1) hx hb dL_law_2824 (by decide) ?_
  refine va_forget (fun q hq => hA2 _ (hS.2.2 q hq)) ?_
  refine W.widen (k := 600002) (n := 7302232) (Nat.le_of_ble_eq_true rfl) (Nat.le_of_ble_eq_true rfl) ?_
  exact lw_ret (d0 := s.drawn) (Drawn.sameBut.refl s.drawn lw_cs) hx hb hr hlocks dL_law_2825
