theorem dL_law__1891 : decode cL_law_ 1891 = .ok (.iconst 1, 1) := by decide +kernel
theorem dL_law__1892 : decode cL_law_ 1892 = .ok (.iadd, 1) := by decide +kernel
theorem dL_law__1893 : decode cL_law_ 1893 = .ok (.iaload, 1) := by decide +kernel
theorem dL_law__1894 : decode cL_law_ 1894 = .ok (.aload_n 0, 1) := by decide +kernel
theorem dL_law__1895 : decode cL_law_ 1895 = .ok (.iload 4, 2) := by decide +kernel
theorem dL_law__1897 : decode cL_law_ 1897 = .ok (.iconst 2, 1) := by decide +kernel
theorem dL_law__1898 : decode cL_law_ 1898 = .ok (.iadd, 1) := by decide +kernel
theorem dL_law__1899 : decode cL_law_ 1899 = .ok (.iaload, 1) := by decide +kernel
theorem dL_law__1900 : decode cL_law_ 1900 = .ok (.aload_n 0, 1) := by decide +kernel
theorem dL_law__1901 : decode cL_law_ 1901 = .ok (.iload 4, 2) := by decide +kernel
theorem dL_law__1903 : decode cL_law_ 1903 = .ok (.iconst 3, 1) := by decide +kernel
theorem dL_law__1904 : decode cL_law_ 1904 = .ok (.iadd, 1) := by decide +kernel
theorem dL_law__1905 : decode cL_law_ 1905 = .ok (.iaload, 1) := by decide +kernel
theorem dL_law__1906 : decode cL_law_ 1906 = .ok (.aload_n 0, 1) := by decide +kernel
theorem dL_law__1907 : decode cL_law_ 1907 = .ok (.iload 4, 2) := by decide +kernel
theorem dL_law__1909 : decode cL_law_ 1909 = .ok (.iconst 4, 1) := by decide +kernel
theorem dL_law__1910 : decode cL_law_ 1910 = .ok (.iadd, 1) := by decide +kernel
theorem dL_law__1911 : decode cL_law_ 1911 = .ok (.iaload, 1) := by decide +kernel
theorem dL_law__1912 : decode cL_law_ 1912 = .ok (.aload_n 3, 1) := by decide +kernel
theorem dL_law__1913 : decode cL_law_ 1913 = .ok (.invokestatic 188, 3) := by decide +kernel
theorem dL_law__1916 : decode cL_law_ 1916 = .ok (.istore 5, 2) := by decide +kernel
theorem dL_law__1918 : decode cL_law_ 1918 = .ok (.aload_n 2, 1) := by decide +kernel
theorem dL_law__1919 : decode cL_law_ 1919 = .ok (.aload_n 0, 1) := by decide +kernel
theorem dL_law__1920 : decode cL_law_ 1920 = .ok (.iload 4, 2) := by decide +kernel
theorem dL_law__1922 : decode cL_law_ 1922 = .ok (.iconst 1, 1) := by decide +kernel
theorem dL_law__1923 : decode cL_law_ 1923 = .ok (.iadd, 1) := by decide +kernel
theorem dL_law__1924 : decode cL_law_ 1924 = .ok (.iaload, 1) := by decide +kernel
theorem dL_law__1925 : decode cL_law_ 1925 = .ok (.aload_n 0, 1) := by decide +kernel
theorem dL_law__1926 : decode cL_law_ 1926 = .ok (.iload 4, 2) := by decide +kernel
theorem dL_law__1928 : decode cL_law_ 1928 = .ok (.iconst 2, 1) := by decide +kernel
theorem dL_law__1929 : decode cL_law_ 1929 = .ok (.iadd, 1) := by decide +kernel
theorem dL_law__1930 : decode cL_law_ 1930 = .ok (.iaload, 1) := by decide +kernel
theorem dL_law__1931 : decode cL_law_ 1931 = .ok (.aload_n 0, 1) := by decide +kernel
theorem dL_law__1932 : decode cL_law_ 1932 = .ok (.iload 4, 2) := by decide +kernel
theorem dL_law__1934 : decode cL_law_ 1934 = .ok (.iconst 3, 1) := by decide +kernel
theorem dL_law__1935 : decode cL_law_ 1935 = .ok (.iadd, 1) := by decide +kernel
theorem dL_law__1936 : decode cL_law_ 1936 = .ok (.iaload, 1) := by decide +kernel
theorem dL_law__1937 : decode cL_law_ 1937 = .ok (.aload_n 0, 1) := by decide +kernel
theorem dL_law__1938 : decode cL_law_ 1938 = .ok (.iload 4, 2) := by decide +kernel
theorem dL_law__1940 : decode cL_law_ 1940 = .ok (.iconst 4, 1) := by decide +kernel
theorem dL_law__1941 : decode cL_law_ 1941 = .ok (.iadd, 1) := by decide +kernel
theorem dL_law__1942 : decode cL_law_ 1942 = .ok (.iaload, 1) := by decide +kernel
theorem dL_law__1943 : decode cL_law_ 1943 = .ok (.invokevirtual 190, 3) := by decide +kernel
theorem dL_law__1946 : decode cL_law_ 1946 = .ok (.istore 6, 2) := by decide +kernel
theorem dL_law__1948 : decode cL_law_ 1948 = .ok (.aload_n 2, 1) := by decide +kernel
theorem dL_law__1949 : decode cL_law_ 1949 = .ok (.invokevirtual 116, 3) := by decide +kernel
theorem dL_law__1952 : decode cL_law_ 1952 = .ok (.iload 5, 2) := by decide +kernel
theorem dL_law__1954 : decode cL_law_ 1954 = .ok (.if_icmp .eq 5, 3) := by decide +kernel
theorem dL_law__1957 : decode cL_law_ 1957 = .ok (.iconst 0, 1) := by decide +kernel
theorem dL_law__1958 : decode cL_law_ 1958 = .ok (.ireturn, 1) := by decide +kernel
theorem dL_law__1959 : decode cL_law_ 1959 = .ok (.iload 5, 2) := by decide +kernel
theorem dL_law__1961 : decode cL_law_ 1961 = .ok (.ifCond .ne 15, 3) := by decide +kernel
theorem dL_law__1964 : decode cL_law_ 1964 = .ok (.aload_n 3, 1) := by decide +kernel
theorem dL_law__1965 : decode cL_law_ 1965 = .ok (.iconst 0, 1) := by decide +kernel
theorem dL_law__1966 : decode cL_law_ 1966 = .ok (.laload, 1) := by decide +kernel
theorem dL_law__1967 : decode cL_law_ 1967 = .ok (.iload 6, 2) := by decide +kernel
theorem dL_law__1969 : decode cL_law_ 1969 = .ok (.i2l, 1) := by decide +kernel
theorem dL_law__1970 : decode cL_law_ 1970 = .ok (.lcmp, 1) := by decide +kernel
theorem dL_law__1971 : decode cL_law_ 1971 = .ok (.ifCond .eq 5, 3) := by decide +kernel
theorem dL_law__1974 : decode cL_law_ 1974 = .ok (.iconst 0, 1) := by decide +kernel
theorem dL_law__1975 : decode cL_law_ 1975 = .ok (.ireturn, 1) := by decide +kernel
theorem dL_law__1976 : decode cL_law_ 1976 = .ok (.goto 366, 3) := by decide +kernel
theorem dL_law__1979 : decode cL_law_ 1979 = .ok (.aload_n 1, 1) := by decide +kernel
theorem dL_law__1980 : decode cL_law_ 1980 = .ok (.aload_n 0, 1) := by decide +kernel
theorem dL_law__1981 : decode cL_law_ 1981 = .ok (.iload 4, 2) := by decide +kernel
theorem dL_law__1983 : decode cL_law_ 1983 = .ok (.iconst 1, 1) := by decide +kernel
theorem dL_law__1984 : decode cL_law_ 1984 = .ok (.iadd, 1) := by decide +kernel
theorem dL_law__1985 : decode cL_law_ 1985 = .ok (.iaload, 1) := by decide +kernel
theorem dL_law__1986 : decode cL_law_ 1986 = .ok (.aload_n 0, 1) := by decide +kernel
theorem dL_law__1987 : decode cL_law_ 1987 = .ok (.iload 4, 2) := by decide +kernel
theorem dL_law__1989 : decode cL_law_ 1989 = .ok (.iconst 2, 1) := by decide +kernel
theorem dL_law__1990 : decode cL_law_ 1990 = .ok (.iadd, 1) := by decide +kernel
theorem dL_law__1991 : decode cL_law_ 1991 = .ok (.iaload, 1) := by decide +kernel
theorem dL_law__1992 : decode cL_law_ 1992 = .ok (.aload_n 0, 1) := by decide +kernel
theorem dL_law__1993 : decode cL_law_ 1993 = .ok (.iload 4, 2) := by decide +kernel
theorem dL_law__1995 : decode cL_law_ 1995 = .ok (.iconst 3, 1) := by decide +kernel
theorem dL_law__1996 : decode cL_law_ 1996 = .ok (.iadd, 1) := by decide +kernel
theorem dL_law__1997 : decode cL_law_ 1997 = .ok (.iaload, 1) := by decide +kernel
theorem dL_law__1998 : decode cL_law_ 1998 = .ok (.aload_n 3, 1) := by decide +kernel
theorem dL_law__1999 : decode cL_law_ 1999 = .ok (.invokestatic 191, 3) := by decide +kernel
theorem dL_law__2002 : decode cL_law_ 2002 = .ok (.istore 5, 2) := by decide +kernel
theorem dL_law__2004 : decode cL_law_ 2004 = .ok (.aload_n 2, 1) := by decide +kernel
theorem dL_law__2005 : decode cL_law_ 2005 = .ok (.aload_n 0, 1) := by decide +kernel
theorem dL_law__2006 : decode cL_law_ 2006 = .ok (.iload 4, 2) := by decide +kernel
theorem dL_law__2008 : decode cL_law_ 2008 = .ok (.iconst 1, 1) := by decide +kernel
theorem dL_law__2009 : decode cL_law_ 2009 = .ok (.iadd, 1) := by decide +kernel
theorem dL_law__2010 : decode cL_law_ 2010 = .ok (.iaload, 1) := by decide +kernel
theorem dL_law__2011 : decode cL_law_ 2011 = .ok (.aload_n 0, 1) := by decide +kernel
theorem dL_law__2012 : decode cL_law_ 2012 = .ok (.iload 4, 2) := by decide +kernel
theorem dL_law__2014 : decode cL_law_ 2014 = .ok (.iconst 2, 1) := by decide +kernel
theorem dL_law__2015 : decode cL_law_ 2015 = .ok (.iadd, 1) := by decide +kernel
theorem dL_law__2016 : decode cL_law_ 2016 = .ok (.iaload, 1) := by decide +kernel
theorem dL_law__2017 : decode cL_law_ 2017 = .ok (.aload_n 0, 1) := by decide +kernel
theorem dL_law__2018 : decode cL_law_ 2018 = .ok (.iload 4, 2) := by decide +kernel
theorem dL_law__2020 : decode cL_law_ 2020 = .ok (.iconst 3, 1) := by decide +kernel
theorem dL_law__2021 : decode cL_law_ 2021 = .ok (.iadd, 1) := by decide +kernel
theorem dL_law__2022 : decode cL_law_ 2022 = .ok (.iaload, 1) := by decide +kernel
theorem dL_law__2023 : decode cL_law_ 2023 = .ok (.invokevirtual 193, 3) := by decide +kernel
theorem dL_law__2026 : decode cL_law_ 2026 = .ok (.istore 6, 2) := by decide +kernel
theorem dL_law__2028 : decode cL_law_ 2028 = .ok (.aload_n 2, 1) := by decide +kernel
theorem dL_law__2029 : decode cL_law_ 2029 = .ok (.invokevirtual 116, 3) := by decide +kernel
theorem dL_law__2032 : decode cL_law_ 2032 = .ok (.iload 5, 2) := by decide +kernel
theorem dL_law__2034 : decode cL_law_ 2034 = .ok (.if_icmp .eq 5, 3) := by decide +kernel
theorem dL_law__2037 : decode cL_law_ 2037 = .ok (.iconst 0, 1) := by decide +kernel
theorem dL_law__2038 : decode cL_law_ 2038 = .ok (.ireturn, 1) := by decide +kernel
theorem dL_law__2039 : decode cL_law_ 2039 = .ok (.iload 5, 2) := by decide +kernel
theorem dL_law__2041 : decode cL_law_ 2041 = .ok (.ifCond .ne 15, 3) := by decide +kernel
theorem dL_law__2044 : decode cL_law_ 2044 = .ok (.aload_n 3, 1) := by decide +kernel
theorem dL_law__2045 : decode cL_law_ 2045 = .ok (.iconst 0, 1) := by decide +kernel
theorem dL_law__2046 : decode cL_law_ 2046 = .ok (.laload, 1) := by decide +kernel
theorem dL_law__2047 : decode cL_law_ 2047 = .ok (.iload 6, 2) := by decide +kernel
theorem dL_law__2049 : decode cL_law_ 2049 = .ok (.i2l, 1) := by decide +kernel
theorem dL_law__2050 : decode cL_law_ 2050 = .ok (.lcmp, 1) := by decide +kernel
theorem dL_law__2051 : decode cL_law_ 2051 = .ok (.ifCond .eq 5, 3) := by decide +kernel
theorem dL_law__2054 : decode cL_law_ 2054 = .ok (.iconst 0, 1) := by decide +kernel
theorem dL_law__2055 : decode cL_law_ 2055 = .ok (.ireturn, 1) := by decide +kernel
theorem dL_law__2056 : decode cL_law_ 2056 = .ok (.goto 286, 3) := by decide +kernel
theorem dL_law__2059 : decode cL_law_ 2059 = .ok (.aload_n 1, 1) := by decide +kernel
theorem dL_law__2060 : decode cL_law_ 2060 = .ok (.aload_n 0, 1) := by decide +kernel
theorem dL_law__2061 : decode cL_law_ 2061 = .ok (.iload 4, 2) := by decide +kernel
theorem dL_law__2063 : decode cL_law_ 2063 = .ok (.iconst 1, 1) := by decide +kernel
theorem dL_law__2064 : decode cL_law_ 2064 = .ok (.iadd, 1) := by decide +kernel
theorem dL_law__2065 : decode cL_law_ 2065 = .ok (.iaload, 1) := by decide +kernel
theorem dL_law__2066 : decode cL_law_ 2066 = .ok (.aload_n 0, 1) := by decide +kernel
theorem dL_law__2067 : decode cL_law_ 2067 = .ok (.iload 4, 2) := by decide +kernel
theorem dL_law__2069 : decode cL_law_ 2069 = .ok (.iconst 2, 1) := by decide +kernel
theorem dL_law__2070 : decode cL_law_ 2070 = .ok (.iadd, 1) := by decide +kernel
theorem dL_law__2071 : decode cL_law_ 2071 = .ok (.iaload, 1) := by decide +kernel
theorem dL_law__2072 : decode cL_law_ 2072 = .ok (.aload_n 0, 1) := by decide +kernel
theorem dL_law__2073 : decode cL_law_ 2073 = .ok (.iload 4, 2) := by decide +kernel
theorem dL_law__2075 : decode cL_law_ 2075 = .ok (.iconst 3, 1) := by decide +kernel
theorem dL_law__2076 : decode cL_law_ 2076 = .ok (.iadd, 1) := by decide +kernel
theorem dL_law__2077 : decode cL_law_ 2077 = .ok (.iaload, 1) := by decide +kernel
theorem dL_law__2078 : decode cL_law_ 2078 = .ok (.aload_n 0, 1) := by decide +kernel
theorem dL_law__2079 : decode cL_law_ 2079 = .ok (.iload 4, 2) := by decide +kernel
theorem dL_law__2081 : decode cL_law_ 2081 = .ok (.iconst 4, 1) := by decide +kernel
theorem dL_law__2082 : decode cL_law_ 2082 = .ok (.iadd, 1) := by decide +kernel
theorem dL_law__2083 : decode cL_law_ 2083 = .ok (.iaload, 1) := by decide +kernel
theorem dL_law__2084 : decode cL_law_ 2084 = .ok (.aload_n 3, 1) := by decide +kernel
theorem dL_law__2085 : decode cL_law_ 2085 = .ok (.invokestatic 194, 3) := by decide +kernel
theorem dL_law__2088 : decode cL_law_ 2088 = .ok (.istore 5, 2) := by decide +kernel
theorem dL_law__2090 : decode cL_law_ 2090 = .ok (.aload_n 2, 1) := by decide +kernel
theorem dL_law__2091 : decode cL_law_ 2091 = .ok (.aload_n 0, 1) := by decide +kernel
theorem dL_law__2092 : decode cL_law_ 2092 = .ok (.iload 4, 2) := by decide +kernel
theorem dL_law__2094 : decode cL_law_ 2094 = .ok (.iconst 1, 1) := by decide +kernel
theorem dL_law__2095 : decode cL_law_ 2095 = .ok (.iadd, 1) := by decide +kernel
theorem dL_law__2096 : decode cL_law_ 2096 = .ok (.iaload, 1) := by decide +kernel
theorem dL_law__2097 : decode cL_law_ 2097 = .ok (.aload_n 0, 1) := by decide +kernel
theorem dL_law__2098 : decode cL_law_ 2098 = .ok (.iload 4, 2) := by decide +kernel
theorem dL_law__2100 : decode cL_law_ 2100 = .ok (.iconst 2, 1) := by decide +kernel
theorem dL_law__2101 : decode cL_law_ 2101 = .ok (.iadd, 1) := by decide +kernel
theorem dL_law__2102 : decode cL_law_ 2102 = .ok (.iaload, 1) := by decide +kernel
theorem dL_law__2103 : decode cL_law_ 2103 = .ok (.aload_n 0, 1) := by decide +kernel
theorem dL_law__2104 : decode cL_law_ 2104 = .ok (.iload 4, 2) := by decide +kernel
theorem dL_law__2106 : decode cL_law_ 2106 = .ok (.iconst 3, 1) := by decide +kernel
theorem dL_law__2107 : decode cL_law_ 2107 = .ok (.iadd, 1) := by decide +kernel
theorem dL_law__2108 : decode cL_law_ 2108 = .ok (.iaload, 1) := by decide +kernel
theorem dL_law__2109 : decode cL_law_ 2109 = .ok (.aload_n 0, 1) := by decide +kernel
theorem dL_law__2110 : decode cL_law_ 2110 = .ok (.iload 4, 2) := by decide +kernel
theorem dL_law__2112 : decode cL_law_ 2112 = .ok (.iconst 4, 1) := by decide +kernel
theorem dL_law__2113 : decode cL_law_ 2113 = .ok (.iadd, 1) := by decide +kernel
theorem dL_law__2114 : decode cL_law_ 2114 = .ok (.iaload, 1) := by decide +kernel
theorem dL_law__2115 : decode cL_law_ 2115 = .ok (.invokevirtual 196, 3) := by decide +kernel
theorem dL_law__2118 : decode cL_law_ 2118 = .ok (.istore 6, 2) := by decide +kernel
theorem dL_law__2120 : decode cL_law_ 2120 = .ok (.aload_n 2, 1) := by decide +kernel
theorem dL_law__2121 : decode cL_law_ 2121 = .ok (.invokevirtual 116, 3) := by decide +kernel
theorem dL_law__2124 : decode cL_law_ 2124 = .ok (.iload 5, 2) := by decide +kernel
theorem dL_law__2126 : decode cL_law_ 2126 = .ok (.if_icmp .eq 5, 3) := by decide +kernel
theorem dL_law__2129 : decode cL_law_ 2129 = .ok (.iconst 0, 1) := by decide +kernel
theorem dL_law__2130 : decode cL_law_ 2130 = .ok (.ireturn, 1) := by decide +kernel
theorem dL_law__2131 : decode cL_law_ 2131 = .ok (.iload 5, 2) := by decide +kernel
theorem dL_law__2133 : decode cL_law_ 2133 = .ok (.ifCond .ne 15, 3) := by decide +kernel
theorem dL_law__2136 : decode cL_law_ 2136 = .ok (.aload_n 3, 1) := by decide +kernel
theorem dL_law__2137 : decode cL_law_ 2137 = .ok (.iconst 0, 1) := by decide +kernel
theorem dL_law__2138 : decode cL_law_ 2138 = .ok (.laload, 1) := by decide +kernel
theorem dL_law__2139 : decode cL_law_ 2139 = .ok (.iload 6, 2) := by decide +kernel
theorem dL_law__2141 : decode cL_law_ 2141 = .ok (.i2l, 1) := by decide +kernel
theorem dL_law__2142 : decode cL_law_ 2142 = .ok (.lcmp, 1) := by decide +kernel
theorem dL_law__2143 : decode cL_law_ 2143 = .ok (.ifCond .eq 5, 3) := by decide +kernel
theorem dL_law__2146 : decode cL_law_ 2146 = .ok (.iconst 0, 1) := by decide +kernel
theorem dL_law__2147 : decode cL_law_ 2147 = .ok (.ireturn, 1) := by decide +kernel
theorem dL_law__2148 : decode cL_law_ 2148 = .ok (.goto 194, 3) := by decide +kernel
theorem dL_law__2151 : decode cL_law_ 2151 = .ok (.aload_n 1, 1) := by decide +kernel
theorem dL_law__2152 : decode cL_law_ 2152 = .ok (.aload_n 0, 1) := by decide +kernel
theorem dL_law__2153 : decode cL_law_ 2153 = .ok (.iload 4, 2) := by decide +kernel
theorem dL_law__2155 : decode cL_law_ 2155 = .ok (.iconst 1, 1) := by decide +kernel
theorem dL_law__2156 : decode cL_law_ 2156 = .ok (.iadd, 1) := by decide +kernel
theorem dL_law__2157 : decode cL_law_ 2157 = .ok (.iaload, 1) := by decide +kernel
theorem dL_law__2158 : decode cL_law_ 2158 = .ok (.aload_n 0, 1) := by decide +kernel
theorem dL_law__2159 : decode cL_law_ 2159 = .ok (.iload 4, 2) := by decide +kernel
theorem dL_law__2161 : decode cL_law_ 2161 = .ok (.iconst 2, 1) := by decide +kernel
theorem dL_law__2162 : decode cL_law_ 2162 = .ok (.iadd, 1) := by decide +kernel
theorem dL_law__2163 : decode cL_law_ 2163 = .ok (.iaload, 1) := by decide +kernel
theorem dL_law__2164 : decode cL_law_ 2164 = .ok (.aload_n 0, 1) := by decide +kernel
theorem dL_law__2165 : decode cL_law_ 2165 = .ok (.iload 4, 2) := by decide +kernel
theorem dL_law__2167 : decode cL_law_ 2167 = .ok (.iconst 3, 1) := by decide +kernel
theorem dL_law__2168 : decode cL_law_ 2168 = .ok (.iadd, 1) := by decide +kernel
theorem dL_law__2169 : decode cL_law_ 2169 = .ok (.iaload, 1) := by decide +kernel
theorem dL_law__2170 : decode cL_law_ 2170 = .ok (.aload_n 3, 1) := by decide +kernel
theorem dL_law__2171 : decode cL_law_ 2171 = .ok (.invokestatic 197, 3) := by decide +kernel
theorem dL_law__2174 : decode cL_law_ 2174 = .ok (.istore 5, 2) := by decide +kernel
theorem dL_law__2176 : decode cL_law_ 2176 = .ok (.aload_n 2, 1) := by decide +kernel
theorem dL_law__2177 : decode cL_law_ 2177 = .ok (.aload_n 0, 1) := by decide +kernel
theorem dL_law__2178 : decode cL_law_ 2178 = .ok (.iload 4, 2) := by decide +kernel
theorem dL_law__2180 : decode cL_law_ 2180 = .ok (.iconst 1, 1) := by decide +kernel
theorem dL_law__2181 : decode cL_law_ 2181 = .ok (.iadd, 1) := by decide +kernel
theorem dL_law__2182 : decode cL_law_ 2182 = .ok (.iaload, 1) := by decide +kernel
theorem dL_law__2183 : decode cL_law_ 2183 = .ok (.aload_n 0, 1) := by decide +kernel
theorem dL_law__2184 : decode cL_law_ 2184 = .ok (.iload 4, 2) := by decide +kernel
theorem dL_law__2186 : decode cL_law_ 2186 = .ok (.iconst 2, 1) := by decide +kernel
theorem dL_law__2187 : decode cL_law_ 2187 = .ok (.iadd, 1) := by decide +kernel
theorem dL_law__2188 : decode cL_law_ 2188 = .ok (.iaload, 1) := by decide +kernel
theorem dL_law__2189 : decode cL_law_ 2189 = .ok (.aload_n 0, 1) := by decide +kernel
theorem dL_law__2190 : decode cL_law_ 2190 = .ok (.iload 4, 2) := by decide +kernel
theorem dL_law__2192 : decode cL_law_ 2192 = .ok (.iconst 3, 1) := by decide +kernel
theorem dL_law__2193 : decode cL_law_ 2193 = .ok (.iadd, 1) := by decide +kernel
theorem dL_law__2194 : decode cL_law_ 2194 = .ok (.iaload, 1) := by decide +kernel
theorem dL_law__2195 : decode cL_law_ 2195 = .ok (.invokevirtual 199, 3) := by decide +kernel
theorem dL_law__2198 : decode cL_law_ 2198 = .ok (.istore 6, 2) := by decide +kernel
theorem dL_law__2200 : decode cL_law_ 2200 = .ok (.aload_n 2, 1) := by decide +kernel
theorem dL_law__2201 : decode cL_law_ 2201 = .ok (.invokevirtual 116, 3) := by decide +kernel
theorem dL_law__2204 : decode cL_law_ 2204 = .ok (.iload 5, 2) := by decide +kernel
theorem dL_law__2206 : decode cL_law_ 2206 = .ok (.if_icmp .eq 5, 3) := by decide +kernel
theorem dL_law__2209 : decode cL_law_ 2209 = .ok (.iconst 0, 1) := by decide +kernel
theorem dL_law__2210 : decode cL_law_ 2210 = .ok (.ireturn, 1) := by decide +kernel
theorem dL_law__2211 : decode cL_law_ 2211 = .ok (.iload 5, 2) := by decide +kernel
theorem dL_law__2213 : decode cL_law_ 2213 = .ok (.ifCond .ne 15, 3) := by decide +kernel
theorem dL_law__2216 : decode cL_law_ 2216 = .ok (.aload_n 3, 1) := by decide +kernel
theorem dL_law__2217 : decode cL_law_ 2217 = .ok (.iconst 0, 1) := by decide +kernel
theorem dL_law__2218 : decode cL_law_ 2218 = .ok (.laload, 1) := by decide +kernel
theorem dL_law__2219 : decode cL_law_ 2219 = .ok (.iload 6, 2) := by decide +kernel
theorem dL_law__2221 : decode cL_law_ 2221 = .ok (.i2l, 1) := by decide +kernel
theorem dL_law__2222 : decode cL_law_ 2222 = .ok (.lcmp, 1) := by decide +kernel
theorem dL_law__2223 : decode cL_law_ 2223 = .ok (.ifCond .eq 5, 3) := by decide +kernel
theorem dL_law__2226 : decode cL_law_ 2226 = .ok (.iconst 0, 1) := by decide +kernel
theorem dL_law__2227 : decode cL_law_ 2227 = .ok (.ireturn, 1) := by decide +kernel
theorem dL_law__2228 : decode cL_law_ 2228 = .ok (.goto 114, 3) := by decide +kernel
theorem dL_law__2231 : decode cL_law_ 2231 = .ok (.aload_n 1, 1) := by decide +kernel
theorem dL_law__2232 : decode cL_law_ 2232 = .ok (.aload_n 0, 1) := by decide +kernel
theorem dL_law__2233 : decode cL_law_ 2233 = .ok (.iload 4, 2) := by decide +kernel
theorem dL_law__2235 : decode cL_law_ 2235 = .ok (.iconst 1, 1) := by decide +kernel
theorem dL_law__2236 : decode cL_law_ 2236 = .ok (.iadd, 1) := by decide +kernel
theorem dL_law__2237 : decode cL_law_ 2237 = .ok (.iaload, 1) := by decide +kernel
theorem dL_law__2238 : decode cL_law_ 2238 = .ok (.aload_n 3, 1) := by decide +kernel
theorem dL_law__2239 : decode cL_law_ 2239 = .ok (.invokestatic 200, 3) := by decide +kernel
theorem dL_law__2242 : decode cL_law_ 2242 = .ok (.istore 5, 2) := by decide +kernel
theorem dL_law__2244 : decode cL_law_ 2244 = .ok (.aload_n 2, 1) := by decide +kernel
theorem dL_law__2245 : decode cL_law_ 2245 = .ok (.aload_n 0, 1) := by decide +kernel
theorem dL_law__2246 : decode cL_law_ 2246 = .ok (.iload 4, 2) := by decide +kernel
theorem dL_law__2248 : decode cL_law_ 2248 = .ok (.iconst 1, 1) := by decide +kernel
theorem dL_law__2249 : decode cL_law_ 2249 = .ok (.iadd, 1) := by decide +kernel
theorem dL_law__2250 : decode cL_law_ 2250 = .ok (.iaload, 1) := by decide +kernel
theorem dL_law__2251 : decode cL_law_ 2251 = .ok (.invokevirtual 202, 3) := by decide +kernel
theorem dL_law__2254 : decode cL_law_ 2254 = .ok (.lstore 6, 2) := by decide +kernel
theorem dL_law__2256 : decode cL_law_ 2256 = .ok (.aload_n 2, 1) := by decide +kernel
theorem dL_law__2257 : decode cL_law_ 2257 = .ok (.invokevirtual 116, 3) := by decide +kernel
theorem dL_law__2260 : decode cL_law_ 2260 = .ok (.iload 5, 2) := by decide +kernel
theorem dL_law__2262 : decode cL_law_ 2262 = .ok (.if_icmp .eq 5, 3) := by decide +kernel
theorem dL_law__2265 : decode cL_law_ 2265 = .ok (.iconst 0, 1) := by decide +kernel
theorem dL_law__2266 : decode cL_law_ 2266 = .ok (.ireturn, 1) := by decide +kernel
theorem dL_law__2267 : decode cL_law_ 2267 = .ok (.iload 5, 2) := by decide +kernel
theorem dL_law__2269 : decode cL_law_ 2269 = .ok (.ifCond .ne 14, 3) := by decide +kernel
theorem dL_law__2272 : decode cL_law_ 2272 = .ok (.aload_n 3, 1) := by decide +kernel
theorem dL_law__2273 : decode cL_law_ 2273 = .ok (.iconst 0, 1) := by decide +kernel
theorem dL_law__2274 : decode cL_law_ 2274 = .ok (.laload, 1) := by decide +kernel
theorem dL_law__2275 : decode cL_law_ 2275 = .ok (.lload 6, 2) := by decide +kernel
theorem dL_law__2277 : decode cL_law_ 2277 = .ok (.lcmp, 1) := by decide +kernel
theorem dL_law__2278 : decode cL_law_ 2278 = .ok (.ifCond .eq 5, 3) := by decide +kernel
theorem dL_law__2281 : decode cL_law_ 2281 = .ok (.iconst 0, 1) := by decide +kernel
theorem dL_law__2282 : decode cL_law_ 2282 = .ok (.ireturn, 1) := by decide +kernel
theorem dL_law__2283 : decode cL_law_ 2283 = .ok (.goto 59, 3) := by decide +kernel
theorem dL_law__2286 : decode cL_law_ 2286 = .ok (.aload_n 1, 1) := by decide +kernel
theorem dL_law__2287 : decode cL_law_ 2287 = .ok (.aload_n 0, 1) := by decide +kernel
theorem dL_law__2288 : decode cL_law_ 2288 = .ok (.iload 4, 2) := by decide +kernel
theorem dL_law__2290 : decode cL_law_ 2290 = .ok (.iconst 1, 1) := by decide +kernel
theorem dL_law__2291 : decode cL_law_ 2291 = .ok (.iadd, 1) := by decide +kernel
theorem dL_law__2292 : decode cL_law_ 2292 = .ok (.iaload, 1) := by decide +kernel
theorem dL_law__2293 : decode cL_law_ 2293 = .ok (.aload_n 3, 1) := by decide +kernel
theorem dL_law__2294 : decode cL_law_ 2294 = .ok (.invokestatic 203, 3) := by decide +kernel
theorem dL_law__2297 : decode cL_law_ 2297 = .ok (.istore 5, 2) := by decide +kernel
theorem dL_law__2299 : decode cL_law_ 2299 = .ok (.aload_n 2, 1) := by decide +kernel
theorem dL_law__2300 : decode cL_law_ 2300 = .ok (.aload_n 0, 1) := by decide +kernel
theorem dL_law__2301 : decode cL_law_ 2301 = .ok (.iload 4, 2) := by decide +kernel
theorem dL_law__2303 : decode cL_law_ 2303 = .ok (.iconst 1, 1) := by decide +kernel
theorem dL_law__2304 : decode cL_law_ 2304 = .ok (.iadd, 1) := by decide +kernel
theorem dL_law__2305 : decode cL_law_ 2305 = .ok (.iaload, 1) := by decide +kernel
theorem dL_law__2306 : decode cL_law_ 2306 = .ok (.invokevirtual 205, 3) := by decide +kernel
theorem dL_law__2309 : decode cL_law_ 2309 = .ok (.istore 6, 2) := by decide +kernel
theorem dL_law__2311 : decode cL_law_ 2311 = .ok (.aload_n 2, 1) := by decide +kernel
theorem dL_law__2312 : decode cL_law_ 2312 = .ok (.invokevirtual 116, 3) := by decide +kernel
theorem dL_law__2315 : decode cL_law_ 2315 = .ok (.iload 5, 2) := by decide +kernel
theorem dL_law__2317 : decode cL_law_ 2317 = .ok (.if_icmp .eq 5, 3) := by decide +kernel
theorem dL_law__2320 : decode cL_law_ 2320 = .ok (.iconst 0, 1) := by decide +kernel
theorem dL_law__2321 : decode cL_law_ 2321 = .ok (.ireturn, 1) := by decide +kernel
theorem dL_law__2322 : decode cL_law_ 2322 = .ok (.iload 5, 2) := by decide +kernel
theorem dL_law__2324 : decode cL_law_ 2324 = .ok (.ifCond .ne 15, 3) := by decide +kernel
theorem dL_law__2327 : decode cL_law_ 2327 = .ok (.aload_n 3, 1) := by decide +kernel
theorem dL_law__2328 : decode cL_law_ 2328 = .ok (.iconst 0, 1) := by decide +kernel
theorem dL_law__2329 : decode cL_law_ 2329 = .ok (.laload, 1) := by decide +kernel
theorem dL_law__2330 : decode cL_law_ 2330 = .ok (.iload 6, 2) := by decide +kernel
theorem dL_law__2332 : decode cL_law_ 2332 = .ok (.i2l, 1) := by decide +kernel
theorem dL_law__2333 : decode cL_law_ 2333 = .ok (.lcmp, 1) := by decide +kernel
theorem dL_law__2334 : decode cL_law_ 2334 = .ok (.ifCond .eq 5, 3) := by decide +kernel
theorem dL_law__2337 : decode cL_law_ 2337 = .ok (.iconst 0, 1) := by decide +kernel
theorem dL_law__2338 : decode cL_law_ 2338 = .ok (.ireturn, 1) := by decide +kernel
theorem dL_law__2339 : decode cL_law_ 2339 = .ok (.goto 3, 3) := by decide +kernel
theorem dL_law__2342 : decode cL_law_ 2342 = .ok (.iinc 4 8, 3) := by decide +kernel
theorem dL_law__2345 : decode cL_law_ 2345 = .ok (.goto (-2322), 3) := by decide +kernel
theorem dL_law__2348 : decode cL_law_ 2348 = .ok (.iconst 1, 1) := by decide +kernel
theorem dL_law__2349 : decode cL_law_ 2349 = .ok (.ireturn, 1) := by decide +kernel
