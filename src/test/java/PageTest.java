/** Promises 11 and 12: levels and the order on the page. */
public final class PageTest {
    private static final String DIRECTIONS = Given.DIRECTIONS;

    public static void main(String[] args) {
        Due due = new Due();
        singleOnes(due);
        numbers(due);
        neutrals(due);
        embeddings(due);
        deepEmbeddings(due);
        endsOfEmbeddings(due);
        pages(due);
        due.end("PageTest");
    }

    private static ScriptText script(String directions) {
        ScriptText x = Given.withDirections();
        Given.row(x, 1, DIRECTIONS, directions);
        return x;
    }

    private static void levels(Due due, String directions, int base, String want) {
        ScriptText x = script(directions);
        due.is("levels of " + directions + " for " + base, Given.levels(x, 1, base), want);
    }

    private static void page(Due due, String directions, int base, String want) {
        ScriptText x = script(directions);
        due.is("page of " + directions + " for " + base, Given.page(x, 1, base), want);
    }

    private static void singleOnes(Due due) {
        String[] atZero = {"0", "1", "0", "0", "0", "0", "0"};
        String[] atOne = {"2", "1", "2", "1", "1", "1", "1"};
        for (int d = 0; d < 7; d++) {
            levels(due, DIRECTIONS.substring(d, d + 1), 0, atZero[d]);
            levels(due, DIRECTIONS.substring(d, d + 1), 1, atOne[d]);
        }
        levels(due, "", 0, "");
        levels(due, "LRRL", 0, "0110");
        levels(due, "LRRL", 1, "2112");
    }

    private static void numbers(Due due) {
        levels(due, "RN", 0, "12");
        levels(due, "RNN", 0, "122");
        levels(due, "LN", 0, "00");
        levels(due, "RLN", 0, "100");
        levels(due, "LRN", 0, "012");
        levels(due, "RONON", 0, "11212");
        levels(due, "LN", 1, "22");
        levels(due, "RN", 1, "12");
        levels(due, "NRN", 0, "012");
        levels(due, "LONON", 1, "22222");
    }

    private static void neutrals(Due due) {
        levels(due, "ROR", 0, "111");
        levels(due, "ROOOR", 0, "11111");
        levels(due, "LOR", 0, "001");
        levels(due, "ROL", 0, "100");
        levels(due, "RON", 0, "112");
        levels(due, "RNOR", 0, "1211");
        levels(due, "RNOL", 0, "1200");
        levels(due, "NOR", 0, "001");
        levels(due, "RO", 0, "10");
        levels(due, "OR", 0, "01");
        levels(due, "RNON", 0, "1212");
        levels(due, "LNON", 0, "0000");
        levels(due, "NO", 1, "21");
        levels(due, "ON", 1, "12");
        levels(due, "LO", 1, "21");
        levels(due, "OL", 1, "12");
        levels(due, "LOL", 1, "222");
        levels(due, "LON", 1, "222");
        levels(due, "LOOR", 1, "2111");
        levels(due, "RNOL", 1, "1212");
        levels(due, "NON", 1, "212");
    }

    private static void embeddings(Due due) {
        levels(due, "L(R)L", 0, "00100");
        levels(due, "R(R)R", 0, "11111");
        levels(due, "(L", 0, "02");
        levels(due, "(N", 0, "02");
        levels(due, "(O", 0, "01");
        levels(due, "[N", 0, "02");
        levels(due, "[R", 0, "03");
        levels(due, "[RN", 0, "034");
        levels(due, "[O", 1, "12");
        levels(due, "[R", 1, "13");
        levels(due, "(R", 1, "13");
        levels(due, "(L", 1, "14");
        levels(due, "RO(", 0, "100");
        levels(due, "RO(R", 0, "1111");
        levels(due, "LO(R", 0, "0001");
        levels(due, "R()R", 0, "1111");
        levels(due, "L[N)L", 1, "22222");
        levels(due, "(O)O", 0, "0100");
        levels(due, "(O)R", 0, "0111");
        levels(due, "(LO", 0, "021");
        levels(due, "(OL[", 0, "0121");
        levels(due, "([O)N", 0, "01222");
        levels(due, "L(R)NR", 0, "001121");
    }

    private static void deepEmbeddings(Due due) {
        levels(due, "((((R", 0, "01355");
        levels(due, "((((R))))R", 0, "0135553111");
        levels(due, "(((((R)))))R", 0, "013555553111");
        levels(due, "(((([L", 0, "013556");
        levels(due, "(((([L)L", 0, "01355666");
        levels(due, "[[[RN", 0, "02478");
        levels(due, "[[[[RN", 0, "024678");
        levels(due, "[[[(RN", 0, "024678");
        levels(due, "[[[[R))))R", 0, "0246764201");
        levels(due, "[[[R", 1, "1247");
        levels(due, "(([R", 1, "1357");
        levels(due, "((((R", 1, "13555");
        levels(due, "((((((((((((((((", 0, "0135555555555555");
    }

    private static void endsOfEmbeddings(Due due) {
        levels(due, ")R", 0, "01");
        levels(due, "R)R", 0, "111");
        levels(due, "))(R)", 0, "00010");
        levels(due, "(R))R", 0, "01111");
        levels(due, "(R)))(R", 0, "0111111");
        levels(due, "[(R)R)R", 0, "0233301");
    }

    private static void pages(Due due) {
        page(due, "", 0, "");
        page(due, "LLL", 0, "0 1 2");
        page(due, "LLL", 1, "0 1 2");
        page(due, "RRR", 0, "2 1 0");
        page(due, "RRR", 1, "2 1 0");
        page(due, "LRRL", 0, "0 2 1 3");
        page(due, "LLR", 1, "2 0 1");
        page(due, "RNN", 0, "1 2 0");
        page(due, "RNNRNN", 0, "4 5 3 1 2 0");
        page(due, "LRNNRL", 0, "0 4 2 3 1 5");
        page(due, "RLLR", 1, "3 1 2 0");
        page(due, "[[[RN", 0, "0 1 2 4 3");
        page(due, "L(LRL)L", 0, "0 1 4 3 2 5 6");
        page(due, "RRRRRRRRRRRRRRRR", 0, "15 14 13 12 11 10 9 8 7 6 5 4 3 2 1 0");
        page(due, "LRLRLRLRLRLRLRLR", 1, "15 14 13 12 11 10 9 8 7 6 5 4 3 2 1 0");
    }
}
