/** Terms I, the small language: what SUMS and TESTS give. */
final class EdgesOfSums {
    private static final int MILLION = 1000000;
    private final Sheet sheet;

    EdgesOfSums(Sheet sheet) {
        this.sheet = sheet;
    }

    void run() {
        sheet.section("I");
        grammarOfSums();
        parts();
        partsOfOneRule();
        brackets();
        choices();
        grammarOfTests();
        facts();
        qualities();
        drift();
        tall();
        deeds();
        fromTheLeft();
        shares();
        byNothing();
        cut();
    }

    /** A number as a SUM, which has no sign of its own and four digits at most. */
    private static String number(int n) {
        if (n < 0) {
            return "0-(" + number(-n) + ")";
        }
        return n <= 9999 ? "" + n : n / 1000 + "*1000+" + n % 1000;
    }

    /** A TEST on a film that is 50 now, of size 3, in SECOND 0, over one who is 7 tall. */
    private boolean holds(String test) {
        return sheet.in("room 3 by 3;heir h at 0 0 tall 7;bubble p at 0 0 film 51 size 3;bursts " + test + ";").seconds(1) == 1;
    }

    private void test(String test, boolean want) {
        sheet.due(test, holds(test), want);
        // The same behind an if, where it is a TEST, too.
        sheet.due("if of " + test, holds("if(" + test + ",1,2)=" + (want ? 1 : 2)), true);
    }

    private void sum(String sum, int want) {
        sheet.due(sum + " = " + want, holds(sum + "=" + number(want)), true);
        if (want > -MILLION) {
            sheet.due(sum + " > " + (want - 1), holds(sum + ">" + number(want - 1)), true);
            sheet.due(sum + " = " + (want - 1), holds(sum + "=" + number(want - 1)), false);
        }
        if (want < MILLION) {
            sheet.due(sum + " < " + (want + 1), holds(sum + "<" + number(want + 1)), true);
            sheet.due(sum + " = " + (want + 1), holds(sum + "=" + number(want + 1)), false);
        }
    }

    private void fault(String marked) {
        sheet.fault(1, "room 3 by 3;" + marked);
    }

    private void grammarOfSums() {
        sheet.says("SUM: PRODUCT { + or - PRODUCT }. PRODUCT: PART { * or / or % PART }.");
        sum("5", 5);
        sum("2+3*4", 14);
        sum("2*3+4", 10);
        sum("20-6/2", 17);
        sum("20-6%4", 18);
        sum("1+2-3+4-5", -1);
        sum("2*3*4/6%3", 1);
        for (String sign : new String[] {"+", "-", "*", "/", "%"}) {
            fault("thins ^" + sign + "1;");
            fault("thins 1" + sign + "^;");
            fault("thins 1" + sign + "^" + sign + "1;");
        }
        fault("thins ^;");
        fault("thins 1 ^2;");
    }

    private void parts() {
        sheet.says("PART: N; film; size; second;");
        for (String part : new String[] {"0", "9999", "film", "size", "second"}) {
            sheet.good(4, "room 3 by 3;thins " + part + ";hue " + part + ";bursts " + part + "=" + part + ";");
        }
        for (String part : new String[] {"room", "by", "lamp", "door", "at", "blows", "reach", "open", "heir", "bubble", "thins", "bursts",
            "hue", "breath", "or", "and", "x", "films", ",", ")", "]", "<", ";"}) {
            fault("thins ^" + part + " ;");
            fault("hue ^" + part + " ;");
            fault("bursts ^" + part + " ;");
        }
        sum("0", 0);
        sum("9999", 9999);
        sum("0007", 7);
    }

    private void partsOfOneRule() {
        sheet.says("in thins: drift; in bursts: tall; in hue: deeds;");
        sheet.good(4, "room 3 by 3;thins drift;bursts tall=1;hue deeds;");
        sheet.good(4, "room 3 by 3;thins if(drift=1,min(drift,1),(drift));bursts not[if(tall<1,tall,2)>0];hue max(1,if(deeds>1,1,deeds));");
        String[] own = {"drift", "tall", "deeds"};
        String[] rules = {"thins ", "bursts ", "hue "};
        for (int rule = 0; rule < 3; rule++) {
            for (int part = 0; part < 3; part++) {
                if (rule != part) {
                    fault(rules[rule] + "^" + own[part] + "=1;");
                    fault(rules[rule] + "if(^" + own[part] + "=1,1,1)=1;");
                    fault(rules[rule] + "film+^" + own[part] + "=1;");
                }
            }
        }
    }

    private void brackets() {
        sheet.says("( SUM ) ; min ( SUM , SUM ) ; max ( SUM , SUM ) ;");
        sum("(5)", 5);
        sum("(2+3)*4", 20);
        sum("20-(6-2)", 16);
        sum("min(3,4)", 3);
        sum("min(4,3)", 3);
        sum("min(3,3)", 3);
        sum("min(0-1,0)", -1);
        sum("max(3,4)", 4);
        sum("max(4,3)", 4);
        sum("max(3,3)", 3);
        sum("max(0-1,0-2)", -1);
        sum("min(1+1,3*3)*max(2,7-2)", 10);
        fault("thins (^);");
        fault("thins (1^;");
        fault("thins (1^];");
        fault("thins (1^,2);");
        for (String pair : new String[] {"min", "max"}) {
            fault("thins " + pair + "^;");
            fault("thins " + pair + " ^1,2);");
            fault("thins " + pair + "^[1,2];");
            fault("thins " + pair + "(^,2);");
            fault("thins " + pair + "(1^);");
            fault("thins " + pair + "(1,^);");
            fault("thins " + pair + "(1,2^,3);");
        }
    }

    private void choices() {
        sheet.says("if ( TEST , SUM , SUM ) (the first SUM where the TEST holds, else the second one).");
        sum("if(all,3,4)", 3);
        sum("if(not all,3,4)", 4);
        sum("if(film<50,3,4)", 4);
        sum("if(film=50,3,4)", 3);
        sum("if(film>50,3,4)", 4);
        sum("if(all,if(not all,1,2),3)", 2);
        sum("if(if(all,1,0)=1 and all,8,9)+1", 9);
        fault("thins if ^all,1,2);");
        fault("thins if(^,1,2);");
        fault("thins if(1^,2,3);");
        fault("thins if(all^);");
        fault("thins if(all,1^);");
        fault("thins if(all,1,^);");
        fault("thins if(all,1,2^,3);");
        fault("thins if(all,^all,2);");
    }

    private void grammarOfTests() {
        sheet.says("TEST: BOTH { or BOTH }. BOTH: FACT { and FACT }.");
        String yes = "all";
        String no = "not all";
        test(yes + " or " + no, true);
        test(no + " or " + yes, true);
        test(no + " or " + no, false);
        test(no + " or " + no + " or " + yes, true);
        test(yes + " and " + yes, true);
        test(yes + " and " + no, false);
        test(no + " and " + yes, false);
        test(yes + " and " + yes + " and " + no, false);
        test(yes + " or " + yes + " and " + no, true);
        test(no + " and " + no + " or " + yes, true);
        test(no + " and " + yes + " or " + no, false);
        fault("bursts ^;");
        fault("bursts ^or all;");
        fault("bursts ^and all;");
        fault("bursts all or^;");
        fault("bursts all and^;");
        fault("bursts all or ^or all;");
        fault("bursts all and ^or all;");
        fault("bursts all ^all;");
    }

    private void facts() {
        sheet.says("FACT: not FACT; [ TEST ] ; all; SUM SIGN SUM, SIGN < or > or = .");
        test("all", true);
        test("not all", false);
        test("not not all", true);
        test("not all or all", true);
        test("not [all or all]", false);
        test("not [all and not all]", true);
        test("[all]", true);
        test("[not all]", false);
        test("[all or all] and not all", false);
        for (int n = 49; n <= 51; n++) {
            test("film<" + n, 50 < n);
            test("film>" + n, 50 > n);
            test("film=" + n, 50 == n);
            test("not film=" + n, 50 != n);
            test(n + "<film", n < 50);
            test("film-" + n + "<0-0", 50 - n < 0);
        }
        // Facts of all SIGNS beside each other, and beside all.
        for (int n = 49; n <= 51; n++) {
            test("not film<" + n, 50 >= n);
            test("not film>" + n, 50 <= n);
            test("film<" + (n + 1) + " and film>" + (n - 1) + " and film=" + n, n == 50);
            test("film<" + n + " and all", n > 50);
            test("all and film>" + n, n < 50);
            test("film<" + n + " or film>" + n, n != 50);
            test("not film<" + n + " and not film>" + n, n == 50);
        }
        fault("bursts film^;");
        fault("bursts film<^;");
        fault("bursts film<^=1;");
        fault("bursts film^!1;");
        fault("bursts film<1^<2;");
        fault("bursts (film^<1);");
        fault("bursts (^all);");
        fault("bursts not^;");
        fault("bursts [^];");
        fault("bursts [all^);");
        fault("bursts [film^]<1;");
        fault("bursts all^<1;");
    }

    private void qualities() {
        sheet.says("(Of the BUBBLE its film, its size; the SECOND;");
        sum("film", 50);
        sum("size", 3);
        sum("second", 0);
        for (int film : new int[] {2, 3, 98, 99}) {
            SoapDeeds x = sheet.in("room 3 by 3;bubble p at 0 0 film " + film + " size 1;thins if(film=" + film + ",0,film);bursts not film=" + film + ";");
            sheet.due("film " + film, x.seconds(1), 0);
        }
        for (int size = 1; size <= 9; size++) {
            SoapDeeds x = sheet.in("room 3 by 3;bubble p at 0 0 film 99 size " + size + ";thins size;");
            x.seconds(1);
            sheet.due("thins by size " + size, x.bubble(0, 2), 99 - size);
        }
        for (int second : new int[] {0, 1, 255, 256, 997, 998}) {
            SoapDeeds x = sheet.inAt(second, "room 3 by 3;lamp 0 0;bubble p at 0 0 film 99 size 1;thins if(second=" + second + ",3,0);hue if(second="
                + second + ",4,0);bursts second>" + second + ";");
            sheet.due("bursts in SECOND " + second, x.seconds(1), 0);
            sheet.due("thins in SECOND " + second, x.bubble(0, 2), 96);
            sheet.due("hue in SECOND " + second, x.deed(0, 2), 4);
            if (second < 998) {
                sheet.due("bursts in the next SECOND", x.seconds(1), 1);
            }
        }
    }

    /** The film that is left of 50 when 10 are lost by drifting, 1 by staying. */
    private int filmLeft(String room, int seconds) {
        SoapDeeds x = sheet.in(room + "thins 1+9*drift;");
        x.seconds(seconds);
        return x.bubble(0, 2);
    }

    private void drift() {
        sheet.says("1 if it is in another CELL than ahead of the SECOND, else 0;");
        String door = "room 3 by 3;door a at 0 0 blows 1 reach 6;open a;";
        sheet.due("it drifts", filmLeft(door + "bubble p at 1 0 film 50 size 1;", 1), 40);
        sheet.due("it is at the wall", filmLeft(door + "bubble p at 2 0 film 50 size 1;", 1), 49);
        sheet.due("it drifts to the wall, and is there", filmLeft(door + "bubble p at 1 0 film 50 size 1;", 2), 39);
        sheet.due("no DRAUGHT", filmLeft(door + "bubble p at 0 1 film 50 size 1;", 1), 49);
        sheet.due("it comes to another", filmLeft(door + "bubble p at 1 0 film 50 size 1;bubble q at 2 0 film 9 size 1;", 1), 40);
        sheet.due("another comes to it", filmLeft(door + "bubble p at 2 0 film 50 size 1;bubble q at 1 0 film 9 size 1;", 1), 49);
    }

    private void tall() {
        sheet.says("how tall the HEIR in its CELL is, 0 without;");
        for (int tall = 0; tall <= 9; tall++) {
            for (int asked = Math.max(0, tall - 1); asked <= tall + 1; asked++) {
                SoapDeeds x = sheet.in("room 3 by 3;heir k at 1 0 tall 5;heir h at 0 0 tall " + tall + ";bubble p at 0 0 film 9 size 1;bursts tall="
                    + asked + ";");
                sheet.due("tall " + tall + " is " + asked, x.seconds(1), tall == asked ? 1 : 0);
            }
        }
        SoapDeeds x = sheet.in("room 3 by 3;heir k at 1 0 tall 5;bubble p at 0 0 film 9 size 1;bubble q at 1 0 film 9 size 1;bursts tall=0;");
        sheet.due("without one", x.seconds(1), 1);
        sheet.due("it", x.kept(0, 1), 0);
        // The HEIR in the CELL to which it came, not in the one from which it came.
        x = sheet.in("room 3 by 3;door a at 0 0 blows 1 reach 1;open a;heir h at 0 0 tall 4;heir k at 1 0 tall 5;bubble p at 0 0 film 9 size 1;bursts tall=5;");
        sheet.due("where it came to", x.seconds(1), 1);
    }

    private void deeds() {
        sheet.says("how many DEEDS it has.)");
        String six = "room 7 by 7;lamp 6 0;door a at 0 0 blows 1 reach 6;open a;";
        for (int n = 1; n <= 6; n++) {
            StringBuilder text = new StringBuilder(six);
            for (int k = 0; k < n; k++) {
                text.append("bubble b").append((char) ('a' + k)).append(" at ").append(6 - k).append(" 0 film 99 size 1;");
            }
            SoapDeeds x = sheet.in(text + "hue if(second=6,deeds,0);");
            x.seconds(7);
            for (int k = 0; k < n; k++) {
                sheet.due(n + " DEEDS, " + k, x.deed(k, 2), n);
            }
        }
    }

    private void fromTheLeft() {
        sheet.says("All from the left on;");
        sum("9-3-2", 4);
        sum("9-3+2", 8);
        sum("100/10/5", 2);
        sum("100/10*5", 50);
        sum("100%30%7", 3);
        sum("7*4%5", 3);
        sum("7%4*5", 15);
        sum("7/2*2", 6);
        sum("2*7/2", 7);
    }

    private void shares() {
        sheet.says("/ gives the greatest whole number not above, % what is left (a less b times that);");
        int[] some = {-MILLION, -9999, -7, -6, -5, -1, 0, 1, 5, 6, 7, 9999, MILLION};
        int[] by = {-MILLION, -7, -3, -2, -1, 1, 2, 3, 7, MILLION};
        for (int a : some) {
            for (int b : by) {
                int whole = a / b;
                if (whole * b != a && (a < 0) != (b < 0)) {
                    whole--;
                }
                sheet.due(a + " / " + b, holds("(" + number(a) + ")/(" + number(b) + ")=" + number(whole)), true);
                sheet.due(a + " % " + b, holds("(" + number(a) + ")%(" + number(b) + ")=" + number(a - b * whole)), true);
            }
        }
        sum("7/2", 3);
        sum("(0-7)/2", -4);
        sum("7/(0-2)", -4);
        sum("(0-7)/(0-2)", 3);
        sum("7%2", 1);
        sum("(0-7)%2", 1);
        sum("7%(0-2)", -1);
        sum("(0-7)%(0-2)", -1);
    }

    private void byNothing() {
        sheet.says("by 0 both give 0;");
        for (String a : new String[] {"0", "7", "(0-7)", "(1000*1000)"}) {
            sum(a + "/0", 0);
            sum(a + "%0", 0);
            sum(a + "/(3-3)", 0);
            sum(a + "%(film-50)", 0);
            sum("5+" + a + "/0", 5);
            sum("5+" + a + "%0", 5);
        }
    }

    private void cut() {
        sheet.says("each result above 10 to the 6 is that, below -10 to the 6 likewise.");
        sum("1000*1000-1", MILLION - 1);
        sum("1000*1000", MILLION);
        sum("1000*1000+1", MILLION);
        sum("1000*1000+1-1", MILLION - 1);
        sum("999*1000+999", MILLION - 1);
        sum("999*1000+999+1", MILLION);
        sum("999*1000+999+2-3", MILLION - 3);
        sum("1000*1001-1", MILLION - 1);
        sum("9999*9999-1", MILLION - 1);
        sum("9999*9999*9999*9999-1", MILLION - 1);
        sum("1000*1000*(1000*1000)-1", MILLION - 1);
        sum("0-1000*1000+1", 1 - MILLION);
        sum("0-1000*1000", -MILLION);
        sum("0-1000*1000-1", -MILLION);
        sum("0-1000*1000-1+1", 1 - MILLION);
        sum("(0-999)*1000-999", 1 - MILLION);
        sum("(0-1000)*1001+1", 1 - MILLION);
        sum("1001*(0-1000)+1", 1 - MILLION);
        sum("(0-1000*1000)*(1000*1000)+1", 1 - MILLION);
        sum("(0-1000*1000)*(0-1000*1000)-1", MILLION - 1);
        sum("1000*1000-(0-1)-1", MILLION - 1);
        sum("1000*1000/(0-1)", -MILLION);
        sum("(0-1000*1000)/(0-1)", MILLION);
        sum("min(9999*9999,1000*1000)-1", MILLION - 1);
        sum("max(9999*9999,0)-1", MILLION - 1);
        sum("if(all,9999*9999,0)-1", MILLION - 1);
    }
}
