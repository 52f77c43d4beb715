/** Terms I, what each STATEMENT has: its bounds. */
final class EdgesOfTexts {
    private static final String R = "room 3 by 5;";
    private final Sheet sheet;

    EdgesOfTexts(Sheet sheet) {
        this.sheet = sheet;
    }

    void run() {
        sheet.section("I");
        statements();
        walls();
        firstAndAlone();
        lamps();
        lastLamp();
        doors();
        sixDoors();
        openDoors();
        heirs();
        bubbles();
        rules();
        breaths();
    }

    private void statements() {
        sheet.says("A ROOM is a text: { STATEMENT ; } (80 at most):");
        sheet.good(1, R);
        sheet.good(2, R + "lamp 0 0;");
        sheet.good(79, R + "lamp 0 0;".repeat(78));
        sheet.good(80, R + "lamp 0 0;".repeat(79));
        sheet.fault(6, R + "lamp 0 0;".repeat(79) + "^lamp 0 0;");
        sheet.fault(1, "room 3 by 5^");
        sheet.fault(1, R + "lamp 0 0^");
        sheet.fault(1, R + "lamp 0 0 ^lamp 0 0;");
        sheet.fault(1, R + "^;");
        sheet.fault(1, R + "^{lamp 0 0;}");
    }

    private void walls() {
        sheet.says("room N by N (3 .. 7 columns, rows;");
        for (int columns = 0; columns <= 10; columns++) {
            for (int rows = 0; rows <= 10; rows++) {
                boolean wide = columns >= 3 && columns <= 7;
                boolean high = rows >= 3 && rows <= 7;
                String text = "room " + columns + " by " + rows + ";";
                if (wide && high) {
                    SoapDeeds x = sheet.good(1, text);
                    sheet.due("columns of " + text, x.has(0), columns);
                    sheet.due("rows of " + text, x.has(1), rows);
                } else {
                    sheet.faultAt(4, wide ? 10 : 5, text);
                }
            }
        }
        sheet.fault(4, "room ^9999 by 3;");
        sheet.fault(4, "room 3 by ^9999;");
    }

    private void firstAndAlone() {
        sheet.says("the first STATEMENT, and it alone);");
        for (String text : new String[] {"lamp 0 0;", "door d at 0 0 blows 0 reach 1;", "heir h at 0 0 tall 0;", "breath 0;", "thins 1;",
            "bubble b at 0 0 film 1 size 1;", "open d;", "bursts all;", "hue 1;"}) {
            sheet.fault(1, "^" + text + R);
            sheet.fault(1, "\n ^" + text);
        }
        sheet.fault(1, R + "^" + R);
        sheet.fault(1, R + "lamp 0 0;^" + R);
        sheet.fault(1, R + "lamp 0 0;".repeat(78) + "^" + R);
    }

    /** A CELL behind these words: each column and row of a room of 3 by 5 and the ones next to it. */
    private void cells(String ahead, String behind) {
        for (int column = 0; column <= 4; column++) {
            for (int row = 0; row <= 6; row++) {
                String text = R + ahead + column + " ";
                if (column > 2) {
                    sheet.faultAt(4, text.length() - 2, text + row + behind);
                } else if (row > 4) {
                    sheet.faultAt(4, text.length(), text + row + behind);
                } else {
                    sheet.good(2, text + row + behind);
                }
            }
        }
        sheet.fault(4, R + ahead + "^9999 0" + behind);
        sheet.fault(4, R + ahead + "0 ^9999" + behind);
        sheet.fault(1, R + ahead + "^-1 0" + behind);
        sheet.fault(1, R + ahead + "0 ^-1" + behind);
    }

    private void lamps() {
        sheet.says("lamp N N (a CELL: a column, a row from 0 on;");
        cells("lamp ", ";");
        SoapDeeds x = sheet.good(2, R + "lamp 2 4;");
        sheet.due("the column", x.lamp(0), 2);
        sheet.due("the row", x.lamp(1), 4);
        x = sheet.good(2, R + "lamp 0 0;");
        sheet.due("the column", x.lamp(0), 0);
        sheet.due("the row", x.lamp(1), 0);
        for (int side = 3; side <= 7; side++) {
            String room = "room " + side + " by " + (10 - side) + ";lamp ";
            sheet.good(2, room + (side - 1) + " " + (9 - side) + ";");
            sheet.fault(4, room + "^" + side + " 0;");
            sheet.fault(4, room + "0 ^" + (10 - side) + ";");
        }
    }

    private void lastLamp() {
        sheet.says("the last one counts, none without);");
        SoapDeeds x = sheet.good(3, R + "lamp 2 4;lamp 1 3;");
        sheet.due("the column of the last", x.lamp(0), 1);
        sheet.due("the row of the last", x.lamp(1), 3);
        x = sheet.good(4, R + "lamp 1 3;lamp 2 4;lamp 0 0;");
        sheet.due("the column of the last", x.lamp(0), 0);
        sheet.due("the row of the last", x.lamp(1), 0);
        x = sheet.good(1, R);
        sheet.due("the column without", x.lamp(0), Sheet.NONE);
        sheet.due("the row without", x.lamp(1), Sheet.NONE);
    }

    /** A NUMBER from least to most, ahead of and behind which are these words. */
    private void numbers(String ahead, int least, int most, String behind) {
        for (int n : new int[] {0, 1, least - 1, least, least + 1, most - 1, most, most + 1, 10 * most, 9999}) {
            if (n >= least && n <= most) {
                sheet.good(2, R + ahead + n + behind);
            } else if (n >= 0) {
                sheet.fault(4, R + ahead + "^" + n + behind);
            }
        }
        sheet.fault(1, R + ahead + "^-" + most + behind);
    }

    private void doors() {
        sheet.says("door NAME at N N blows N reach N (a CELL; a WAY 0 .. 3; 1 .. 6;");
        cells("door d at ", " blows 0 reach 1;");
        numbers("door d at 0 0 blows ", 0, 3, " reach 1;");
        numbers("door d at 0 0 blows 0 reach ", 1, 6, ";");
        SoapDeeds x = sheet.good(4, R + "door d at 2 4 blows 3 reach 6;door e at 2 4 blows 0 reach 1;door f at 0 0 blows 1 reach 2;");
        int[][] want = {{2, 4, 3, 6, 0}, {2, 4, 0, 1, 0}, {0, 0, 1, 2, 0}};
        for (int door = 0; door < want.length; door++) {
            int which = door;
            sheet.parts("door " + door + " part", what -> x.door(which, what), want[door]);
        }
    }

    private static String many(int n, String ahead, String behind) {
        StringBuilder text = new StringBuilder();
        for (int k = 0; k < n; k++) {
            text.append(ahead.replace("NAME", "" + (char) ('a' + k))).append(k % 3).append(' ').append(k / 3).append(behind);
        }
        return text.toString();
    }

    /** Five, six, seven of a sort; the seventh is a FAULT at its first byte, whatever stands behind. */
    private void six(int sort, String ahead, String behind) {
        String word = ahead.substring(0, ahead.indexOf(' '));
        sheet.due("five", sheet.good(6, R + many(5, ahead, behind)).has(2 + sort), 5);
        sheet.due("six", sheet.good(7, R + many(6, ahead, behind)).has(2 + sort), 6);
        sheet.fault(6, R + many(6, ahead, behind) + "^" + ahead.replace("NAME", "g") + "2 2" + behind);
        sheet.fault(6, R + many(6, ahead, behind) + "^" + word);
        sheet.fault(6, R + many(6, ahead, behind) + "lamp 0 0;\n^" + word + " 12345");
        sheet.good(19, R + many(6, "door dNAME at ", " blows 0 reach 1;") + many(6, "heir hNAME at ", " tall 0;")
            + many(6, "bubble bNAME at ", " film 1 size 1;"));
    }

    private void sixDoors() {
        sheet.says("6 DOORS);");
        six(0, "door NAME at ", " blows 0 reach 1;");
    }

    private void openDoors() {
        sheet.says("open NAME (a DOOR that is not OPEN);");
        String doors = R + many(6, "door NAME at ", " blows 0 reach 1;");
        for (int door = 0; door < 6; door++) {
            char name = (char) ('a' + door);
            SoapDeeds x = sheet.good(8, doors + "open " + name + ";");
            for (int other = 0; other < 6; other++) {
                sheet.due("door " + other + " with " + name + " open", x.door(other, 4), other == door ? 1 : 0);
            }
            sheet.fault(3, doors + "open " + name + ";open ^" + name + ";");
        }
        sheet.good(13, doors + "open f;open a;open c;open b;open e;open d;");
        sheet.fault(3, doors + "open ^g;");
    }

    private void heirs() {
        sheet.says("heir NAME at N N tall N (a CELL in which no HEIR is; 0 .. 9; 6 HEIRS);");
        cells("heir h at ", " tall 0;");
        numbers("heir h at 0 0 tall ", 0, 9, ";");
        six(1, "heir NAME at ", " tall 0;");
        sheet.fault(4, R + "heir h at 1 2 tall 0;heir k at 1 ^2 tall 0;");
        sheet.good(3, R + "heir h at 1 2 tall 0;heir k at 2 1 tall 0;");
        sheet.good(3, R + "heir h at 1 2 tall 0;heir k at 1 3 tall 0;");
        sheet.good(3, R + "heir h at 1 2 tall 0;heir k at 0 2 tall 0;");
        sheet.fault(4, R + many(5, "heir NAME at ", " tall 0;") + "heir h at 1 ^1 tall 0;");
        sheet.good(4, R + "door d at 1 2 blows 0 reach 1;bubble b at 1 2 film 1 size 1;heir h at 1 2 tall 0;");
        SoapDeeds x = sheet.good(2, R + "heir h at 2 4 tall 9;");
        sheet.due("column", x.heir(0, 0), 2);
        sheet.due("row", x.heir(0, 1), 4);
        sheet.due("tall", x.heir(0, 2), 9);
    }

    private void bubbles() {
        sheet.says("bubble NAME at N N film N size N (a CELL in which no BUBBLE is; 1 .. 99; 1 .. 9; 6 BUBBLES);");
        cells("bubble b at ", " film 1 size 1;");
        numbers("bubble b at 0 0 film ", 1, 99, " size 1;");
        numbers("bubble b at 0 0 film 1 size ", 1, 9, ";");
        six(2, "bubble NAME at ", " film 1 size 1;");
        sheet.fault(4, R + "bubble b at 1 2 film 1 size 1;bubble c at 1 ^2 film 1 size 1;");
        sheet.good(3, R + "bubble b at 1 2 film 1 size 1;bubble c at 2 1 film 1 size 1;");
        sheet.good(3, R + "bubble b at 1 2 film 1 size 1;bubble c at 1 1 film 1 size 1;");
        sheet.good(3, R + "bubble b at 1 2 film 1 size 1;bubble c at 2 2 film 1 size 1;");
        sheet.fault(4, R + many(5, "bubble NAME at ", " film 1 size 1;") + "bubble g at 0 ^0 film 1 size 1;");
        sheet.good(4, R + "door d at 1 2 blows 0 reach 1;heir h at 1 2 tall 0;bubble b at 1 2 film 1 size 1;");
        SoapDeeds x = sheet.good(2, R + "bubble b at 2 4 film 99 size 9;");
        sheet.parts("bubble 0 part", what -> x.bubble(0, what), 2, 4, 99, 9, 1);
    }

    private void rules() {
        sheet.says("thins SUM, bursts TEST, hue SUM (one each);");
        String[] rules = {"thins 1;", "bursts not all;", "hue 1;"};
        for (int k = 0; k < 3; k++) {
            String others = rules[(k + 1) % 3] + rules[(k + 2) % 3];
            sheet.good(2, R + rules[k]);
            sheet.good(4, R + others + rules[k]);
            sheet.fault(6, R + rules[k] + "^" + rules[k]);
            sheet.fault(6, R + rules[k] + others + "lamp 0 0;^" + rules[k]);
        }
        sheet.fault(1, R + "thins ^all;");
        sheet.fault(1, R + "bursts 1^;");
        sheet.fault(1, R + "hue ^all;");
    }

    /** How many breaths come in 40 SECONDS by the seed tells which breath counts. */
    private void breaths() {
        sheet.says("breath N (0 .. 100; the last one counts, 0 without).");
        numbers("breath ", 0, 100, ";");
        sheet.due("100 and then 0", sheet.good(3, R + "breath 100;breath 0;").chance(40), 0);
        sheet.due("0 and then 100", sheet.good(3, R + "breath 0;breath 100;").chance(40), 40);
        sheet.due("0, 100 and 0", sheet.good(4, R + "breath 0;breath 100;breath 0;").chance(40), 0);
        sheet.due("without", sheet.good(1, R).chance(40), 0);
    }
}
