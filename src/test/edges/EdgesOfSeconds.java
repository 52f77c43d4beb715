import java.math.BigInteger;

/** Terms II: DRAUGHTS, how a SECOND goes, DRAWS, KEPT, ACTS. */
final class EdgesOfSeconds {
    private static final int NONE = Sheet.NONE;
    private final Sheet sheet;

    EdgesOfSeconds(Sheet sheet) {
        this.sheet = sheet;
    }

    void run() {
        sheet.section("II");
        ways();
        draughts();
        firstOpenDoor();
        atFirst();
        deedsAtFirst();
        drift();
        join();
        sizesTogether();
        thickestFilm();
        thin();
        burst();
        rent();
        rentAtMost();
        second();
        bySeed();
        kept();
        acts();
        lastTwenty();
        draws();
    }

    private void place(String what, SoapDeeds x, int bubble, int column, int row) {
        sheet.due(what + ": column", x.bubble(bubble, 0), column);
        sheet.due(what + ": row", x.bubble(bubble, 1), row);
    }

    private void ways() {
        sheet.says("WAYS are 0 to the row less, 1 to the column more, 2 to the row more, 3 to the column less.");
        int[][] to = {{1, 0}, {2, 1}, {1, 2}, {0, 1}};
        for (int way = 0; way < 4; way++) {
            SoapDeeds x = sheet.in("room 3 by 3;door d at 1 1 blows " + way + " reach 1;open d;heir h at 1 1 tall 0;bubble p at 1 1 film 9 size 1;");
            x.seconds(1);
            place("way " + way, x, 0, to[way][0], to[way][1]);
            x.tiptoe(0, way);
            sheet.due("a HEIR's column, way " + way, x.heir(0, 0), to[way][0]);
            sheet.due("a HEIR's row, way " + way, x.heir(0, 1), to[way][1]);
        }
    }

    private void draughts() {
        sheet.says("from whose CELL it is 0 .. reach CELLS on along that WAY; none without.");
        int[][] steps = {{0, -1}, {1, 0}, {0, 1}, {-1, 0}};
        for (int way = 0; way < 4; way++) {
            for (int reach = 1; reach <= 6; reach++) {
                for (int from = 0; from < 2; from++) {
                    // From the wall behind it, and from the midst of the room.
                    int column = from == 0 ? 3 - 3 * steps[way][0] : 3;
                    int row = from == 0 ? 3 - 3 * steps[way][1] : 3;
                    SoapDeeds x = sheet.in("room 7 by 7;door d at " + column + " " + row + " blows " + way + " reach " + reach + ";open d;");
                    for (int k = -1; k <= reach + 1; k++) {
                        int c = column + k * steps[way][0];
                        int r = row + k * steps[way][1];
                        boolean there = c >= 0 && c < 7 && r >= 0 && r < 7;
                        int want = there && k >= 0 && k <= reach ? way : NONE;
                        sheet.due("way " + way + " reach " + reach + ", " + k + " on", x.draught(c, r), want);
                    }
                    sheet.due("beside it", x.draught(column + steps[way][1], row + steps[way][0]), NONE);
                    sheet.due("beside it", x.draught(column - steps[way][1], row - steps[way][0]), NONE);
                    x.swing(0, 0);
                    sheet.due("shut", x.draught(column, row), NONE);
                }
            }
        }
    }

    private void firstOpenDoor() {
        sheet.says("The DRAUGHT in a CELL is the WAY of the first OPEN DOOR, by numbers,");
        SoapDeeds x = sheet.in("room 3 by 3;door a at 1 1 blows 0 reach 1;door b at 0 1 blows 1 reach 2;door c at 1 0 blows 2 reach 2;"
            + "door d at 2 1 blows 3 reach 2;open d;open c;open b;open a;");
        int[] want = {0, 1, 2, 3};
        for (int door = 0; door < 4; door++) {
            sheet.due("open from " + door + " on", x.draught(1, 1), want[door]);
            x.swing(door, 0);
        }
        sheet.due("all shut", x.draught(1, 1), NONE);
        x.swing(3, 1);
        sheet.due("the last alone", x.draught(1, 1), 3);
        x.swing(1, 1);
        sheet.due("one ahead of it", x.draught(1, 1), 1);
    }

    private static String six(String behind) {
        StringBuilder text = new StringBuilder();
        for (int k = 0; k < 6; k++) {
            text.append("bubble b").append((char) ('a' + k)).append(" at ").append(k % 3).append(' ').append(k / 3).append(behind);
        }
        return text.toString();
    }

    private void atFirst() {
        sheet.says("A BUBBLE floats, or is GONE; each floats at first, and has its own DEED (of the same number).");
        for (int lasts = 1; lasts <= 2; lasts++) {
            SoapDeeds x = sheet.in("room 3 by 3;" + six(" film " + lasts + " size 2;"));
            sheet.due("that float", x.has(6), 6);
            for (int k = 0; k < 6; k++) {
                place("BUBBLE " + k, x, k, k % 3, k / 3);
                sheet.due("DEEDS of " + k, x.bubble(k, 4), 1 << k);
                sheet.due("where DEED " + k + " is", x.deed(k, 1), k);
            }
            x.seconds(1);
            sheet.due("that float behind one", x.has(6), lasts == 1 ? 0 : 6);
            for (int k = 0; k < 6; k++) {
                sheet.due("column of " + k, x.bubble(k, 0), lasts == 1 ? NONE : k % 3);
                sheet.due("DEEDS of " + k, x.bubble(k, 4), lasts == 1 ? 0 : 1 << k);
            }
        }
    }

    private void deedsAtFirst() {
        sheet.says("A DEED is in a BUBBLE, or is owned by a HEIR, or is LOST; its RENT is 0 at first.");
        SoapDeeds x = sheet.in("room 3 by 3;lamp 0 0;heir h at 1 0 tall 0;bubble p at 0 0 film 99 size 1;bubble q at 1 0 film 1 size 1;"
            + "bubble r at 2 0 film 1 size 1;");
        for (int deed = 0; deed < 3; deed++) {
            sheet.due("RENT of " + deed, x.deed(deed, 2), 0);
            sheet.due("owner of " + deed, x.deed(deed, 0), NONE);
        }
        sheet.due("owned", x.has(7), 0);
        sheet.due("LOST", x.has(8), 0);
        x.seconds(1);
        int[][] want = {{NONE, 0, 9}, {0, NONE, 0}, {NONE, NONE, 0}};
        for (int deed = 0; deed < 3; deed++) {
            int which = deed;
            sheet.parts("DEED " + deed + " part", what -> x.deed(which, what), want[deed]);
        }
        sheet.due("owned", x.has(7), 1);
        sheet.due("LOST", x.has(8), 1);
    }

    /** A BUBBLE at each wall of a room of 3 by 5, and one CELL from it. */
    private void drift() {
        sheet.says("A SECOND: FIRST all that float drift at once: one CELL on along the DRAUGHT in their CELL, if that CELL is in the room;"
            + " without a DRAUGHT they stay.");
        int[][] walls = {{1, 0}, {2, 3}, {1, 4}, {0, 3}};
        int[][] ahead = {{1, 1}, {1, 3}, {1, 3}, {1, 3}};
        for (int way = 0; way < 4; way++) {
            int[][] both = {walls[way], ahead[way]};
            for (int[] from : both) {
                String cell = from[0] + " " + from[1];
                SoapDeeds x = sheet.in("room 3 by 5;door d at " + cell + " blows " + way + " reach 1;open d;bubble p at " + cell + " film 9 size 1;");
                x.seconds(1);
                place("way " + way + " from " + cell, x, 0, walls[way][0], walls[way][1]);
                sheet.due("it floats", x.has(6), 1);
            }
        }
        // At once: each follows the one ahead of it, and none meets the one that left.
        for (String names : new String[] {"pqr", "rqp", "qrp"}) {
            StringBuilder text = new StringBuilder("room 3 by 3;door a at 0 0 blows 1 reach 1;door b at 2 0 blows 2 reach 1;open a;open b;");
            for (char name : names.toCharArray()) {
                text.append("bubble ").append(name).append(" at ").append(name - 'p').append(" 0 film 9 size 1;");
            }
            SoapDeeds x = sheet.in(text + "bubble s at 0 1 film 9 size 1;");
            x.seconds(1);
            sheet.due("all float", x.has(6), 4);
            place("p", x, names.indexOf('p'), 1, 0);
            place("q", x, names.indexOf('q'), 2, 0);
            place("r", x, names.indexOf('r'), 2, 1);
            place("s, without a DRAUGHT", x, 3, 0, 1);
        }
    }

    private static String meeting(String first, String second) {
        return "room 3 by 3;door a at 0 0 blows 1 reach 1;door b at 2 0 blows 3 reach 1;open b;open a;bubble p at 2 0 " + first + ";bubble q at 0 0 "
            + second + ";thins 0;";
    }

    private void join() {
        sheet.says("THEN those in one CELL JOIN: that of the least number has the DEEDS of all,");
        SoapDeeds x = sheet.in(meeting("film 5 size 1", "film 5 size 1"));
        x.seconds(1);
        place("p", x, 0, 1, 0);
        sheet.due("DEEDS of p", x.bubble(0, 4), 3);
        sheet.due("that float", x.has(6), 1);
        sheet.due("nothing is KEPT", x.has(9), 0);
        // All six in one CELL: the door blows all of them into the corner.
        StringBuilder text = new StringBuilder("room 7 by 3;door d at 6 0 blows 3 reach 6;open d;");
        for (int k = 0; k < 6; k++) {
            text.append("bubble b").append((char) ('a' + k)).append(" at ").append(6 - k).append(" 0 film 99 size 1;");
        }
        SoapDeeds all = sheet.in(text.toString());
        all.seconds(6);
        sheet.due("one is left", all.has(6), 1);
        sheet.due("DEEDS of it", all.bubble(0, 4), 63);
        for (int k = 0; k < 6; k++) {
            sheet.due("where DEED " + k + " is", all.deed(k, 1), 0);
            sheet.due("film of " + k, all.bubble(k, 2), k == 0 ? 93 : 0);
        }
        sheet.says("the others are GONE.");
        for (int what = 0; what < 5; what++) {
            sheet.due("q part " + what, x.bubble(1, what), what < 2 ? NONE : 0);
        }
        x.seconds(1);
        sheet.due("GONE for good", x.bubble(1, 0), NONE);
    }

    private void sizesTogether() {
        sheet.says("their sizes together (9 at most),");
        for (int p = 1; p <= 9; p++) {
            for (int q = 1; q <= 9; q++) {
                SoapDeeds x = sheet.in(meeting("film 5 size " + p, "film 5 size " + q));
                x.seconds(1);
                sheet.due(p + " and " + q, x.bubble(0, 3), Math.min(9, p + q));
            }
        }
        for (int r = 1; r <= 5; r++) {
            SoapDeeds x = sheet.in("room 3 by 3;door a at 0 0 blows 1 reach 1;door b at 2 0 blows 3 reach 1;door c at 1 2 blows 0 reach 1;open b;open a;open c;"
                + "bubble p at 2 0 film 5 size 3;bubble q at 0 0 film 5 size 3;bubble r at 1 1 film 5 size " + r + ";");
            x.seconds(1);
            sheet.due("3 and 3 and " + r, x.bubble(0, 3), Math.min(9, 6 + r));
        }
    }

    private void thickestFilm() {
        sheet.says("the thickest film of them;");
        int[][] films = {{1, 1}, {1, 2}, {2, 1}, {98, 99}, {99, 98}, {99, 99}, {1, 99}, {99, 1}};
        for (int[] film : films) {
            SoapDeeds x = sheet.in(meeting("film " + film[0] + " size 1", "film " + film[1] + " size 1"));
            x.seconds(1);
            sheet.due(film[0] + " and " + film[1], x.bubble(0, 2), Math.max(film[0], film[1]));
        }
    }

    private void film(int film, String thins, int want) {
        SoapDeeds x = sheet.in("room 3 by 3;bubble p at 0 0 film " + film + " size 1;" + thins);
        sheet.due(thins + " of " + film + ": how many BURST", x.seconds(1), want == 0 ? 1 : 0);
        sheet.due(thins + " of " + film, x.bubble(0, 2), want);
    }

    private void thin() {
        sheet.says("THEN BUBBLE by BUBBLE that floats: its film is what it was less the SUM of thins (without it: less 1; the SUM is not cut), at least 0,"
            + " at most 99;");
        film(1, "", 0);
        film(2, "", 1);
        film(3, "", 2);
        film(99, "", 98);
        for (int less : new int[] {0, 1, 8, 9, 10, 11, 97, 98, 99, 100, 9999}) {
            film(99, "thins " + less + ";", Math.max(0, 99 - less));
            film(50, "thins " + less + ";", Math.max(0, 50 - less));
            film(1, "thins 0-" + less + ";", Math.min(99, 1 + less));
            film(50, "thins 0-" + less + ";", Math.min(99, 50 + less));
        }
        film(97, "thins 0-1;", 98);
        film(98, "thins 0-1;", 99);
        film(99, "thins 0-1;", 99);
        film(9, "thins film-1;", 1);
        film(9, "thins film;", 0);
        film(9, "thins film+1;", 0);
        film(9, "thins 9999*9999;", 0);
        film(9, "thins 0-9999*9999;", 99);
    }

    private void burst() {
        sheet.says("if it is 0 now, or the TEST of bursts holds (without it: never), it BURSTS: it is GONE, its DEEDS are owned by the HEIR in its CELL,"
            + " LOST without one;");
        String p = "room 3 by 3;heir h at 0 0 tall 3;bubble p at 0 0 film ";
        sheet.due("0 without bursts", sheet.in(p + "1 size 1;").seconds(1), 1);
        sheet.due("0 with bursts that never hold", sheet.in(p + "1 size 1;bursts not all;").seconds(1), 1);
        sheet.due("1 without bursts", sheet.in(p + "2 size 1;").seconds(1), 0);
        sheet.due("never without bursts", sheet.in(p + "99 size 9;thins 0;").seconds(40), 0);
        sheet.due("1 with bursts that hold", sheet.in(p + "2 size 1;bursts all;").seconds(1), 1);
        // The film that is there now, not what it was.
        sheet.due("what it was", sheet.in(p + "9 size 1;bursts film=9;").seconds(1), 0);
        sheet.due("what it is", sheet.in(p + "9 size 1;bursts film=8;").seconds(1), 1);
        SoapDeeds x = sheet.in("room 3 by 3;door a at 0 1 blows 1 reach 1;door b at 2 1 blows 3 reach 1;open b;open a;heir h at 0 0 tall 0;heir k at 1 1 tall 9;"
            + "bubble p at 2 1 film 9 size 1;bubble q at 0 1 film 9 size 1;bubble r at 0 0 film 1 size 1;bubble s at 2 2 film 1 size 1;bursts tall=9;");
        sheet.due("how many BURST", x.seconds(1), 3);
        int[] owners = {1, 1, 0, NONE};
        for (int deed = 0; deed < 4; deed++) {
            sheet.due("owner of " + deed, x.deed(deed, 0), owners[deed]);
            sheet.due("no BUBBLE has " + deed, x.deed(deed, 1), NONE);
            for (int what = 0; what < 5; what++) {
                sheet.due("part " + what + " of " + deed, x.bubble(deed, what), what < 2 ? NONE : 0);
            }
        }
        sheet.due("DEEDS of h", x.heir(0, 3), 1);
        sheet.due("DEEDS of k", x.heir(1, 3), 2);
        sheet.due("LOST", x.has(8), 1);
        sheet.due("nothing bursts twice", x.seconds(1), 0);
    }

    private int rentOf(int film, String rules) {
        SoapDeeds x = sheet.in("room 3 by 3;lamp 0 0;bubble p at 0 0 film " + film + " size 1;bubble q at 1 0 film 99 size 1;" + rules);
        x.seconds(1);
        sheet.due("none off the lamp", x.deed(1, 2), 0);
        return x.deed(0, 2);
    }

    private void rent() {
        sheet.says("else, if it is in the CELL of the lamp, the RENT of each of its DEEDS is more by the SUM of hue, 0 .. 9 (below is 0, above 9;"
            + " without it: a tenth of its film, rounded down),");
        for (int hue = 0; hue <= 12; hue++) {
            sheet.due("hue " + hue, rentOf(50, "hue " + hue + ";"), Math.min(9, hue));
            sheet.due("hue -" + hue, rentOf(50, "hue 0-" + hue + ";"), 0);
        }
        sheet.due("hue 9999", rentOf(50, "hue 9999;"), 9);
        sheet.due("hue far above", rentOf(50, "hue 9999*9999;"), 9);
        sheet.due("hue far below", rentOf(50, "hue 0-9999*9999;"), 0);
        // The film is one less then.
        for (int film = 2; film <= 99; film++) {
            sheet.due("a tenth of " + (film - 1), rentOf(film, ""), (film - 1) / 10);
        }
        sheet.due("a tenth of 99", rentOf(99, "thins 0;"), 9);
        sheet.due("the film that is there now", rentOf(9, "hue film;"), 8);
        // Else: one that bursts brings none.
        sheet.due("one that bursts", rentOf(1, "hue 9;"), 0);
        sheet.due("one that bursts", rentOf(50, "hue 9;bursts size=1 and film=49;"), 0);
        SoapDeeds x = sheet.in("room 3 by 3;bubble p at 0 0 film 99 size 1;hue 9;");
        x.seconds(1);
        sheet.due("without a lamp", x.deed(0, 2), 0);
        x = sheet.in("room 3 by 3;lamp 1 0;door a at 0 0 blows 1 reach 1;door b at 2 0 blows 3 reach 1;open b;open a;bubble p at 2 0 film 9 size 1;"
            + "bubble q at 0 0 film 9 size 1;bubble r at 1 1 film 9 size 1;hue 3;");
        x.seconds(1);
        sheet.due("each of its DEEDS", x.deed(0, 2), 3);
        sheet.due("each of its DEEDS", x.deed(1, 2), 3);
        sheet.due("no other", x.deed(2, 2), 0);
    }

    private void rentAtMost() {
        sheet.says("999 at most.");
        for (int rent : new int[] {0, 246, 247, 255, 256, 989, 990, 991, 997, 998, 999}) {
            for (int hue : new int[] {0, 1, 2, 8, 9}) {
                SoapDeeds x = sheet.in("room 3 by 3;lamp 0 0;bubble p at 0 0 film 50 size 1;hue " + hue + ";");
                int[] image = Sheet.image(x);
                image[10] = rent / 256;
                image[11] = rent % 256;
                sheet.due("on()", Sheet.on(x, image), true);
                x.seconds(1);
                sheet.due(rent + " and " + hue, x.deed(0, 2), Math.min(999, rent + hue));
            }
        }
    }

    private void second() {
        sheet.says("The SECOND is one more (999 at most; it is 0 at first).");
        String text = "room 3 by 3;bubble p at 0 0 film 50 size 1;thins 0;";
        SoapDeeds x = sheet.in(text);
        sheet.due("at first", x.has(5), 0);
        x.seconds(1);
        sheet.due("behind one", x.has(5), 1);
        x.chance(2);
        sheet.due("behind two by the seed", x.has(5), 3);
        x = sheet.inAt(997, text);
        sheet.due("one", x.seconds(1), 0);
        sheet.due("998", x.has(5), 998);
        sheet.due("one", x.seconds(1), 0);
        sheet.due("999", x.has(5), 999);
        sheet.due("no more", x.seconds(1), NONE);
        sheet.due("no more by the seed", x.chance(1), NONE);
        sheet.due("999 still", x.has(5), 999);
        x = sheet.inAt(959, text);
        sheet.due("forty", x.seconds(40), 0);
        sheet.due("999", x.has(5), 999);
        x = sheet.in(text);
        for (int k = 0; k < 24; k++) {
            x.seconds(40);
        }
        sheet.due("960", x.has(5), 960);
        sheet.due("40 more can't be", x.seconds(40), NONE);
        sheet.due("960 still", x.has(5), 960);
        sheet.due("39 more", x.seconds(39), 0);
        sheet.due("999", x.has(5), 999);
    }

    private static int next(int seed) {
        return BigInteger.valueOf(1103515245).multiply(BigInteger.valueOf(seed)).add(BigInteger.valueOf(12345)).mod(BigInteger.ONE.shiftLeft(31))
            .intValueExact();
    }

    /** The first seed from some on by which a DRAW of 100 gives this. */
    private static int seedFor(int drawn, int from) {
        int seed = from;
        while (next(seed) / 64 % 100 != drawn) {
            seed++;
        }
        return seed;
    }

    private void bySeed() {
        sheet.says("BY THE SEED a SECOND begins with a DRAW of 100: below breath there is a DRAW of 4: in it that WAY is the DRAUGHT wherever there is none.");
        int[][] steps = {{0, -1}, {1, 0}, {0, 1}, {-1, 0}};
        boolean[] seen = new boolean[4];
        for (int breath : new int[] {0, 1, 2, 49, 50, 98, 99, 100}) {
            for (int drawn = Math.max(0, breath - 2); drawn <= Math.min(99, breath + 1); drawn++) {
                for (int from = 5; from < 2000; from += 400) {
                    int seed = seedFor(drawn, from);
                    SoapDeeds x = sheet.in("room 5 by 5;door d at 0 4 blows 1 reach 1;open d;bubble p at 2 2 film 9 size 1;bubble q at 0 4 film 9 size 1;breath "
                        + breath + ";");
                    x.seed(seed);
                    boolean breathes = drawn < breath;
                    sheet.due(drawn + " below " + breath, x.chance(1), breathes ? 1 : 0);
                    int way = next(next(seed)) / 64 % 4;
                    seen[way] |= breathes;
                    sheet.due("the seed", x.has(12), breathes ? next(next(seed)) : next(seed));
                    place("p", x, 0, breathes ? 2 + steps[way][0] : 2, breathes ? 2 + steps[way][1] : 2);
                    place("q, where there is a DRAUGHT", x, 1, 1, 4);
                    sheet.due("no DRAUGHT is left of it", x.draught(2, 2), NONE);
                }
            }
        }
        for (int way = 0; way < 4; way++) {
            sheet.due("WAY " + way + " was drawn", seen[way], true);
        }
    }

    private void kept() {
        sheet.says("KEPT is each that BURST: SECOND, BUBBLE, the HEIR (NONE), how many DEEDS (the last 40 are told).");
        // Six at most can burst in a room, so 40 are never left behind.
        SoapDeeds x = sheet.in("room 3 by 3;heir h at 1 0 tall 0;" + six(" film 9 size 1;") + "bursts second=1;");
        sheet.due("nothing at first", x.has(9), 0);
        x.seconds(1);
        sheet.due("nothing ahead of it", x.has(9), 0);
        sheet.due("six BURST", x.seconds(1), 6);
        sheet.due("six are told", x.has(9), 6);
        for (int k = 0; k < 6; k++) {
            int which = k;
            sheet.parts("KEPT " + k + " part", what -> x.kept(which, what), 1, k, k == 1 ? 0 : NONE, 1);
        }
        x.seconds(40);
        sheet.due("six still", x.has(9), 6);
        sheet.due("no seventh", x.kept(6, 0), NONE);
        SoapDeeds last = sheet.inAt(998, "room 3 by 3;bubble p at 0 0 film 1 size 1;");
        last.seconds(1);
        sheet.due("in SECOND 998", last.kept(0, 0), 998);
        SoapDeeds joined = sheet.in(meeting("film 9 size 1", "film 9 size 1") + "bursts size=2;");
        joined.seconds(1);
        sheet.due("the joined one alone", joined.has(9), 1);
        sheet.due("how many DEEDS", joined.kept(0, 3), 2);
        SoapDeeds drawn = sheet.in("room 3 by 3;bubble p at 0 0 film 1 size 1;");
        drawn.chance(1);
        sheet.due("by the seed, too", drawn.has(9), 1);
    }

    private void acts() {
        sheet.says("ACTS: SECONDS, by the seed; a DOOR is opened, or shut; a HEIR goes to a CELL next to his (a side in common) in which none is;"
            + " the lamp is carried to a CELL.");
        SoapDeeds x = sheet.in("room 3 by 3;door d at 0 0 blows 0 reach 1;heir h at 1 1 tall 0;heir k at 1 0 tall 0;bubble p at 2 2 film 9 size 1;");
        sheet.due("none at first", x.has(11), 0);
        x.seconds(1);
        sheet.due("SECONDS", x.has(11), 1);
        x.seconds(3);
        sheet.due("three of them are one ACT", x.has(11), 2);
        x.chance(3);
        sheet.due("by the seed", x.has(11), 3);
        x.swing(0, 1);
        sheet.due("opened", x.has(11), 4);
        x.swing(0, 0);
        sheet.due("shut", x.has(11), 5);
        sheet.due("none may be in it", x.tiptoe(0, 0), false);
        sheet.due("no ACT", x.has(11), 5);
        for (int way = 1; way < 4; way++) {
            sheet.due("a HEIR goes along " + way, x.tiptoe(0, way), true);
            sheet.due("an ACT", x.has(11), 5 + way);
        }
        x.carry(2, 2);
        sheet.due("carried", x.has(11), 9);
        Sheet.felt(x, 0, 0, 2, 2);
        x.seed(5);
        x.image();
        x.later(0, 1, 0);
        sheet.due("nothing else is an ACT", x.has(11), 9);
    }

    private void lastTwenty() {
        sheet.says("The last 20 can be undone.");
        for (int acts : new int[] {1, 19, 20, 21, 22, 40, 41}) {
            SoapDeeds x = sheet.in("room 3 by 3;bubble p at 0 0 film 99 size 1;");
            for (int k = 0; k < acts; k++) {
                x.seconds(1);
            }
            int can = Math.min(20, acts);
            sheet.due("of " + acts, x.has(11), can);
            for (int k = 1; k <= can; k++) {
                sheet.due("undo " + k + " of " + acts, x.undo(), true);
                sheet.due("SECOND", x.has(5), acts - k);
                sheet.due("film", x.bubble(0, 2), 99 - acts + k);
                sheet.due("left", x.has(11), can - k);
            }
            sheet.due("no more of " + acts, x.undo(), false);
            sheet.due("SECOND", x.has(5), acts - can);
            x.seconds(1);
            sheet.due("one again", x.has(11), 1);
            sheet.due("it", x.undo(), true);
            sheet.due("SECOND", x.has(5), acts - can);
        }
    }

    private void draws() {
        sheet.says("A DRAW of m: x (the seed) becomes (1103515245 x + 12345) mod 2 to the 31; floor(x / 64) mod m.");
        for (int seed : new int[] {0, 1, 2, 3, 63, 64, 65, 12345, 65535, 65536, 1 << 30, Integer.MAX_VALUE - 1, Integer.MAX_VALUE}) {
            SoapDeeds x = sheet.in("room 3 by 3;bubble p at 1 1 film 99 size 1;");
            x.seed(seed);
            x.chance(1);
            sheet.due("from " + seed, x.has(12), next(seed));
            int later = seed;
            for (int k = 0; k < 40; k++) {
                later = next(later);
            }
            x.seed(seed);
            x.chance(40);
            sheet.due("40 from " + seed, x.has(12), later);
            int drawn = next(seed) / 64 % 100;
            SoapDeeds above = sheet.in("room 3 by 3;bubble p at 1 1 film 99 size 1;breath " + (drawn + 1) + ";");
            above.seed(seed);
            sheet.due("drawn from " + seed, above.chance(1), 1);
            SoapDeeds same = sheet.in("room 3 by 3;bubble p at 1 1 film 99 size 1;breath " + drawn + ";");
            same.seed(seed);
            sheet.due("not below itself from " + seed, same.chance(1), 0);
        }
    }
}
