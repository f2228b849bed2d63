/** Promises 7 to 10 and 32: counts, shots, maps, bans, the present week. */
public final class LibraryTest {
    private static final String LIBRARY = "shot 0 30;shot 1 20;shot 0 25;shot 2 40;map rome;map oslo;"
            + "ban 1 5 9;ban 0 7 7;ban 5 0 99;least 5;speed 2;pause 6;slack 3;week 5;";

    public static void main(String[] args) {
        counts();
        shots();
        maps();
        fewerPiecesAndWords();
        bans();
        weeks();
        Expect.end("LibraryTest");
    }

    private static void counts() {
        NewsReel x = Expect.made(LIBRARY, "shot 0;repeat 3{mix 2{shot 1;};};", "we saw rome. ah.");
        int[] due = {4, 2, 3, 5, 2, 6, 5, 3, 2, 4, 4, 5, 2, 2};
        for (int what = 0; what < due.length; what++) {
            Expect.due("count " + what, x.count(what), due[what]);
        }
        Expect.throwsArgument("count(14)", () -> x.count(14));
        Expect.throwsArgument("count(-1)", () -> x.count(-1));
        Expect.throwsArgument("count(MAX)", () -> x.count(Integer.MAX_VALUE));
    }

    private static void shots() {
        NewsReel x = Expect.made(LIBRARY, "shot 0 from 3 to 7;repeat 3{mix 40{shot 1;shot 0;};};map 0 9;", "");
        int[][] due = {{0, 30, 0, 4, 95}, {1, 20, 1, 3, 60}, {0, 25, 0, 0, 0}, {2, 40, 0, 0, 0}};
        for (int shot = 0; shot < due.length; shot++) {
            for (int what = 0; what < 5; what++) {
                Expect.due("shot " + shot + " " + what, x.shot(shot, what), due[shot][what]);
            }
        }
        Expect.throwsIndex("shot(4, 0)", () -> x.shot(4, 0));
        Expect.throwsIndex("shot(-1, 9)", () -> x.shot(-1, 9));
        Expect.throwsArgument("shot(3, 5)", () -> x.shot(3, 5));
        Expect.throwsArgument("shot(0, -1)", () -> x.shot(0, -1));
    }

    private static void maps() {
        // rome is said in frames 0, 10, 20; the map is there from 10 to 14.
        NewsReel x = Expect.made("shot 0 10;map rome;map a;speed 5;pause 0;", "shot 0;map 0 5;map 1 1;map 0 2;",
                "rome. rome rome. romes.");
        int[][] due = {{4, 3, 2, 1}, {1, 0, 1, 0}};
        for (int map = 0; map < due.length; map++) {
            for (int what = 0; what < 4; what++) {
                Expect.due("map " + map + " " + what, x.map(map, what), due[map][what]);
            }
        }
        Expect.throwsIndex("map(2, 0)", () -> x.map(2, 0));
        Expect.throwsIndex("map(-1, -1)", () -> x.map(-1, -1));
        Expect.throwsArgument("map(1, 4)", () -> x.map(1, 4));
        Expect.throwsArgument("map(1, -1)", () -> x.map(1, -1));
    }

    /** A shorter reel and voice take the place of longer ones: nothing of these is counted. */
    private static void fewerPiecesAndWords() {
        NewsReel x = Expect.made("shot 0 10;map rome;", "repeat 9{shot 0;map 0 5;};", "rome rome rome.");
        Expect.edit(x, "shot 0 from 1 to 4;");
        Expect.say(x, "rome.");
        int[] dueShot = {0, 10, 0, 1, 4};
        for (int what = 0; what < dueShot.length; what++) {
            Expect.due("shot 0 " + what, x.shot(0, what), dueShot[what]);
        }
        int[] dueMap = {4, 1, 0, 0};
        for (int what = 0; what < dueMap.length; what++) {
            Expect.due("map 0 " + what, x.map(0, what), dueMap[what]);
        }
        Expect.due("items", x.count(8), 1);
        Expect.due("words", x.count(10), 1);
        Expect.throwsIndex("piece(1, 0)", () -> x.piece(1, 0));
        Expect.throwsIndex("word(1, 0)", () -> x.word(1, 0));
        Expect.due("insert", x.insert(1, 0, 3), 7);
        Expect.due("map 0 2 after insert", x.map(0, 2), 1);
    }

    private static void bans() {
        NewsReel x = new NewsReel();
        Expect.load(x, LIBRARY);
        int[][] due = {{1, 5, 9, 1}, {0, 7, 7, 2}, {5, 0, 99, 0}};
        for (int ban = 0; ban < due.length; ban++) {
            for (int what = 0; what < 4; what++) {
                Expect.due("ban " + ban + " " + what, x.ban(ban, what), due[ban][what]);
            }
        }
        Expect.throwsIndex("ban(3, 0)", () -> x.ban(3, 0));
        Expect.throwsIndex("ban(-1, 5)", () -> x.ban(-1, 5));
        Expect.throwsArgument("ban(2, 4)", () -> x.ban(2, 4));
        Expect.throwsArgument("ban(2, -1)", () -> x.ban(2, -1));
    }

    private static void weeks() {
        NewsReel x = new NewsReel();
        Expect.load(x, LIBRARY);
        int[] weeks = {0, 4, 5, 6, 7, 8, 9, 10, 99};
        int[] banned = {0, 0, 1, 1, 3, 1, 1, 0, 0};
        for (int i = 0; i < weeks.length; i++) {
            Expect.due("setWeek " + weeks[i], x.setWeek(weeks[i]), banned[i]);
            Expect.due("WEEK", x.count(3), weeks[i]);
        }
        Expect.due("setWeek 99 again", x.setWeek(99), 0);
        Expect.due("acts done", x.account(0), 10);
        Expect.due("acts that can be undone", x.count(13), 8);
        Expect.throwsArgument("setWeek(100)", () -> x.setWeek(100));
        Expect.throwsArgument("setWeek(-1)", () -> x.setWeek(-1));
        Expect.due("acts done after exceptions", x.account(0), 10);
        Expect.due("WEEK after exceptions", x.count(3), 99);
        x.undo();
        x.undo();
        x.undo();
        Expect.due("WEEK after three undos", x.count(3), 9);
        Expect.due("shot 1 is banned again", x.shot(1, 2), 1);
    }
}
