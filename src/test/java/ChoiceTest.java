/** Promises 22 to 24 and 27: the best choice, week and speed, and the reel that is made of a choice. */
public final class ChoiceTest {
    public static void main(String[] args) {
        best();
        ties();
        least();
        banned();
        bestWeek();
        bestSpeed();
        assemble();
        twelveShots();
        Expect.end("ChoiceTest");
    }

    /** A voice of one word that ends in the frame speed * syllables. */
    private static NewsReel voiced(String library, String voice) {
        return Expect.made(library, "", voice);
    }

    private static void dueBest(String told, NewsReel x, int set, int waste, int size) {
        Expect.due(told + ": set", x.best(0), set);
        Expect.due(told + ": waste", x.best(1), waste);
        Expect.due(told + ": size", x.best(2), size);
    }

    private static void best() {
        NewsReel none = new NewsReel();
        dueBest("no shots", none, -1, -1, -1);
        Expect.throwsArgument("best(3)", () -> none.best(3));
        Expect.throwsArgument("best(-1)", () -> none.best(-1));
        dueBest("no voice", voiced("shot 0 30;", ""), -1, -1, -1);
        dueBest("too short", voiced("shot 0 19;shot 0 20;speed 20;", "a a."), -1, -1, -1);
    }

    private static void ties() {
        // The voice ends in frame 40.
        String voice = "a a.";
        dueBest("exact", voiced("shot 0 41;shot 0 30;shot 1 10;speed 20;", voice), 6, 0, 2);
        dueBest("fewer shots", voiced("shot 0 10;shot 0 15;shot 1 15;shot 0 40;speed 20;", voice), 8, 0, 1);
        dueBest("the least number", voiced("shot 0 20;shot 0 20;shot 1 20;speed 20;", voice), 3, 0, 2);
        dueBest("the least number of others", voiced("shot 0 10;shot 0 30;shot 1 30;shot 2 10;speed 20;", voice), 3, 0, 2);
        dueBest("waste ahead of shots", voiced("shot 0 42;shot 0 20;shot 1 21;speed 20;", voice), 6, 1, 2);
    }

    private static void least() {
        String voice = "a a.";
        // 35 + 10 waste 5, which leaves 5 of the last one.
        dueBest("the last one has LEAST", voiced("shot 0 35;shot 1 10;least 5;speed 20;", voice), 3, 5, 2);
        dueBest("the last one is too short", voiced("shot 0 35;shot 1 10;least 6;speed 20;", voice), -1, -1, -1);
        dueBest("one frame is enough", voiced("shot 0 39;shot 1 10;least 1;speed 20;", voice), 3, 9, 2);
        dueBest("none is not", voiced("shot 0 40;shot 1 10;least 41;speed 20;", voice), -1, -1, -1);
        dueBest("another last one", voiced("shot 1 10;shot 0 35;least 6;speed 20;", voice), 3, 5, 2);
    }

    private static void banned() {
        NewsReel x = voiced("shot 0 40;shot 1 45;shot 2 50;ban 0 1 2;ban 1 2 3;ban 2 2 2;speed 20;", "a a.");
        int[] sets = {1, 2, -1, 1};
        int[] wastes = {0, 5, -1, 0};
        for (int week = 0; week < 4; week++) {
            x.setWeek(week);
            dueBest("week " + week, x, sets[week], wastes[week], sets[week] < 0 ? -1 : 1);
        }
    }

    private static void bestWeek() {
        NewsReel x = voiced("shot 0 40;shot 1 45;shot 2 50;ban 0 1 6;ban 1 0 3;ban 1 8 99;ban 0 8 98;ban 2 98 98;speed 20;", "a a.");
        int[] from = {0, 1, 4, 7, 8, 98, 99};
        int[] due = {0, 7, 7, 7, 99, 99, 99};
        for (int i = 0; i < from.length; i++) {
            x.setWeek(from[i]);
            Expect.due("bestWeek from " + from[i], x.bestWeek(), due[i]);
            Expect.due("WEEK", x.count(3), from[i]);
        }
        NewsReel late = voiced("shot 0 40;ban 0 0 50;speed 20;", "a a.");
        Expect.due("the first week with a choice", late.bestWeek(), 51);
        NewsReel same = voiced("shot 0 40;shot 1 40;ban 0 0 50;speed 20;", "a a.");
        Expect.due("the first of equal weeks", same.bestWeek(), 0);
        NewsReel never = voiced("shot 0 40;ban 0 0 99;speed 20;", "a a.");
        Expect.due("no week with a choice", never.bestWeek(), -1);
    }

    private static void bestSpeed() {
        NewsReel x = Expect.made("map a;", "map 0 40;", "b b b b. b b.");
        // 6 syllables and a pause of 10: 30 frames for 6 syllables.
        Expect.due("bestSpeed", x.bestSpeed(), 5);
        Expect.due("SPEED stays", x.count(4), 4);
        x.setVoice(4, 13);
        Expect.due("the least of two", x.bestSpeed(), 4);
        x.setVoice(4, 50);
        Expect.due("the slowest voice", x.bestSpeed(), 1);
        Expect.edit(x, "map 0 400;");
        Expect.due("the fastest of all", x.bestSpeed(), 20);
        Expect.edit(x, "map 0 62;");
        Expect.due("the slowest but one", x.bestSpeed(), 2);
        Expect.edit(x, "map 0 59;");
        Expect.due("the least of the first two", x.bestSpeed(), 1);
        Expect.say(x, "");
        Expect.due("without a voice", x.bestSpeed(), 1);
    }

    private static void assemble() {
        NewsReel x = Expect.made("shot 0 12;shot 1 13;shot 2 20;ban 1 1 1;speed 20;", "shot 2;", "a a.");
        Expect.due("assemble", x.assemble(), 5);
        Expect.dueText("the reel", Expect.reelText(x), "shot 0;shot 1;shot 2 from 0 to 14;");
        Expect.due("END", x.reel(1), 40);
        Expect.due("acts", x.account(0), 3);
        x.setWeek(1);
        Expect.due("assemble without a choice", x.assemble(), -3);
        Expect.due("account(3)", x.account(3), 1);
        Expect.due("acts", x.account(0), 4);
        Expect.due("the reel stays", x.reel(0), 3);
        Expect.due("undo", x.undo(), 3);
        Expect.due("undo", x.undo(), 2);
        Expect.dueText("the reel ahead of it", Expect.reelText(x), "shot 2;");
        Expect.load(x, "shot 0 40;shot 1 9;speed 20;");
        Expect.say(x, "a a.");
        Expect.due("assemble without waste", x.assemble(), 0);
        Expect.dueText("the whole shot", Expect.reelText(x), "shot 0;");
    }

    private static void twelveShots() {
        NewsReel x = voiced("shot 0 1;shot 0 2;shot 0 4;shot 0 8;shot 0 16;shot 0 32;shot 0 64;shot 0 128;shot 0 256;"
                + "shot 1 3;shot 1 5;shot 1 400;speed 20;pause 0;least 1;", "a ".repeat(46) + ".");
        // 920 of 919: all of them are one frame short.
        dueBest("all are too short", x, -1, -1, -1);
        x.setVoice(19, 0);
        // 874: 400 with 474 = 256 + 128 + 64 + 16 + 5 + 3 + 2, of seven more; others have as many or more.
        Expect.due("waste", x.best(1), 0);
        int set = x.best(0);
        Expect.due("its size", x.best(2), Integer.bitCount(set));
        Expect.due("assemble", x.assemble(), 0);
        Expect.due("END", x.reel(1), 874);
        Expect.due("items", x.count(8), Integer.bitCount(set));
    }
}
