/** Promises 17 to 19 and 34: the faults of five kinds, in their order, and SLACK. */
public final class FaultsTest {
    public static void main(String[] args) {
        allKinds();
        banned();
        names();
        shortPieces();
        sameCamera();
        slack();
        wrongInputs();
        Expect.end("FaultsTest");
    }

    private static void allKinds() {
        NewsReel x = Expect.made("shot 0 30;shot 0 4;shot 1 20;map rome;ban 0 3 4;week 3;",
                "shot 0;shot 1;map 0 5;shot 2;shot 0;", "rome is rome. in rome.");
        int[][] due = {{1, 0}, {1, 1}, {1, 4}, {2, 0}, {2, 2}, {3, 1}, {3, 2}, {4, 1}, {5, -1}};
        // rome begins in 0, 12 and 34: the map is on the screen from 34 to 38.
        int[] kinds = {9, 3, 2, 2, 1, 1};
        for (int kind = 0; kind < kinds.length; kind++) {
            Expect.due("faults " + kind, x.faults(kind), kinds[kind]);
        }
        for (int i = 0; i < due.length; i++) {
            Expect.due("fault " + i + " 0", x.fault(i, 0), due[i][0]);
            Expect.due("fault " + i + " 1", x.fault(i, 1), due[i][1]);
        }
        Expect.due("fits", x.fits(), false);
    }

    private static void banned() {
        NewsReel x = Expect.made("shot 0 30;shot 1 30;ban 0 3 4;ban 0 9 9;ban 1 4 4;slack 100;least 1;",
                "repeat 2{shot 0;shot 1;};", "");
        x.setVoice(20, 0);
        Expect.say(x, "a b c d e.");
        int[] weeks = {2, 3, 4, 5, 8, 9, 10};
        int[] due = {0, 2, 4, 0, 0, 2, 0};
        for (int i = 0; i < weeks.length; i++) {
            x.setWeek(weeks[i]);
            Expect.due("banned pieces in week " + weeks[i], x.faults(1), due[i]);
            Expect.due("fits in week " + weeks[i], x.fits(), due[i] == 0);
        }
    }

    private static void names() {
        NewsReel x = Expect.made("map rome;map a;speed 1;pause 0;least 1;", "", "rome a rome.");
        Expect.due("names without a reel", x.faults(2), 3);
        Expect.edit(x, "map 0 2;map 1 1;map 0 2;");
        Expect.due("names that are shown", x.faults(2), 0);
        Expect.due("fits", x.fits(), true);
        Expect.edit(x, "map 0 3;map 0 2;");
        Expect.due("a name that is not shown", x.faults(2), 1);
        Expect.due("the word", x.fault(0, 1), 1);
        Expect.edit(x, "mix 1{map 0 3;map 1 2;map 0 2;};");
        Expect.due("names in a mix", x.faults(2), 0);
        Expect.edit(x, "map 1 5;");
        Expect.due("another map", x.faults(2), 2);
    }

    private static void shortPieces() {
        NewsReel x = Expect.made("shot 0 30;map a;slack 100;", "shot 0 from 0 to 7;shot 0 from 0 to 6;map 0 7;map 0 8;", "");
        Expect.due("pieces shorter than 8", x.faults(3), 2);
        Expect.load(x, "shot 0 30;map a;slack 100;least 1;");
        Expect.edit(x, "shot 0 from 0 to 0;map 0 1;");
        Expect.due("pieces shorter than 1", x.faults(3), 0);
    }

    private static void sameCamera() {
        NewsReel x = Expect.made("shot 0 30;shot 0 30;shot 1 30;map a;",
                "shot 0;shot 1;shot 2;map 0 9;map 0 9;shot 2;repeat 2{shot 2;};mix 3{shot 0;shot 2;};", "");
        Expect.due("pieces behind one of the same camera", x.faults(4), 3);
        Expect.due("fault", x.fault(0, 1), 1);
        Expect.due("fault", x.fault(1, 1), 6);
        Expect.due("fault", x.fault(2, 1), 7);
    }

    private static void slack() {
        NewsReel x = Expect.made("map a;least 1;speed 10;", "map 0 15;", "b.");
        int[] slacks = {4, 5, 6, 0, 100};
        int[] due = {1, 0, 0, 1, 0};
        int before = 0;
        for (int i = 0; i < slacks.length; i++) {
            Expect.due("setSlack " + slacks[i], x.setSlack(slacks[i]), before);
            before = slacks[i];
            Expect.due("SLACK", x.count(7), before);
            Expect.due("faults 5 with slack " + before, x.faults(5), due[i]);
        }
        x.setSlack(4);
        Expect.due("setSlack to what it is", x.setSlack(4), 4);
        Expect.edit(x, "map 0 5;");
        Expect.due("a reel that ends ahead of the voice", x.faults(5), 1);
        Expect.edit(x, "map 0 6;");
        Expect.due("a reel that ends four frames ahead", x.faults(5), 0);
        int acts = x.account(0);
        Expect.throwsArgument("setSlack(-1)", () -> x.setSlack(-1));
        Expect.throwsArgument("setSlack(101)", () -> x.setSlack(101));
        Expect.due("acts after exceptions", x.account(0), acts);
    }

    private static void wrongInputs() {
        NewsReel x = new NewsReel();
        Expect.due("fits of a new object", x.fits(), true);
        Expect.throwsArgument("faults(-1)", () -> x.faults(-1));
        Expect.throwsArgument("faults(6)", () -> x.faults(6));
        Expect.throwsIndex("fault(0, 2)", () -> x.fault(0, 2));
        Expect.throwsIndex("fault(-1, 0)", () -> x.fault(-1, 0));
        Expect.say(x, "b.");
        Expect.due("fault", x.fault(0, 0), 5);
        Expect.due("fault", x.fault(0, 1), -1);
        Expect.throwsArgument("fault(0, 2)", () -> x.fault(0, 2));
        Expect.throwsArgument("fault(0, -1)", () -> x.fault(0, -1));
        Expect.throwsIndex("fault(1, 0)", () -> x.fault(1, 0));
        // 60 pieces and 60 words with faults of all kinds.
        NewsReel full = Expect.made("shot 0 2;map a;ban 0 0 0;", "repeat 6{repeat 5{shot 0;shot 0;};};", "a ".repeat(60) + ".");
        Expect.due("all faults", full.faults(0), 240);
        Expect.due("the last fault", full.fault(239, 0), 5);
        Expect.throwsIndex("fault(240, 0)", () -> full.fault(240, 0));
    }
}
