/** Promises 26 to 28: image, back, count. */
public final class ImageTest {
    public static void main(String[] args) {
        imageAndBack();
        comersSince();
        counts();
        Due.end();
    }

    private static void imageAndBack() {
        EightOars x = new EightOars();
        Due.is("there is none", x.back(), -3);
        x.rower(80, 50, 900, 1);
        x.rower(70, 40, 800, 2);
        x.sit(0, 0);
        x.rig(0, 0, 1);
        x.rig(1, 1, 7);
        x.water(0, 30);
        x.water(1, -3);
        int text = Due.text(x, "give 5;drag 1;");
        x.force(text);
        Due.plan(x, "r9");
        Due.is("one sits", x.image(), 1);
        long way = x.rown(0);
        x.sit(0, 1);
        x.sit(5, 0);
        x.rig(0, 0, 0);
        x.rig(1, 1, 2);
        x.water(0, 31);
        x.water(1, 4);
        x.force(0);
        Due.is("two sit", x.count(1), 2);
        for (int i = 0; i < 2; i++) {
            Due.is("back, one sits", x.back(), 1);
            Due.is("STORE", x.rowerTold(0, 2), 900);
            Due.is("SEAT", x.rowerTold(0, 4), 0);
            Due.is("SEAT of the other", x.rowerTold(1, 4), -1);
            Due.is("SIDE", x.rig(0, 0, 0), 1);
            Due.is("GEAR", x.rig(1, 1, 3), 7);
            Due.is("DRAG", x.water(0, 40), 30);
            Due.is("WIND", x.water(1, 9), -3);
            Due.is("THE RULE", x.force(0), text);
        }
        x.back();
        Due.is("the same ROW", x.row(0, 0), way);
        Due.is("PLANS stay", x.count(2), 1);
        Due.is("a newer one", x.sit(1, 1) + x.image(), -1 + 2);
        x.sit(1, -1);
        Due.is("the newer one is taken", x.back(), 2);
    }

    private static void comersSince() {
        EightOars x = new EightOars();
        x.rower(80, 50, 900, 1);
        x.sit(3, 0);
        Due.is("one sits", x.image(), 1);
        x.rower(70, 40, 800, 0);
        x.sit(3, 1);
        Due.plan(x, "r2");
        x.rown(0);
        int store = x.rowerTold(1, 2);
        Due.is("it has rowed", store, 800 - 88);
        Due.is("back", x.back(), 1);
        Due.is("it is there still", x.count(0), 2);
        Due.is("its STORE stays", x.rowerTold(1, 2), store);
        Due.is("it does not sit", x.rowerTold(1, 4), -1);
        Due.is("SEATS are as then", x.rowerTold(0, 4), 3);
    }

    private static void counts() {
        EightOars x = new EightOars();
        x.rower(80, 50, 900, 1);
        x.rower(71, 50, 900, 1);
        x.rower(72, 50, 900, 1);
        x.sit(0, 1);
        x.sit(7, 2);
        Due.plan(x, "r1");
        Due.text(x, "give 1;drag 1;");
        x.force(1);
        Due.feed(x, "r");
        x.piece(0, 1, 1, 1);
        x.piece(0, 2, 1, 1);
        x.piece(0, 2, 1, 1);
        x.piece(0, 2, 1, 1);
        Due.race(x, 0, 0, 0, 0, 0, 0);
        Due.race(x, 0, 0, 0, 0, 0, 0);
        int[] counts = {3, 2, 1, 2, 1, 1, 4, 2, 143};
        for (int what = 0; what < counts.length; what++) {
            Due.is("count " + what, x.count(what), counts[what]);
        }
        Due.is("count 9", x.count(9), -2);
        Due.is("count -1", x.count(-1), -2);
    }
}
