/** All that an object shows, for calls that must do nothing: two pictures are to be the same. */
final class Picture {
    static final String TOWN = "rail l length 9;rail s length 5;rail t length 3;"
            + "house a length 2 weight 4 on l;house b length 2 weight 3 on l;"
            + "house c length 1 weight 2 on l;beside a c worth 5;draws 7;law many < 3;";

    private final StringBuilder shown = new StringBuilder();
    private final RailHouses x;
    private final int houses;
    private final int rails;

    private Picture(RailHouses x) {
        this.x = x;
        houses = x.about(0);
        rails = x.about(1);
    }

    /** An object in which there is something of everything. */
    static RailHouses lively() {
        RailHouses x = Checks.told(TOWN);
        x.sight(1, 1, 0, false);
        x.later(3);
        x.sight(2, 0, 0, true);
        x.later(2);
        x.untell(0);
        x.pull(0, 1, 1);
        x.image(1);
        x.pull(0, 1, 2);
        x.goal(0);
        x.goal(1);
        x.goal(2);
        x.tell(1, 1, 0);
        x.tell(2, 1, 0);
        x.fewest();
        Checks.feed(x, "rail q length 9;  ");
        return x;
    }

    /** Takes the object apart: it is of no use behind this. Some 200 calls. */
    static String of(RailHouses x) {
        Picture picture = new Picture(x);
        picture.showSeen();
        picture.showPulls();
        picture.showSights();
        picture.showHidden();
        return picture.shown.toString();
    }

    private void show(String call, long answer) {
        shown.append(call).append(' ').append(answer).append('\n');
    }

    private void showSeen() {
        for (int what = 0; what <= 10; what++) {
            show("about " + what, x.about(what));
        }
        show("fault 0", x.fault(0));
        show("fault 1", x.fault(1));
        show("worth", x.worth());
        for (int what = 0; what <= 2; what++) {
            show("judge " + what, x.judge(what));
        }
        showRow();
        showStanding();
    }

    private void showRow() {
        int many = x.about(10);
        for (int i = 0; i <= many; i++) {
            show("lies " + i, x.lies(i));
        }
    }

    private void showStanding() {
        for (int house = 0; house < houses; house++) {
            show("where " + house + " 0", x.where(house, 0));
            show("where " + house + " 1", x.where(house, 1));
        }
        for (int rail = 0; rail < rails; rail++) {
            show("on " + rail, x.on(rail, 0));
            show("room " + rail, x.room(rail));
        }
    }

    private void showPulls() {
        for (int from = 0; from < rails; from++) {
            for (int to = 0; to < rails; to++) {
                for (int many = 1; many <= 2; many++) {
                    show("asked " + from + many + to, x.asked(from, many, to));
                    show("lawful " + from + many + to, x.lawful(from, many, to));
                }
            }
        }
    }

    private void showSights() {
        for (int k = 0; k <= 5; k += 5) {
            for (int n = 0; n <= 3; n++) {
                show("fits " + n + " " + k, x.fits(n, k));
                for (int house = 0; house < houses; house++) {
                    show("can " + house + " " + n + " " + k, x.can(house, n, k));
                }
            }
        }
    }

    /** What shows by calls alone that do something. */
    private void showHidden() {
        show("spare", x.spare(4, 0));
        show("fewest", x.fewest());
        showRow();
        show("untell 0", x.untell(0) ? 1 : 0);
        show("untell 1", x.untell(1) ? 1 : 0);
        show("undo", x.undo(1));
        showStanding();
        for (int box = 0; box <= 2; box++) {
            show("back " + box, x.back(box));
            show("weight", x.about(8));
            showStanding();
        }
        show("hush", x.hush());
        show("open", x.open());
        show("town", x.town());
        show("rails", x.about(1));
        show("fault", x.fault(1));
    }
}
