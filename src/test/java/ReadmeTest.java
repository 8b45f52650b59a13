/** The answers that README.md tells. */
public final class ReadmeTest {
    public static void main(String[] args) {
        Due d = new Due();
        SpokenMenus x = new SpokenMenus();
        d.due("menu", x.menu(5, 2, -1), 0);
        d.due("line", x.line(0, 10, 1, 0b01, 1), 1);
        d.due("line", x.line(0, 8, 2, 0b10, 1), 2);
        d.due("desk", x.desk(20, 0b11), 1);
        d.due("ring", x.ring(1, 0, 1000, 10, 0), 0);
        d.due("call", x.call(0), 39);
        d.due("fewest", x.fewest(0, 1, 0, 10), 21);
        d.due("group", x.group(50, 1, 0, 1000, 10, 0), 1);
        d.due("order", x.order(0, -1), 900);
        d.due("arrange", x.arrange(0), 0);
        d.due("order, arranged", x.order(0, -1), 400);
        d.due("wish", x.wish(0, 10, 5), 0);
        d.due("wish", x.wish(1, 4, 20), 0);
        d.due("plan", x.plan(2, 8, 2), 150);
        d.due("planned", x.planned(3, 0), 2);
        d.end();
    }
}
